theorem hVS_0 {c_kept : (Nat → Nat → Int32)} {c_many : (Nat → Int32)} {c_turns : Int32} {c_stale : Int32} {c_goes : (Nat → Nat → Int32)} {c_row : (Nat → Int32)} {c_s_fields : Int32} {c_s_ties : Int32} {c_s_worth : (Nat → Int32)} {c_s_forces : (Nat → Int32)} {c_s_many : (Nat → Int32)} {c_s_codes : (Nat → Nat → Int32)} {c_s_b_list : (Nat → Nat → Int32)} {c_s_b_many : (Nat → Int32)} {c_s_p_list : (Nat → Nat → Int32)} {c_s_p_weights : (Nat → Nat → Int32)} {c_s_p_drawn : (Nat → Nat → Int32)} {c_s_p_many : (Nat → Int32)} {c_s_p_all : (Nat → Int32)} {c_s_p_turns : (Nat → Int32)} : (hVS c_kept c_many c_turns c_stale c_goes c_row c_s_fields c_s_ties c_s_worth c_s_forces c_s_many c_s_codes c_s_b_list c_s_b_many c_s_p_list c_s_p_weights c_s_p_drawn c_s_p_many c_s_p_all c_s_p_turns)[0]? = some (.inr (5, [.ref 1, .ref 4, .int c_turns, .int c_stale, .ref 5, .ref 8])) := rfl
theorem hVS_1 {c_kept : (Nat → Nat → Int32)} {c_many : (Nat → Int32)} {c_turns : Int32} {c_stale : Int32} {c_goes : (Nat → Nat → Int32)} {c_row : (Nat → Int32)} {c_s_fields : Int32} {c_s_ties : Int32} {c_s_worth : (Nat → Int32)} {c_s_forces : (Nat → Int32)} {c_s_many : (Nat → Int32)} {c_s_codes : (Nat → Nat → Int32)} {c_s_b_list : (Nat → Nat → Int32)} {c_s_b_many : (Nat → Int32)} {c_s_p_list : (Nat → Nat → Int32)} {c_s_p_weights : (Nat → Nat → Int32)} {c_s_p_drawn : (Nat → Nat → Int32)} {c_s_p_many : (Nat → Int32)} {c_s_p_all : (Nat → Int32)} {c_s_p_turns : (Nat → Int32)} : (hVS c_kept c_many c_turns c_stale c_goes c_row c_s_fields c_s_ties c_s_worth c_s_forces c_s_many c_s_codes c_s_b_list c_s_b_many c_s_p_list c_s_p_weights c_s_p_drawn c_s_p_many c_s_p_all c_s_p_turns)[1]? = some (.inl (7, 2, .inr (.inr [2, 3]))) := rfl
theorem hVS_2 {c_kept : (Nat → Nat → Int32)} {c_many : (Nat → Int32)} {c_turns : Int32} {c_stale : Int32} {c_goes : (Nat → Nat → Int32)} {c_row : (Nat → Int32)} {c_s_fields : Int32} {c_s_ties : Int32} {c_s_worth : (Nat → Int32)} {c_s_forces : (Nat → Int32)} {c_s_many : (Nat → Int32)} {c_s_codes : (Nat → Nat → Int32)} {c_s_b_list : (Nat → Nat → Int32)} {c_s_b_many : (Nat → Int32)} {c_s_p_list : (Nat → Nat → Int32)} {c_s_p_weights : (Nat → Nat → Int32)} {c_s_p_drawn : (Nat → Nat → Int32)} {c_s_p_many : (Nat → Int32)} {c_s_p_all : (Nat → Int32)} {c_s_p_turns : (Nat → Int32)} : (hVS c_kept c_many c_turns c_stale c_goes c_row c_s_fields c_s_ties c_s_worth c_s_forces c_s_many c_s_codes c_s_b_list c_s_b_many c_s_p_list c_s_p_weights c_s_p_drawn c_s_p_many c_s_p_all c_s_p_turns)[2]? = some (.inl (0, 120, .inl (c_kept 0))) := rfl
theorem hVS_3 {c_kept : (Nat → Nat → Int32)} {c_many : (Nat → Int32)} {c_turns : Int32} {c_stale : Int32} {c_goes : (Nat → Nat → Int32)} {c_row : (Nat → Int32)} {c_s_fields : Int32} {c_s_ties : Int32} {c_s_worth : (Nat → Int32)} {c_s_forces : (Nat → Int32)} {c_s_many : (Nat → Int32)} {c_s_codes : (Nat → Nat → Int32)} {c_s_b_list : (Nat → Nat → Int32)} {c_s_b_many : (Nat → Int32)} {c_s_p_list : (Nat → Nat → Int32)} {c_s_p_weights : (Nat → Nat → Int32)} {c_s_p_drawn : (Nat → Nat → Int32)} {c_s_p_many : (Nat → Int32)} {c_s_p_all : (Nat → Int32)} {c_s_p_turns : (Nat → Int32)} : (hVS c_kept c_many c_turns c_stale c_goes c_row c_s_fields c_s_ties c_s_worth c_s_forces c_s_many c_s_codes c_s_b_list c_s_b_many c_s_p_list c_s_p_weights c_s_p_drawn c_s_p_many c_s_p_all c_s_p_turns)[3]? = some (.inl (0, 120, .inl (c_kept 1))) := rfl
theorem hVS_4 {c_kept : (Nat → Nat → Int32)} {c_many : (Nat → Int32)} {c_turns : Int32} {c_stale : Int32} {c_goes : (Nat → Nat → Int32)} {c_row : (Nat → Int32)} {c_s_fields : Int32} {c_s_ties : Int32} {c_s_worth : (Nat → Int32)} {c_s_forces : (Nat → Int32)} {c_s_many : (Nat → Int32)} {c_s_codes : (Nat → Nat → Int32)} {c_s_b_list : (Nat → Nat → Int32)} {c_s_b_many : (Nat → Int32)} {c_s_p_list : (Nat → Nat → Int32)} {c_s_p_weights : (Nat → Nat → Int32)} {c_s_p_drawn : (Nat → Nat → Int32)} {c_s_p_many : (Nat → Int32)} {c_s_p_all : (Nat → Int32)} {c_s_p_turns : (Nat → Int32)} : (hVS c_kept c_many c_turns c_stale c_goes c_row c_s_fields c_s_ties c_s_worth c_s_forces c_s_many c_s_codes c_s_b_list c_s_b_many c_s_p_list c_s_p_weights c_s_p_drawn c_s_p_many c_s_p_all c_s_p_turns)[4]? = some (.inl (0, 2, .inl c_many)) := rfl
theorem hVS_5 {c_kept : (Nat → Nat → Int32)} {c_many : (Nat → Int32)} {c_turns : Int32} {c_stale : Int32} {c_goes : (Nat → Nat → Int32)} {c_row : (Nat → Int32)} {c_s_fields : Int32} {c_s_ties : Int32} {c_s_worth : (Nat → Int32)} {c_s_forces : (Nat → Int32)} {c_s_many : (Nat → Int32)} {c_s_codes : (Nat → Nat → Int32)} {c_s_b_list : (Nat → Nat → Int32)} {c_s_b_many : (Nat → Int32)} {c_s_p_list : (Nat → Nat → Int32)} {c_s_p_weights : (Nat → Nat → Int32)} {c_s_p_drawn : (Nat → Nat → Int32)} {c_s_p_many : (Nat → Int32)} {c_s_p_all : (Nat → Int32)} {c_s_p_turns : (Nat → Int32)} : (hVS c_kept c_many c_turns c_stale c_goes c_row c_s_fields c_s_ties c_s_worth c_s_forces c_s_many c_s_codes c_s_b_list c_s_b_many c_s_p_list c_s_p_weights c_s_p_drawn c_s_p_many c_s_p_all c_s_p_turns)[5]? = some (.inl (7, 2, .inr (.inr [6, 7]))) := rfl
theorem hVS_6 {c_kept : (Nat → Nat → Int32)} {c_many : (Nat → Int32)} {c_turns : Int32} {c_stale : Int32} {c_goes : (Nat → Nat → Int32)} {c_row : (Nat → Int32)} {c_s_fields : Int32} {c_s_ties : Int32} {c_s_worth : (Nat → Int32)} {c_s_forces : (Nat → Int32)} {c_s_many : (Nat → Int32)} {c_s_codes : (Nat → Nat → Int32)} {c_s_b_list : (Nat → Nat → Int32)} {c_s_b_many : (Nat → Int32)} {c_s_p_list : (Nat → Nat → Int32)} {c_s_p_weights : (Nat → Nat → Int32)} {c_s_p_drawn : (Nat → Nat → Int32)} {c_s_p_many : (Nat → Int32)} {c_s_p_all : (Nat → Int32)} {c_s_p_turns : (Nat → Int32)} : (hVS c_kept c_many c_turns c_stale c_goes c_row c_s_fields c_s_ties c_s_worth c_s_forces c_s_many c_s_codes c_s_b_list c_s_b_many c_s_p_list c_s_p_weights c_s_p_drawn c_s_p_many c_s_p_all c_s_p_turns)[6]? = some (.inl (0, 120, .inl (c_goes 0))) := rfl
theorem hVS_7 {c_kept : (Nat → Nat → Int32)} {c_many : (Nat → Int32)} {c_turns : Int32} {c_stale : Int32} {c_goes : (Nat → Nat → Int32)} {c_row : (Nat → Int32)} {c_s_fields : Int32} {c_s_ties : Int32} {c_s_worth : (Nat → Int32)} {c_s_forces : (Nat → Int32)} {c_s_many : (Nat → Int32)} {c_s_codes : (Nat → Nat → Int32)} {c_s_b_list : (Nat → Nat → Int32)} {c_s_b_many : (Nat → Int32)} {c_s_p_list : (Nat → Nat → Int32)} {c_s_p_weights : (Nat → Nat → Int32)} {c_s_p_drawn : (Nat → Nat → Int32)} {c_s_p_many : (Nat → Int32)} {c_s_p_all : (Nat → Int32)} {c_s_p_turns : (Nat → Int32)} : (hVS c_kept c_many c_turns c_stale c_goes c_row c_s_fields c_s_ties c_s_worth c_s_forces c_s_many c_s_codes c_s_b_list c_s_b_many c_s_p_list c_s_p_weights c_s_p_drawn c_s_p_many c_s_p_all c_s_p_turns)[7]? = some (.inl (0, 120, .inl (c_goes 1))) := rfl
theorem hVS_8 {c_kept : (Nat → Nat → Int32)} {c_many : (Nat → Int32)} {c_turns : Int32} {c_stale : Int32} {c_goes : (Nat → Nat → Int32)} {c_row : (Nat → Int32)} {c_s_fields : Int32} {c_s_ties : Int32} {c_s_worth : (Nat → Int32)} {c_s_forces : (Nat → Int32)} {c_s_many : (Nat → Int32)} {c_s_codes : (Nat → Nat → Int32)} {c_s_b_list : (Nat → Nat → Int32)} {c_s_b_many : (Nat → Int32)} {c_s_p_list : (Nat → Nat → Int32)} {c_s_p_weights : (Nat → Nat → Int32)} {c_s_p_drawn : (Nat → Nat → Int32)} {c_s_p_many : (Nat → Int32)} {c_s_p_all : (Nat → Int32)} {c_s_p_turns : (Nat → Int32)} : (hVS c_kept c_many c_turns c_stale c_goes c_row c_s_fields c_s_ties c_s_worth c_s_forces c_s_many c_s_codes c_s_b_list c_s_b_many c_s_p_list c_s_p_weights c_s_p_drawn c_s_p_many c_s_p_all c_s_p_turns)[8]? = some (.inl (0, 120, .inl c_row)) := rfl
theorem hVS_9 {c_kept : (Nat → Nat → Int32)} {c_many : (Nat → Int32)} {c_turns : Int32} {c_stale : Int32} {c_goes : (Nat → Nat → Int32)} {c_row : (Nat → Int32)} {c_s_fields : Int32} {c_s_ties : Int32} {c_s_worth : (Nat → Int32)} {c_s_forces : (Nat → Int32)} {c_s_many : (Nat → Int32)} {c_s_codes : (Nat → Nat → Int32)} {c_s_b_list : (Nat → Nat → Int32)} {c_s_b_many : (Nat → Int32)} {c_s_p_list : (Nat → Nat → Int32)} {c_s_p_weights : (Nat → Nat → Int32)} {c_s_p_drawn : (Nat → Nat → Int32)} {c_s_p_many : (Nat → Int32)} {c_s_p_all : (Nat → Int32)} {c_s_p_turns : (Nat → Int32)} : (hVS c_kept c_many c_turns c_stale c_goes c_row c_s_fields c_s_ties c_s_worth c_s_forces c_s_many c_s_codes c_s_b_list c_s_b_many c_s_p_list c_s_p_weights c_s_p_drawn c_s_p_many c_s_p_all c_s_p_turns)[9]? = some (.inr (4, [.int c_s_fields, .int c_s_ties, .ref 10, .ref 11, .ref 12, .ref 13, .ref 16, .ref 21])) := rfl
theorem hVS_10 {c_kept : (Nat → Nat → Int32)} {c_many : (Nat → Int32)} {c_turns : Int32} {c_stale : Int32} {c_goes : (Nat → Nat → Int32)} {c_row : (Nat → Int32)} {c_s_fields : Int32} {c_s_ties : Int32} {c_s_worth : (Nat → Int32)} {c_s_forces : (Nat → Int32)} {c_s_many : (Nat → Int32)} {c_s_codes : (Nat → Nat → Int32)} {c_s_b_list : (Nat → Nat → Int32)} {c_s_b_many : (Nat → Int32)} {c_s_p_list : (Nat → Nat → Int32)} {c_s_p_weights : (Nat → Nat → Int32)} {c_s_p_drawn : (Nat → Nat → Int32)} {c_s_p_many : (Nat → Int32)} {c_s_p_all : (Nat → Int32)} {c_s_p_turns : (Nat → Int32)} : (hVS c_kept c_many c_turns c_stale c_goes c_row c_s_fields c_s_ties c_s_worth c_s_forces c_s_many c_s_codes c_s_b_list c_s_b_many c_s_p_list c_s_p_weights c_s_p_drawn c_s_p_many c_s_p_all c_s_p_turns)[10]? = some (.inl (0, 4, .inl c_s_worth)) := rfl
theorem hVS_11 {c_kept : (Nat → Nat → Int32)} {c_many : (Nat → Int32)} {c_turns : Int32} {c_stale : Int32} {c_goes : (Nat → Nat → Int32)} {c_row : (Nat → Int32)} {c_s_fields : Int32} {c_s_ties : Int32} {c_s_worth : (Nat → Int32)} {c_s_forces : (Nat → Int32)} {c_s_many : (Nat → Int32)} {c_s_codes : (Nat → Nat → Int32)} {c_s_b_list : (Nat → Nat → Int32)} {c_s_b_many : (Nat → Int32)} {c_s_p_list : (Nat → Nat → Int32)} {c_s_p_weights : (Nat → Nat → Int32)} {c_s_p_drawn : (Nat → Nat → Int32)} {c_s_p_many : (Nat → Int32)} {c_s_p_all : (Nat → Int32)} {c_s_p_turns : (Nat → Int32)} : (hVS c_kept c_many c_turns c_stale c_goes c_row c_s_fields c_s_ties c_s_worth c_s_forces c_s_many c_s_codes c_s_b_list c_s_b_many c_s_p_list c_s_p_weights c_s_p_drawn c_s_p_many c_s_p_all c_s_p_turns)[11]? = some (.inl (0, 2, .inl c_s_forces)) := rfl
theorem hVS_12 {c_kept : (Nat → Nat → Int32)} {c_many : (Nat → Int32)} {c_turns : Int32} {c_stale : Int32} {c_goes : (Nat → Nat → Int32)} {c_row : (Nat → Int32)} {c_s_fields : Int32} {c_s_ties : Int32} {c_s_worth : (Nat → Int32)} {c_s_forces : (Nat → Int32)} {c_s_many : (Nat → Int32)} {c_s_codes : (Nat → Nat → Int32)} {c_s_b_list : (Nat → Nat → Int32)} {c_s_b_many : (Nat → Int32)} {c_s_p_list : (Nat → Nat → Int32)} {c_s_p_weights : (Nat → Nat → Int32)} {c_s_p_drawn : (Nat → Nat → Int32)} {c_s_p_many : (Nat → Int32)} {c_s_p_all : (Nat → Int32)} {c_s_p_turns : (Nat → Int32)} : (hVS c_kept c_many c_turns c_stale c_goes c_row c_s_fields c_s_ties c_s_worth c_s_forces c_s_many c_s_codes c_s_b_list c_s_b_many c_s_p_list c_s_p_weights c_s_p_drawn c_s_p_many c_s_p_all c_s_p_turns)[12]? = some (.inl (0, 2, .inl c_s_many)) := rfl
theorem hVS_13 {c_kept : (Nat → Nat → Int32)} {c_many : (Nat → Int32)} {c_turns : Int32} {c_stale : Int32} {c_goes : (Nat → Nat → Int32)} {c_row : (Nat → Int32)} {c_s_fields : Int32} {c_s_ties : Int32} {c_s_worth : (Nat → Int32)} {c_s_forces : (Nat → Int32)} {c_s_many : (Nat → Int32)} {c_s_codes : (Nat → Nat → Int32)} {c_s_b_list : (Nat → Nat → Int32)} {c_s_b_many : (Nat → Int32)} {c_s_p_list : (Nat → Nat → Int32)} {c_s_p_weights : (Nat → Nat → Int32)} {c_s_p_drawn : (Nat → Nat → Int32)} {c_s_p_many : (Nat → Int32)} {c_s_p_all : (Nat → Int32)} {c_s_p_turns : (Nat → Int32)} : (hVS c_kept c_many c_turns c_stale c_goes c_row c_s_fields c_s_ties c_s_worth c_s_forces c_s_many c_s_codes c_s_b_list c_s_b_many c_s_p_list c_s_p_weights c_s_p_drawn c_s_p_many c_s_p_all c_s_p_turns)[13]? = some (.inl (7, 2, .inr (.inr [14, 15]))) := rfl
theorem hVS_14 {c_kept : (Nat → Nat → Int32)} {c_many : (Nat → Int32)} {c_turns : Int32} {c_stale : Int32} {c_goes : (Nat → Nat → Int32)} {c_row : (Nat → Int32)} {c_s_fields : Int32} {c_s_ties : Int32} {c_s_worth : (Nat → Int32)} {c_s_forces : (Nat → Int32)} {c_s_many : (Nat → Int32)} {c_s_codes : (Nat → Nat → Int32)} {c_s_b_list : (Nat → Nat → Int32)} {c_s_b_many : (Nat → Int32)} {c_s_p_list : (Nat → Nat → Int32)} {c_s_p_weights : (Nat → Nat → Int32)} {c_s_p_drawn : (Nat → Nat → Int32)} {c_s_p_many : (Nat → Int32)} {c_s_p_all : (Nat → Int32)} {c_s_p_turns : (Nat → Int32)} : (hVS c_kept c_many c_turns c_stale c_goes c_row c_s_fields c_s_ties c_s_worth c_s_forces c_s_many c_s_codes c_s_b_list c_s_b_many c_s_p_list c_s_p_weights c_s_p_drawn c_s_p_many c_s_p_all c_s_p_turns)[14]? = some (.inl (0, 120, .inl (c_s_codes 0))) := rfl
theorem hVS_15 {c_kept : (Nat → Nat → Int32)} {c_many : (Nat → Int32)} {c_turns : Int32} {c_stale : Int32} {c_goes : (Nat → Nat → Int32)} {c_row : (Nat → Int32)} {c_s_fields : Int32} {c_s_ties : Int32} {c_s_worth : (Nat → Int32)} {c_s_forces : (Nat → Int32)} {c_s_many : (Nat → Int32)} {c_s_codes : (Nat → Nat → Int32)} {c_s_b_list : (Nat → Nat → Int32)} {c_s_b_many : (Nat → Int32)} {c_s_p_list : (Nat → Nat → Int32)} {c_s_p_weights : (Nat → Nat → Int32)} {c_s_p_drawn : (Nat → Nat → Int32)} {c_s_p_many : (Nat → Int32)} {c_s_p_all : (Nat → Int32)} {c_s_p_turns : (Nat → Int32)} : (hVS c_kept c_many c_turns c_stale c_goes c_row c_s_fields c_s_ties c_s_worth c_s_forces c_s_many c_s_codes c_s_b_list c_s_b_many c_s_p_list c_s_p_weights c_s_p_drawn c_s_p_many c_s_p_all c_s_p_turns)[15]? = some (.inl (0, 120, .inl (c_s_codes 1))) := rfl
theorem hVS_16 {c_kept : (Nat → Nat → Int32)} {c_many : (Nat → Int32)} {c_turns : Int32} {c_stale : Int32} {c_goes : (Nat → Nat → Int32)} {c_row : (Nat → Int32)} {c_s_fields : Int32} {c_s_ties : Int32} {c_s_worth : (Nat → Int32)} {c_s_forces : (Nat → Int32)} {c_s_many : (Nat → Int32)} {c_s_codes : (Nat → Nat → Int32)} {c_s_b_list : (Nat → Nat → Int32)} {c_s_b_many : (Nat → Int32)} {c_s_p_list : (Nat → Nat → Int32)} {c_s_p_weights : (Nat → Nat → Int32)} {c_s_p_drawn : (Nat → Nat → Int32)} {c_s_p_many : (Nat → Int32)} {c_s_p_all : (Nat → Int32)} {c_s_p_turns : (Nat → Int32)} : (hVS c_kept c_many c_turns c_stale c_goes c_row c_s_fields c_s_ties c_s_worth c_s_forces c_s_many c_s_codes c_s_b_list c_s_b_many c_s_p_list c_s_p_weights c_s_p_drawn c_s_p_many c_s_p_all c_s_p_turns)[16]? = some (.inl (4, 2, .inr (.inr [17, 19]))) := rfl
theorem hVS_17 {c_kept : (Nat → Nat → Int32)} {c_many : (Nat → Int32)} {c_turns : Int32} {c_stale : Int32} {c_goes : (Nat → Nat → Int32)} {c_row : (Nat → Int32)} {c_s_fields : Int32} {c_s_ties : Int32} {c_s_worth : (Nat → Int32)} {c_s_forces : (Nat → Int32)} {c_s_many : (Nat → Int32)} {c_s_codes : (Nat → Nat → Int32)} {c_s_b_list : (Nat → Nat → Int32)} {c_s_b_many : (Nat → Int32)} {c_s_p_list : (Nat → Nat → Int32)} {c_s_p_weights : (Nat → Nat → Int32)} {c_s_p_drawn : (Nat → Nat → Int32)} {c_s_p_many : (Nat → Int32)} {c_s_p_all : (Nat → Int32)} {c_s_p_turns : (Nat → Int32)} : (hVS c_kept c_many c_turns c_stale c_goes c_row c_s_fields c_s_ties c_s_worth c_s_forces c_s_many c_s_codes c_s_b_list c_s_b_many c_s_p_list c_s_p_weights c_s_p_drawn c_s_p_many c_s_p_all c_s_p_turns)[17]? = some (.inr (0, [.ref 18, .int (c_s_b_many 0)])) := rfl
theorem hVS_18 {c_kept : (Nat → Nat → Int32)} {c_many : (Nat → Int32)} {c_turns : Int32} {c_stale : Int32} {c_goes : (Nat → Nat → Int32)} {c_row : (Nat → Int32)} {c_s_fields : Int32} {c_s_ties : Int32} {c_s_worth : (Nat → Int32)} {c_s_forces : (Nat → Int32)} {c_s_many : (Nat → Int32)} {c_s_codes : (Nat → Nat → Int32)} {c_s_b_list : (Nat → Nat → Int32)} {c_s_b_many : (Nat → Int32)} {c_s_p_list : (Nat → Nat → Int32)} {c_s_p_weights : (Nat → Nat → Int32)} {c_s_p_drawn : (Nat → Nat → Int32)} {c_s_p_many : (Nat → Int32)} {c_s_p_all : (Nat → Int32)} {c_s_p_turns : (Nat → Int32)} : (hVS c_kept c_many c_turns c_stale c_goes c_row c_s_fields c_s_ties c_s_worth c_s_forces c_s_many c_s_codes c_s_b_list c_s_b_many c_s_p_list c_s_p_weights c_s_p_drawn c_s_p_many c_s_p_all c_s_p_turns)[18]? = some (.inl (0, 6, .inl (c_s_b_list 0))) := rfl
theorem hVS_19 {c_kept : (Nat → Nat → Int32)} {c_many : (Nat → Int32)} {c_turns : Int32} {c_stale : Int32} {c_goes : (Nat → Nat → Int32)} {c_row : (Nat → Int32)} {c_s_fields : Int32} {c_s_ties : Int32} {c_s_worth : (Nat → Int32)} {c_s_forces : (Nat → Int32)} {c_s_many : (Nat → Int32)} {c_s_codes : (Nat → Nat → Int32)} {c_s_b_list : (Nat → Nat → Int32)} {c_s_b_many : (Nat → Int32)} {c_s_p_list : (Nat → Nat → Int32)} {c_s_p_weights : (Nat → Nat → Int32)} {c_s_p_drawn : (Nat → Nat → Int32)} {c_s_p_many : (Nat → Int32)} {c_s_p_all : (Nat → Int32)} {c_s_p_turns : (Nat → Int32)} : (hVS c_kept c_many c_turns c_stale c_goes c_row c_s_fields c_s_ties c_s_worth c_s_forces c_s_many c_s_codes c_s_b_list c_s_b_many c_s_p_list c_s_p_weights c_s_p_drawn c_s_p_many c_s_p_all c_s_p_turns)[19]? = some (.inr (0, [.ref 20, .int (c_s_b_many 1)])) := rfl
theorem hVS_20 {c_kept : (Nat → Nat → Int32)} {c_many : (Nat → Int32)} {c_turns : Int32} {c_stale : Int32} {c_goes : (Nat → Nat → Int32)} {c_row : (Nat → Int32)} {c_s_fields : Int32} {c_s_ties : Int32} {c_s_worth : (Nat → Int32)} {c_s_forces : (Nat → Int32)} {c_s_many : (Nat → Int32)} {c_s_codes : (Nat → Nat → Int32)} {c_s_b_list : (Nat → Nat → Int32)} {c_s_b_many : (Nat → Int32)} {c_s_p_list : (Nat → Nat → Int32)} {c_s_p_weights : (Nat → Nat → Int32)} {c_s_p_drawn : (Nat → Nat → Int32)} {c_s_p_many : (Nat → Int32)} {c_s_p_all : (Nat → Int32)} {c_s_p_turns : (Nat → Int32)} : (hVS c_kept c_many c_turns c_stale c_goes c_row c_s_fields c_s_ties c_s_worth c_s_forces c_s_many c_s_codes c_s_b_list c_s_b_many c_s_p_list c_s_p_weights c_s_p_drawn c_s_p_many c_s_p_all c_s_p_turns)[20]? = some (.inl (0, 6, .inl (c_s_b_list 1))) := rfl
theorem hVS_21 {c_kept : (Nat → Nat → Int32)} {c_many : (Nat → Int32)} {c_turns : Int32} {c_stale : Int32} {c_goes : (Nat → Nat → Int32)} {c_row : (Nat → Int32)} {c_s_fields : Int32} {c_s_ties : Int32} {c_s_worth : (Nat → Int32)} {c_s_forces : (Nat → Int32)} {c_s_many : (Nat → Int32)} {c_s_codes : (Nat → Nat → Int32)} {c_s_b_list : (Nat → Nat → Int32)} {c_s_b_many : (Nat → Int32)} {c_s_p_list : (Nat → Nat → Int32)} {c_s_p_weights : (Nat → Nat → Int32)} {c_s_p_drawn : (Nat → Nat → Int32)} {c_s_p_many : (Nat → Int32)} {c_s_p_all : (Nat → Int32)} {c_s_p_turns : (Nat → Int32)} : (hVS c_kept c_many c_turns c_stale c_goes c_row c_s_fields c_s_ties c_s_worth c_s_forces c_s_many c_s_codes c_s_b_list c_s_b_many c_s_p_list c_s_p_weights c_s_p_drawn c_s_p_many c_s_p_all c_s_p_turns)[21]? = some (.inl (5, 2, .inr (.inr [22, 26]))) := rfl
theorem hVS_22 {c_kept : (Nat → Nat → Int32)} {c_many : (Nat → Int32)} {c_turns : Int32} {c_stale : Int32} {c_goes : (Nat → Nat → Int32)} {c_row : (Nat → Int32)} {c_s_fields : Int32} {c_s_ties : Int32} {c_s_worth : (Nat → Int32)} {c_s_forces : (Nat → Int32)} {c_s_many : (Nat → Int32)} {c_s_codes : (Nat → Nat → Int32)} {c_s_b_list : (Nat → Nat → Int32)} {c_s_b_many : (Nat → Int32)} {c_s_p_list : (Nat → Nat → Int32)} {c_s_p_weights : (Nat → Nat → Int32)} {c_s_p_drawn : (Nat → Nat → Int32)} {c_s_p_many : (Nat → Int32)} {c_s_p_all : (Nat → Int32)} {c_s_p_turns : (Nat → Int32)} : (hVS c_kept c_many c_turns c_stale c_goes c_row c_s_fields c_s_ties c_s_worth c_s_forces c_s_many c_s_codes c_s_b_list c_s_b_many c_s_p_list c_s_p_weights c_s_p_drawn c_s_p_many c_s_p_all c_s_p_turns)[22]? = some (.inr (3, [.ref 23, .ref 24, .ref 25, .int (c_s_p_many 0), .int (c_s_p_all 0), .int (c_s_p_turns 0)])) := rfl
theorem hVS_23 {c_kept : (Nat → Nat → Int32)} {c_many : (Nat → Int32)} {c_turns : Int32} {c_stale : Int32} {c_goes : (Nat → Nat → Int32)} {c_row : (Nat → Int32)} {c_s_fields : Int32} {c_s_ties : Int32} {c_s_worth : (Nat → Int32)} {c_s_forces : (Nat → Int32)} {c_s_many : (Nat → Int32)} {c_s_codes : (Nat → Nat → Int32)} {c_s_b_list : (Nat → Nat → Int32)} {c_s_b_many : (Nat → Int32)} {c_s_p_list : (Nat → Nat → Int32)} {c_s_p_weights : (Nat → Nat → Int32)} {c_s_p_drawn : (Nat → Nat → Int32)} {c_s_p_many : (Nat → Int32)} {c_s_p_all : (Nat → Int32)} {c_s_p_turns : (Nat → Int32)} : (hVS c_kept c_many c_turns c_stale c_goes c_row c_s_fields c_s_ties c_s_worth c_s_forces c_s_many c_s_codes c_s_b_list c_s_b_many c_s_p_list c_s_p_weights c_s_p_drawn c_s_p_many c_s_p_all c_s_p_turns)[23]? = some (.inl (0, 8, .inl (c_s_p_list 0))) := rfl
theorem hVS_24 {c_kept : (Nat → Nat → Int32)} {c_many : (Nat → Int32)} {c_turns : Int32} {c_stale : Int32} {c_goes : (Nat → Nat → Int32)} {c_row : (Nat → Int32)} {c_s_fields : Int32} {c_s_ties : Int32} {c_s_worth : (Nat → Int32)} {c_s_forces : (Nat → Int32)} {c_s_many : (Nat → Int32)} {c_s_codes : (Nat → Nat → Int32)} {c_s_b_list : (Nat → Nat → Int32)} {c_s_b_many : (Nat → Int32)} {c_s_p_list : (Nat → Nat → Int32)} {c_s_p_weights : (Nat → Nat → Int32)} {c_s_p_drawn : (Nat → Nat → Int32)} {c_s_p_many : (Nat → Int32)} {c_s_p_all : (Nat → Int32)} {c_s_p_turns : (Nat → Int32)} : (hVS c_kept c_many c_turns c_stale c_goes c_row c_s_fields c_s_ties c_s_worth c_s_forces c_s_many c_s_codes c_s_b_list c_s_b_many c_s_p_list c_s_p_weights c_s_p_drawn c_s_p_many c_s_p_all c_s_p_turns)[24]? = some (.inl (0, 8, .inl (c_s_p_weights 0))) := rfl
theorem hVS_25 {c_kept : (Nat → Nat → Int32)} {c_many : (Nat → Int32)} {c_turns : Int32} {c_stale : Int32} {c_goes : (Nat → Nat → Int32)} {c_row : (Nat → Int32)} {c_s_fields : Int32} {c_s_ties : Int32} {c_s_worth : (Nat → Int32)} {c_s_forces : (Nat → Int32)} {c_s_many : (Nat → Int32)} {c_s_codes : (Nat → Nat → Int32)} {c_s_b_list : (Nat → Nat → Int32)} {c_s_b_many : (Nat → Int32)} {c_s_p_list : (Nat → Nat → Int32)} {c_s_p_weights : (Nat → Nat → Int32)} {c_s_p_drawn : (Nat → Nat → Int32)} {c_s_p_many : (Nat → Int32)} {c_s_p_all : (Nat → Int32)} {c_s_p_turns : (Nat → Int32)} : (hVS c_kept c_many c_turns c_stale c_goes c_row c_s_fields c_s_ties c_s_worth c_s_forces c_s_many c_s_codes c_s_b_list c_s_b_many c_s_p_list c_s_p_weights c_s_p_drawn c_s_p_many c_s_p_all c_s_p_turns)[25]? = some (.inl (0, 8, .inl (c_s_p_drawn 0))) := rfl
theorem hVS_26 {c_kept : (Nat → Nat → Int32)} {c_many : (Nat → Int32)} {c_turns : Int32} {c_stale : Int32} {c_goes : (Nat → Nat → Int32)} {c_row : (Nat → Int32)} {c_s_fields : Int32} {c_s_ties : Int32} {c_s_worth : (Nat → Int32)} {c_s_forces : (Nat → Int32)} {c_s_many : (Nat → Int32)} {c_s_codes : (Nat → Nat → Int32)} {c_s_b_list : (Nat → Nat → Int32)} {c_s_b_many : (Nat → Int32)} {c_s_p_list : (Nat → Nat → Int32)} {c_s_p_weights : (Nat → Nat → Int32)} {c_s_p_drawn : (Nat → Nat → Int32)} {c_s_p_many : (Nat → Int32)} {c_s_p_all : (Nat → Int32)} {c_s_p_turns : (Nat → Int32)} : (hVS c_kept c_many c_turns c_stale c_goes c_row c_s_fields c_s_ties c_s_worth c_s_forces c_s_many c_s_codes c_s_b_list c_s_b_many c_s_p_list c_s_p_weights c_s_p_drawn c_s_p_many c_s_p_all c_s_p_turns)[26]? = some (.inr (3, [.ref 27, .ref 28, .ref 29, .int (c_s_p_many 1), .int (c_s_p_all 1), .int (c_s_p_turns 1)])) := rfl
theorem hVS_27 {c_kept : (Nat → Nat → Int32)} {c_many : (Nat → Int32)} {c_turns : Int32} {c_stale : Int32} {c_goes : (Nat → Nat → Int32)} {c_row : (Nat → Int32)} {c_s_fields : Int32} {c_s_ties : Int32} {c_s_worth : (Nat → Int32)} {c_s_forces : (Nat → Int32)} {c_s_many : (Nat → Int32)} {c_s_codes : (Nat → Nat → Int32)} {c_s_b_list : (Nat → Nat → Int32)} {c_s_b_many : (Nat → Int32)} {c_s_p_list : (Nat → Nat → Int32)} {c_s_p_weights : (Nat → Nat → Int32)} {c_s_p_drawn : (Nat → Nat → Int32)} {c_s_p_many : (Nat → Int32)} {c_s_p_all : (Nat → Int32)} {c_s_p_turns : (Nat → Int32)} : (hVS c_kept c_many c_turns c_stale c_goes c_row c_s_fields c_s_ties c_s_worth c_s_forces c_s_many c_s_codes c_s_b_list c_s_b_many c_s_p_list c_s_p_weights c_s_p_drawn c_s_p_many c_s_p_all c_s_p_turns)[27]? = some (.inl (0, 8, .inl (c_s_p_list 1))) := rfl
theorem hVS_28 {c_kept : (Nat → Nat → Int32)} {c_many : (Nat → Int32)} {c_turns : Int32} {c_stale : Int32} {c_goes : (Nat → Nat → Int32)} {c_row : (Nat → Int32)} {c_s_fields : Int32} {c_s_ties : Int32} {c_s_worth : (Nat → Int32)} {c_s_forces : (Nat → Int32)} {c_s_many : (Nat → Int32)} {c_s_codes : (Nat → Nat → Int32)} {c_s_b_list : (Nat → Nat → Int32)} {c_s_b_many : (Nat → Int32)} {c_s_p_list : (Nat → Nat → Int32)} {c_s_p_weights : (Nat → Nat → Int32)} {c_s_p_drawn : (Nat → Nat → Int32)} {c_s_p_many : (Nat → Int32)} {c_s_p_all : (Nat → Int32)} {c_s_p_turns : (Nat → Int32)} : (hVS c_kept c_many c_turns c_stale c_goes c_row c_s_fields c_s_ties c_s_worth c_s_forces c_s_many c_s_codes c_s_b_list c_s_b_many c_s_p_list c_s_p_weights c_s_p_drawn c_s_p_many c_s_p_all c_s_p_turns)[28]? = some (.inl (0, 8, .inl (c_s_p_weights 1))) := rfl
theorem hVS_29 {c_kept : (Nat → Nat → Int32)} {c_many : (Nat → Int32)} {c_turns : Int32} {c_stale : Int32} {c_goes : (Nat → Nat → Int32)} {c_row : (Nat → Int32)} {c_s_fields : Int32} {c_s_ties : Int32} {c_s_worth : (Nat → Int32)} {c_s_forces : (Nat → Int32)} {c_s_many : (Nat → Int32)} {c_s_codes : (Nat → Nat → Int32)} {c_s_b_list : (Nat → Nat → Int32)} {c_s_b_many : (Nat → Int32)} {c_s_p_list : (Nat → Nat → Int32)} {c_s_p_weights : (Nat → Nat → Int32)} {c_s_p_drawn : (Nat → Nat → Int32)} {c_s_p_many : (Nat → Int32)} {c_s_p_all : (Nat → Int32)} {c_s_p_turns : (Nat → Int32)} : (hVS c_kept c_many c_turns c_stale c_goes c_row c_s_fields c_s_ties c_s_worth c_s_forces c_s_many c_s_codes c_s_b_list c_s_b_many c_s_p_list c_s_p_weights c_s_p_drawn c_s_p_many c_s_p_all c_s_p_turns)[29]? = some (.inl (0, 8, .inl (c_s_p_drawn 1))) := rfl
theorem f5_16 : xFl RX5 16 5 1 := ⟨_, rfl, by decide, List.mem_of_getElem? (i := 99) (by decide +kernel)⟩
theorem f5_45 : xFl RX5 45 4 4 := ⟨_, rfl, by decide, List.mem_of_getElem? (i := 731) (by decide +kernel)⟩
theorem f5_11 : xFl RX5 11 5 0 := ⟨_, rfl, by decide, List.mem_of_getElem? (i := 98) (by decide +kernel)⟩
theorem dX5_keepAll_0 : decode cX5_keepAll 0 = .ok (.aload_n 0, 1) := by decide +kernel
theorem dX5_keepAll_1 : decode cX5_keepAll 1 = .ok (.getfield 16, 3) := by decide +kernel
theorem dX5_keepAll_4 : decode cX5_keepAll 4 = .ok (.iload_n 2, 1) := by decide +kernel
theorem dX5_keepAll_5 : decode cX5_keepAll 5 = .ok (.aload_n 1, 1) := by decide +kernel
theorem dX5_keepAll_6 : decode cX5_keepAll 6 = .ok (.getfield 45, 3) := by decide +kernel
theorem dX5_keepAll_9 : decode cX5_keepAll 9 = .ok (.iload_n 2, 1) := by decide +kernel
theorem dX5_keepAll_10 : decode cX5_keepAll 10 = .ok (.iaload, 1) := by decide +kernel
theorem dX5_keepAll_11 : decode cX5_keepAll 11 = .ok (.iastore, 1) := by decide +kernel
theorem dX5_keepAll_12 : decode cX5_keepAll 12 = .ok (.iconst 0, 1) := by decide +kernel
theorem dX5_keepAll_13 : decode cX5_keepAll 13 = .ok (.istore_n 3, 1) := by decide +kernel
theorem dX5_keepAll_14 : decode cX5_keepAll 14 = .ok (.iload_n 3, 1) := by decide +kernel
theorem dX5_keepAll_15 : decode cX5_keepAll 15 = .ok (.aload_n 0, 1) := by decide +kernel
theorem dX5_keepAll_16 : decode cX5_keepAll 16 = .ok (.getfield 16, 3) := by decide +kernel
theorem dX5_keepAll_19 : decode cX5_keepAll 19 = .ok (.iload_n 2, 1) := by decide +kernel
theorem dX5_keepAll_20 : decode cX5_keepAll 20 = .ok (.iaload, 1) := by decide +kernel
theorem dX5_keepAll_21 : decode cX5_keepAll 21 = .ok (.if_icmp .ge 18, 3) := by decide +kernel
theorem dX5_keepAll_24 : decode cX5_keepAll 24 = .ok (.aload_n 0, 1) := by decide +kernel
theorem dX5_keepAll_25 : decode cX5_keepAll 25 = .ok (.getfield 11, 3) := by decide +kernel
theorem dX5_keepAll_28 : decode cX5_keepAll 28 = .ok (.iload_n 2, 1) := by decide +kernel
theorem dX5_keepAll_29 : decode cX5_keepAll 29 = .ok (.aaload, 1) := by decide +kernel
theorem dX5_keepAll_30 : decode cX5_keepAll 30 = .ok (.iload_n 3, 1) := by decide +kernel
theorem dX5_keepAll_31 : decode cX5_keepAll 31 = .ok (.iload_n 3, 1) := by decide +kernel
theorem dX5_keepAll_32 : decode cX5_keepAll 32 = .ok (.iastore, 1) := by decide +kernel
theorem dX5_keepAll_33 : decode cX5_keepAll 33 = .ok (.iinc 3 1, 3) := by decide +kernel
theorem dX5_keepAll_36 : decode cX5_keepAll 36 = .ok (.goto (-22), 3) := by decide +kernel
theorem dX5_keepAll_39 : decode cX5_keepAll 39 = .ok (.return_, 1) := by decide +kernel
abbrev j5_keepAll : xJ := (cX5_keepAll, 4, RX5, 1, 0, 0)
def F5_keepAll_b14 (z : Nat) (w : Nat) (x2 : Int32) (x3 : Int32) (c_kept : (Nat → Nat → Int32)) (c_many : (Nat → Int32)) (c_s_many : (Nat → Int32)) : Option ((Nat → Nat → Int32) × (Nat → Int32)) := match w with
  | 0 => none
  | w + 1 => xg (xin x2 2) (if (c_many (xn x2)) ≤ x3 then (some (c_kept, c_many)) else (xg (xin x2 2) (xg (xin x3 120) (F5_keepAll_b14 z w x2 (x3 + (1 : Int32)) (va_up c_kept (xn x2) (upd (c_kept (xn x2)) (xn x3) x3)) c_many c_s_many))))
theorem T5_keepAll_b14 {X : xX} {c_turns : Int32} {c_stale : Int32} {c_goes : (Nat → Nat → Int32)} {c_row : (Nat → Int32)} {c_s_fields : Int32} {c_s_ties : Int32} {c_s_worth : (Nat → Int32)} {c_s_forces : (Nat → Int32)} {c_s_many : (Nat → Int32)} {c_s_codes : (Nat → Nat → Int32)} {c_s_b_list : (Nat → Nat → Int32)} {c_s_b_many : (Nat → Int32)} {c_s_p_list : (Nat → Nat → Int32)} {c_s_p_weights : (Nat → Nat → Int32)} {c_s_p_drawn : (Nat → Nat → Int32)} {c_s_p_many : (Nat → Int32)} {c_s_p_all : (Nat → Int32)} {c_s_p_turns : (Nat → Int32)} {z : Nat} {v : (Nat → Nat → Int32) × (Nat → Int32)} (hX : xIs (j5_keepAll) X none none (hVS v.1 v.2 c_turns c_stale c_goes c_row c_s_fields c_s_ties c_s_worth c_s_forces c_s_many c_s_codes c_s_b_list c_s_b_many c_s_p_list c_s_p_weights c_s_p_drawn c_s_p_many c_s_p_all c_s_p_turns)) : ∀ (w : Nat) {x2 : Int32} {x3 : Int32} {c_kept : (Nat → Nat → Int32)} {c_many : (Nat → Int32)}, F5_keepAll_b14 z w x2 x3 c_kept c_many c_s_many = some v → xV (j5_keepAll) X 0 0 (hVS c_kept c_many c_turns c_stale c_goes c_row c_s_fields c_s_ties c_s_worth c_s_forces c_s_many c_s_codes c_s_b_list c_s_b_many c_s_p_list c_s_p_weights c_s_p_drawn c_s_p_many c_s_p_all c_s_p_turns) 14 [(0, .ref 0), (2, .int x2), (3, .int x3)] [] := by
  intro w
  induction w with
  | zero => intro x2 x3 c_kept c_many hf; cases hf
  | succ w ih =>
    intro x2 x3 c_kept c_many hf
    unfold F5_keepAll_b14 at hf
    refine xV_iload_n 15 rfl dX5_keepAll_14 rfl 2 rfl ?_
    refine xV_aload_n 16 rfl dX5_keepAll_15 rfl 0 rfl ?_
    refine xV_get (v := .ref 4) 19 rfl dX5_keepAll_16 f5_16 rfl rfl ?_
    refine xV_iload_n 20 rfl dX5_keepAll_19 rfl 1 rfl ?_
    obtain ⟨hg20, hf⟩ := xg_s hf
    refine xV_iaload 21 rfl dX5_keepAll_20 rfl (xin_ok hg20) rfl ?_
    refine xV_icmp_ge (tgt := 39) 24 rfl dX5_keepAll_21 (by decide) (fun h21 => ?_) (fun h21 => ?_)
    · have hf := xif_t hf h21
      obtain rfl := Option.some.inj hf
      exact xV_vret hX dX5_keepAll_39 (Nat.zero_le _) (Nat.zero_le _)
    · have hf := xif_f hf h21
      refine xV_aload_n 25 rfl dX5_keepAll_24 rfl 0 rfl ?_
      refine xV_get (v := .ref 1) 28 rfl dX5_keepAll_25 f5_11 rfl rfl ?_
      refine xV_iload_n 29 rfl dX5_keepAll_28 rfl 1 rfl ?_
      obtain ⟨hg29, hf⟩ := xg_s hf
      refine xV_aaload (b := (2 + (xn x2))) 30 rfl dX5_keepAll_29 rfl rfl rfl (xin_ok hg29) (by show ([2, 3] : List Nat)[(xn x2)]? = some (2 + (xn x2)); have hi := xin_lt hg29; generalize (xn x2) = i at hi ⊢; match i, hi with | 0, _ => rfl | 1, _ => rfl) ?_
      refine xV_iload_n 31 rfl dX5_keepAll_30 rfl 2 rfl ?_
      refine xV_iload_n 32 rfl dX5_keepAll_31 rfl 2 rfl ?_
      obtain ⟨hg32, hf⟩ := xg_s hf
      refine xV_iastore (f := (c_kept (xn x2))) (z := 120) (h' := (hVS (va_up c_kept (xn x2) (upd (c_kept (xn x2)) (xn x3) x3)) c_many c_turns c_stale c_goes c_row c_s_fields c_s_ties c_s_worth c_s_forces c_s_many c_s_codes c_s_b_list c_s_b_many c_s_p_list c_s_p_weights c_s_p_drawn c_s_p_many c_s_p_all c_s_p_turns)) (j := (xn x3)) 33 rfl dX5_keepAll_32 (by have hi := (xin_lt hg29); generalize (xn x2) = i at hi ⊢; match i, hi with | 0, _ => exact rfl | 1, _ => exact rfl) (xin_ok hg32) rfl (by have hi := (xin_lt hg29); generalize (xn x2) = i at hi ⊢; match i, hi with | 0, _ => exact rfl | 1, _ => exact rfl) ?_
      refine xV_iinc (L' := [(3, .int (x3 + (1 : Int32))), (0, .ref 0), (2, .int x2)]) 36 rfl dX5_keepAll_33 2 rfl (xk_inc xy_i1) (xlt rfl) rfl ?_
      refine xV_goto (tgt := 14) dX5_keepAll_36 (by decide) ?_
      refine xV_sub [1, 2, 0] rfl ?_
      exact ih hf
def F5_keepAll (z : Nat) (x2 : Int32) (c_kept : (Nat → Nat → Int32)) (c_many : (Nat → Int32)) (c_s_many : (Nat → Int32)) : Option ((Nat → Nat → Int32) × (Nat → Int32)) :=
  xg (xin x2 2) (xg (xin x2 2) (F5_keepAll_b14 z z x2 (0 : Int32) c_kept (upd c_many (xn x2) (c_s_many (xn x2))) c_s_many))
theorem T5_keepAll {X : xX} {z : Nat} {x2 : Int32} {c_kept : (Nat → Nat → Int32)} {c_many : (Nat → Int32)} {c_s_many : (Nat → Int32)} {c_turns : Int32} {c_stale : Int32} {c_goes : (Nat → Nat → Int32)} {c_row : (Nat → Int32)} {c_s_fields : Int32} {c_s_ties : Int32} {c_s_worth : (Nat → Int32)} {c_s_forces : (Nat → Int32)} {c_s_codes : (Nat → Nat → Int32)} {c_s_b_list : (Nat → Nat → Int32)} {c_s_b_many : (Nat → Int32)} {c_s_p_list : (Nat → Nat → Int32)} {c_s_p_weights : (Nat → Nat → Int32)} {c_s_p_drawn : (Nat → Nat → Int32)} {c_s_p_many : (Nat → Int32)} {c_s_p_all : (Nat → Int32)} {c_s_p_turns : (Nat → Int32)} {v : (Nat → Nat → Int32) × (Nat → Int32)} (hX : xIs (j5_keepAll) X none none (hVS v.1 v.2 c_turns c_stale c_goes c_row c_s_fields c_s_ties c_s_worth c_s_forces c_s_many c_s_codes c_s_b_list c_s_b_many c_s_p_list c_s_p_weights c_s_p_drawn c_s_p_many c_s_p_all c_s_p_turns)) (hf : F5_keepAll z x2 c_kept c_many c_s_many = some v) : xV (j5_keepAll) X 0 0 (hVS c_kept c_many c_turns c_stale c_goes c_row c_s_fields c_s_ties c_s_worth c_s_forces c_s_many c_s_codes c_s_b_list c_s_b_many c_s_p_list c_s_p_weights c_s_p_drawn c_s_p_many c_s_p_all c_s_p_turns) 0 [(0, .ref 0), (1, .ref 9), (2, .int x2)] [] := by
  unfold F5_keepAll at hf
  refine xV_aload_n 1 rfl dX5_keepAll_0 rfl 0 rfl ?_
  refine xV_get (v := .ref 4) 4 rfl dX5_keepAll_1 f5_16 rfl rfl ?_
  refine xV_iload_n 5 rfl dX5_keepAll_4 rfl 2 rfl ?_
  refine xV_aload_n 6 rfl dX5_keepAll_5 rfl 1 rfl ?_
  refine xV_get (v := .ref 12) 9 rfl dX5_keepAll_6 f5_45 rfl rfl ?_
  refine xV_iload_n 10 rfl dX5_keepAll_9 rfl 2 rfl ?_
  obtain ⟨hg10, hf⟩ := xg_s hf
  refine xV_iaload 11 rfl dX5_keepAll_10 rfl (xin_ok hg10) rfl ?_
  obtain ⟨hg11, hf⟩ := xg_s hf
  refine xV_iastore (h' := (hVS c_kept (upd c_many (xn x2) (c_s_many (xn x2))) c_turns c_stale c_goes c_row c_s_fields c_s_ties c_s_worth c_s_forces c_s_many c_s_codes c_s_b_list c_s_b_many c_s_p_list c_s_p_weights c_s_p_drawn c_s_p_many c_s_p_all c_s_p_turns)) (j := (xn x2)) 12 rfl dX5_keepAll_11 rfl (xin_ok hg11) rfl rfl ?_
  refine xV_iconst 13 rfl dX5_keepAll_12 xy_i0 ?_
  refine xV_istore_n (L' := [(3, .int (0 : Int32)), (0, .ref 0), (1, .ref 9), (2, .int x2)]) 14 rfl dX5_keepAll_13 rfl (xlt rfl) rfl ?_
  refine xV_sub [1, 3, 0] rfl ?_
  exact T5_keepAll_b14 hX _ hf
theorem C5_keepAll (l : Launch) {z : Nat} {x2 : Int32} {c_kept : (Nat → Nat → Int32)} {c_many : (Nat → Int32)} {c_s_many : (Nat → Int32)} {c_turns : Int32} {c_stale : Int32} {c_goes : (Nat → Nat → Int32)} {c_row : (Nat → Int32)} {c_s_fields : Int32} {c_s_ties : Int32} {c_s_worth : (Nat → Int32)} {c_s_forces : (Nat → Int32)} {c_s_codes : (Nat → Nat → Int32)} {c_s_b_list : (Nat → Nat → Int32)} {c_s_b_many : (Nat → Int32)} {c_s_p_list : (Nat → Nat → Int32)} {c_s_p_weights : (Nat → Nat → Int32)} {c_s_p_drawn : (Nat → Nat → Int32)} {c_s_p_many : (Nat → Int32)} {c_s_p_all : (Nat → Int32)} {c_s_p_turns : (Nat → Int32)} {v : (Nat → Nat → Int32) × (Nat → Int32)} (hf : F5_keepAll z x2 c_kept c_many c_s_many = some v) : xCt l yX5_keepAll none j5_keepAll [.ref 0, .ref 9, .int x2] (hVS c_kept c_many c_turns c_stale c_goes c_row c_s_fields c_s_ties c_s_worth c_s_forces c_s_many c_s_codes c_s_b_list c_s_b_many c_s_p_list c_s_p_weights c_s_p_drawn c_s_p_many c_s_p_all c_s_p_turns) none (hVS v.1 v.2 c_turns c_stale c_goes c_row c_s_fields c_s_ties c_s_worth c_s_forces c_s_many c_s_codes c_s_b_list c_s_b_many c_s_p_list c_s_p_weights c_s_p_drawn c_s_p_many c_s_p_all c_s_p_turns) := xCt_of (by decide) rfl (Nat.le_of_ble_eq_true rfl) (fun _ hX => T5_keepAll hX hf)
theorem m5_keepAll : xMd yX5_keepAll RX5 none j5_keepAll 2 := ⟨List.mem_of_getElem? (i := 730) (by decide +kernel), List.mem_of_getElem? (i := 29) (by decide +kernel), rfl, by decide +kernel⟩
theorem v5_keepAll : xMv yX5_keepAll RX5 := ⟨List.mem_of_getElem? (i := 728) (by decide +kernel), List.mem_of_getElem? (i := 729) (by decide +kernel)⟩
theorem f5_27 : xFl RX5 27 5 5 := ⟨_, rfl, by decide, List.mem_of_getElem? (i := 102) (by decide +kernel)⟩
theorem k5_56 : Cond.methodLink RX5 56 yX4_gainFor ∈ wsL_law0 := List.mem_of_getElem? (i := 741) (by decide +kernel)
theorem e_VS_S_L9 {c_kept : (Nat → Nat → Int32)} {c_many : (Nat → Int32)} {c_turns : Int32} {c_stale : Int32} {c_goes : (Nat → Nat → Int32)} {c_row : (Nat → Int32)} {c_s_fields : Int32} {c_s_ties : Int32} {c_s_worth : (Nat → Int32)} {c_s_forces : (Nat → Int32)} {c_s_many : (Nat → Int32)} {c_s_codes : (Nat → Nat → Int32)} {c_s_b_list : (Nat → Nat → Int32)} {c_s_b_many : (Nat → Int32)} {c_s_p_list : (Nat → Nat → Int32)} {c_s_p_weights : (Nat → Nat → Int32)} {c_s_p_drawn : (Nat → Nat → Int32)} {c_s_p_many : (Nat → Int32)} {c_s_p_all : (Nat → Int32)} {c_s_p_turns : (Nat → Int32)} {d_fields : Int32} {d_ties : Int32} {d_worth : (Nat → Int32)} {d_forces : (Nat → Int32)} {d_many : (Nat → Int32)} {d_codes : (Nat → Nat → Int32)} {d_b_list : (Nat → Nat → Int32)} {d_b_many : (Nat → Int32)} {d_p_list : (Nat → Nat → Int32)} {d_p_weights : (Nat → Nat → Int32)} {d_p_drawn : (Nat → Nat → Int32)} {d_p_many : (Nat → Int32)} {d_p_all : (Nat → Int32)} {d_p_turns : (Nat → Int32)} : xEmb (fun j => 9 + j) (hS c_s_fields c_s_ties c_s_worth c_s_forces c_s_many c_s_codes c_s_b_list c_s_b_many c_s_p_list c_s_p_weights c_s_p_drawn c_s_p_many c_s_p_all c_s_p_turns) (hS d_fields d_ties d_worth d_forces d_many d_codes d_b_list d_b_many d_p_list d_p_weights d_p_drawn d_p_many d_p_all d_p_turns) (hVS c_kept c_many c_turns c_stale c_goes c_row c_s_fields c_s_ties c_s_worth c_s_forces c_s_many c_s_codes c_s_b_list c_s_b_many c_s_p_list c_s_p_weights c_s_p_drawn c_s_p_many c_s_p_all c_s_p_turns) (hVS c_kept c_many c_turns c_stale c_goes c_row d_fields d_ties d_worth d_forces d_many d_codes d_b_list d_b_many d_p_list d_p_weights d_p_drawn d_p_many d_p_all d_p_turns) 4 := ⟨by show xNd _ 21 = true; decide +kernel, And.intro hVS_9 (And.intro hVS_10 (And.intro hVS_11 (And.intro hVS_12 (And.intro hVS_13 (And.intro hVS_14 (And.intro hVS_15 (And.intro hVS_16 (And.intro hVS_17 (And.intro hVS_18 (And.intro hVS_19 (And.intro hVS_20 (And.intro hVS_21 (And.intro hVS_22 (And.intro hVS_23 (And.intro hVS_24 (And.intro hVS_25 (And.intro hVS_26 (And.intro hVS_27 (And.intro hVS_28 (And.intro hVS_29 (trivial))))))))))))))))))))), And.intro hVS_9 (And.intro hVS_10 (And.intro hVS_11 (And.intro hVS_12 (And.intro hVS_13 (And.intro hVS_14 (And.intro hVS_15 (And.intro hVS_16 (And.intro hVS_17 (And.intro hVS_18 (And.intro hVS_19 (And.intro hVS_20 (And.intro hVS_21 (And.intro hVS_22 (And.intro hVS_23 (And.intro hVS_24 (And.intro hVS_25 (And.intro hVS_26 (And.intro hVS_27 (And.intro hVS_28 (And.intro hVS_29 (trivial))))))))))))))))))))), ⟨[0, 1, 2, 3, 4, 5, 6, 7, 8], And.intro (xeq3 hVS_0 hVS_0 rfl) (And.intro (xeq3 hVS_1 hVS_1 rfl) (And.intro (xeq3 hVS_2 hVS_2 rfl) (And.intro (xeq3 hVS_3 hVS_3 rfl) (And.intro (xeq3 hVS_4 hVS_4 rfl) (And.intro (xeq3 hVS_5 hVS_5 rfl) (And.intro (xeq3 hVS_6 hVS_6 rfl) (And.intro (xeq3 hVS_7 hVS_7 rfl) (And.intro (xeq3 hVS_8 hVS_8 rfl) (trivial))))))))), by show xCov _ 21 _ 30 = true; decide +kernel⟩, rfl, ⟨_, hVS_9⟩⟩
theorem dX5_isAboveRow_0 : decode cX5_isAboveRow 0 = .ok (.iconst 1, 1) := by decide +kernel
theorem dX5_isAboveRow_1 : decode cX5_isAboveRow 1 = .ok (.iload_n 2, 1) := by decide +kernel
theorem dX5_isAboveRow_2 : decode cX5_isAboveRow 2 = .ok (.isub, 1) := by decide +kernel
theorem dX5_isAboveRow_3 : decode cX5_isAboveRow 3 = .ok (.istore 4, 2) := by decide +kernel
theorem dX5_isAboveRow_5 : decode cX5_isAboveRow 5 = .ok (.iconst 0, 1) := by decide +kernel
theorem dX5_isAboveRow_6 : decode cX5_isAboveRow 6 = .ok (.istore 5, 2) := by decide +kernel
theorem dX5_isAboveRow_8 : decode cX5_isAboveRow 8 = .ok (.iload 5, 2) := by decide +kernel
theorem dX5_isAboveRow_10 : decode cX5_isAboveRow 10 = .ok (.aload_n 0, 1) := by decide +kernel
theorem dX5_isAboveRow_11 : decode cX5_isAboveRow 11 = .ok (.getfield 16, 3) := by decide +kernel
theorem dX5_isAboveRow_14 : decode cX5_isAboveRow 14 = .ok (.iload 4, 2) := by decide +kernel
theorem dX5_isAboveRow_16 : decode cX5_isAboveRow 16 = .ok (.iaload, 1) := by decide +kernel
theorem dX5_isAboveRow_17 : decode cX5_isAboveRow 17 = .ok (.if_icmp .ge 37, 3) := by decide +kernel
theorem dX5_isAboveRow_20 : decode cX5_isAboveRow 20 = .ok (.aload_n 0, 1) := by decide +kernel
theorem dX5_isAboveRow_21 : decode cX5_isAboveRow 21 = .ok (.getfield 27, 3) := by decide +kernel
theorem dX5_isAboveRow_24 : decode cX5_isAboveRow 24 = .ok (.iload 5, 2) := by decide +kernel
theorem dX5_isAboveRow_26 : decode cX5_isAboveRow 26 = .ok (.iaload, 1) := by decide +kernel
theorem dX5_isAboveRow_27 : decode cX5_isAboveRow 27 = .ok (.aload_n 1, 1) := by decide +kernel
theorem dX5_isAboveRow_28 : decode cX5_isAboveRow 28 = .ok (.iload_n 2, 1) := by decide +kernel
theorem dX5_isAboveRow_29 : decode cX5_isAboveRow 29 = .ok (.iload_n 3, 1) := by decide +kernel
theorem dX5_isAboveRow_30 : decode cX5_isAboveRow 30 = .ok (.aload_n 0, 1) := by decide +kernel
theorem dX5_isAboveRow_31 : decode cX5_isAboveRow 31 = .ok (.getfield 11, 3) := by decide +kernel
theorem dX5_isAboveRow_34 : decode cX5_isAboveRow 34 = .ok (.iload 4, 2) := by decide +kernel
theorem dX5_isAboveRow_36 : decode cX5_isAboveRow 36 = .ok (.aaload, 1) := by decide +kernel
theorem dX5_isAboveRow_37 : decode cX5_isAboveRow 37 = .ok (.iload 5, 2) := by decide +kernel
theorem dX5_isAboveRow_39 : decode cX5_isAboveRow 39 = .ok (.iaload, 1) := by decide +kernel
theorem dX5_isAboveRow_40 : decode cX5_isAboveRow 40 = .ok (.invokevirtual 56, 3) := by decide +kernel
theorem dX5_isAboveRow_43 : decode cX5_isAboveRow 43 = .ok (.if_icmp .lt 5, 3) := by decide +kernel
theorem dX5_isAboveRow_46 : decode cX5_isAboveRow 46 = .ok (.iconst 0, 1) := by decide +kernel
theorem dX5_isAboveRow_47 : decode cX5_isAboveRow 47 = .ok (.ireturn, 1) := by decide +kernel
theorem dX5_isAboveRow_48 : decode cX5_isAboveRow 48 = .ok (.iinc 5 1, 3) := by decide +kernel
theorem dX5_isAboveRow_51 : decode cX5_isAboveRow 51 = .ok (.goto (-43), 3) := by decide +kernel
theorem dX5_isAboveRow_54 : decode cX5_isAboveRow 54 = .ok (.iconst 1, 1) := by decide +kernel
theorem dX5_isAboveRow_55 : decode cX5_isAboveRow 55 = .ok (.ireturn, 1) := by decide +kernel
abbrev j5_isAboveRow : xJ := (cX5_isAboveRow, 6, RX5, 3, 0, 0)
def F5_isAboveRow_b8 (z : Nat) (w : Nat) (x2 : Int32) (x3 : Int32) (x4 : Int32) (x5 : Int32) (c_kept : (Nat → Nat → Int32)) (c_many : (Nat → Int32)) (c_row : (Nat → Int32)) (c_s_fields : Int32) (c_s_ties : Int32) (c_s_worth : (Nat → Int32)) (c_s_codes : (Nat → Nat → Int32)) : Option (Int32) := match w with
  | 0 => none
  | w + 1 => xg (xin x4 2) (if (c_many (xn x4)) ≤ x5 then (some ((1 : Int32))) else (xg (xin x5 120) (xg (xin x4 2) (xg (xin x5 120) ((F4_gainFor z x2 x3 ((c_kept (xn x4)) (xn x5)) c_s_fields c_s_ties c_s_worth c_s_codes).bind (fun v40 => if (c_row (xn x5)) < v40 then (F5_isAboveRow_b8 z w x2 x3 x4 (x5 + (1 : Int32)) c_kept c_many c_row c_s_fields c_s_ties c_s_worth c_s_codes) else (some ((0 : Int32)))))))))
theorem T5_isAboveRow_b8 {X : xX} {c_kept : (Nat → Nat → Int32)} {c_many : (Nat → Int32)} {c_turns : Int32} {c_stale : Int32} {c_goes : (Nat → Nat → Int32)} {c_row : (Nat → Int32)} {c_s_fields : Int32} {c_s_ties : Int32} {c_s_worth : (Nat → Int32)} {c_s_forces : (Nat → Int32)} {c_s_many : (Nat → Int32)} {c_s_codes : (Nat → Nat → Int32)} {c_s_b_list : (Nat → Nat → Int32)} {c_s_b_many : (Nat → Int32)} {c_s_p_list : (Nat → Nat → Int32)} {c_s_p_weights : (Nat → Nat → Int32)} {c_s_p_drawn : (Nat → Nat → Int32)} {c_s_p_many : (Nat → Int32)} {c_s_p_all : (Nat → Int32)} {c_s_p_turns : (Nat → Int32)} {z : Nat} {v : Int32} (hX : xIs (j5_isAboveRow) X ((some .boolean)) (some (.int v)) (hVS c_kept c_many c_turns c_stale c_goes c_row c_s_fields c_s_ties c_s_worth c_s_forces c_s_many c_s_codes c_s_b_list c_s_b_many c_s_p_list c_s_p_weights c_s_p_drawn c_s_p_many c_s_p_all c_s_p_turns)) : ∀ (w : Nat) {x2 : Int32} {x3 : Int32} {x4 : Int32} {x5 : Int32}, F5_isAboveRow_b8 z w x2 x3 x4 x5 c_kept c_many c_row c_s_fields c_s_ties c_s_worth c_s_codes = some v → xV (j5_isAboveRow) X 0 0 (hVS c_kept c_many c_turns c_stale c_goes c_row c_s_fields c_s_ties c_s_worth c_s_forces c_s_many c_s_codes c_s_b_list c_s_b_many c_s_p_list c_s_p_weights c_s_p_drawn c_s_p_many c_s_p_all c_s_p_turns) 8 [(0, .ref 0), (1, .ref 9), (2, .int x2), (3, .int x3), (4, .int x4), (5, .int x5)] [] := by
  intro w
  induction w with
  | zero => intro x2 x3 x4 x5 hf; cases hf
  | succ w ih =>
    intro x2 x3 x4 x5 hf
    unfold F5_isAboveRow_b8 at hf
    refine xV_iload 10 rfl dX5_isAboveRow_8 5 rfl ?_
    refine xV_aload_n 11 rfl dX5_isAboveRow_10 rfl 0 rfl ?_
    refine xV_get (v := .ref 4) 14 rfl dX5_isAboveRow_11 f5_16 rfl rfl ?_
    refine xV_iload 16 rfl dX5_isAboveRow_14 4 rfl ?_
    obtain ⟨hg16, hf⟩ := xg_s hf
    refine xV_iaload 17 rfl dX5_isAboveRow_16 rfl (xin_ok hg16) rfl ?_
    refine xV_icmp_ge (tgt := 54) 20 rfl dX5_isAboveRow_17 (by decide) (fun h17 => ?_) (fun h17 => ?_)
    · have hf := xif_t hf h17
      refine xV_iconst 55 rfl dX5_isAboveRow_54 xy_i1 ?_
      obtain rfl := Option.some.inj hf
      exact xV_iret hX dX5_isAboveRow_55 (xbo_ok rfl) (Nat.zero_le _) (Nat.zero_le _)
    · have hf := xif_f hf h17
      refine xV_aload_n 21 rfl dX5_isAboveRow_20 rfl 0 rfl ?_
      refine xV_get (v := .ref 8) 24 rfl dX5_isAboveRow_21 f5_27 rfl rfl ?_
      refine xV_iload 26 rfl dX5_isAboveRow_24 5 rfl ?_
      obtain ⟨hg26, hf⟩ := xg_s hf
      refine xV_iaload 27 rfl dX5_isAboveRow_26 rfl (xin_ok hg26) rfl ?_
      refine xV_aload_n 28 rfl dX5_isAboveRow_27 rfl 1 rfl ?_
      refine xV_iload_n 29 rfl dX5_isAboveRow_28 rfl 2 rfl ?_
      refine xV_iload_n 30 rfl dX5_isAboveRow_29 rfl 3 rfl ?_
      refine xV_aload_n 31 rfl dX5_isAboveRow_30 rfl 0 rfl ?_
      refine xV_get (v := .ref 1) 34 rfl dX5_isAboveRow_31 f5_11 rfl rfl ?_
      refine xV_iload 36 rfl dX5_isAboveRow_34 4 rfl ?_
      obtain ⟨hg36, hf⟩ := xg_s hf
      refine xV_aaload (b := (2 + (xn x4))) 37 rfl dX5_isAboveRow_36 rfl rfl rfl (xin_ok hg36) (by show ([2, 3] : List Nat)[(xn x4)]? = some (2 + (xn x4)); have hi := xin_lt hg36; generalize (xn x4) = i at hi ⊢; match i, hi with | 0, _ => rfl | 1, _ => rfl) ?_
      refine xV_iload 39 rfl dX5_isAboveRow_37 5 rfl ?_
      obtain ⟨hg39, hf⟩ := xg_s hf
      refine xV_iaload (f := (c_kept (xn x4))) (z := 120) 40 rfl dX5_isAboveRow_39 (by have hi := (xin_lt hg36); generalize (xn x4) = i at hi ⊢; match i, hi with | 0, _ => exact rfl | 1, _ => exact rfl) (xin_ok hg39) rfl ?_
      obtain ⟨v40, hv40, hf⟩ := xb_s hf
      refine xV_vir2 (g := (fun j => 9 + j)) (hl := (hS c_s_fields c_s_ties c_s_worth c_s_forces c_s_many c_s_codes c_s_b_list c_s_b_many c_s_p_list c_s_p_weights c_s_p_drawn c_s_p_many c_s_p_all c_s_p_turns)) (hl' := (hS c_s_fields c_s_ties c_s_worth c_s_forces c_s_many c_s_codes c_s_b_list c_s_b_many c_s_p_list c_s_p_weights c_s_p_drawn c_s_p_many c_s_p_all c_s_p_turns)) (h' := (hVS c_kept c_many c_turns c_stale c_goes c_row c_s_fields c_s_ties c_s_worth c_s_forces c_s_many c_s_codes c_s_b_list c_s_b_many c_s_p_list c_s_p_weights c_s_p_drawn c_s_p_many c_s_p_all c_s_p_turns)) (rest := [.int (c_row (xn x5))]) (ci := 4) 43 rfl dX5_isAboveRow_40 rfl (C4_gainFor X.1.2.1 hv40) m4_gainFor v4_gainFor k5_56 rfl rfl rfl (e_VS_S_L9) rfl (Nat.le_of_ble_eq_true rfl) (Nat.le_of_ble_eq_true rfl) (Nat.le_of_ble_eq_true rfl) ⟨Nat.le_refl _, Nat.le_refl _⟩ ?_
      show xV (j5_isAboveRow) X 0 0 (hVS c_kept c_many c_turns c_stale c_goes c_row c_s_fields c_s_ties c_s_worth c_s_forces c_s_many c_s_codes c_s_b_list c_s_b_many c_s_p_list c_s_p_weights c_s_p_drawn c_s_p_many c_s_p_all c_s_p_turns) 43 [(0, .ref 0), (1, .ref 9), (2, .int x2), (3, .int x3), (4, .int x4), (5, .int x5)] [.int v40, .int (c_row (xn x5))]
      refine xV_icmp_lt (tgt := 48) 46 rfl dX5_isAboveRow_43 (by decide) (fun h43 => ?_) (fun h43 => ?_)
      · have hf := xif_t hf h43
        refine xV_iinc (L' := [(5, .int (x5 + (1 : Int32))), (0, .ref 0), (1, .ref 9), (2, .int x2), (3, .int x3), (4, .int x4)]) 51 rfl dX5_isAboveRow_48 5 rfl (xk_inc xy_i1) (xlt rfl) rfl ?_
        refine xV_goto (tgt := 8) dX5_isAboveRow_51 (by decide) ?_
        refine xV_sub [1, 2, 3, 4, 5, 0] rfl ?_
        exact ih hf
      · have hf := xif_f hf h43
        refine xV_iconst 47 rfl dX5_isAboveRow_46 xy_i0 ?_
        obtain rfl := Option.some.inj hf
        exact xV_iret hX dX5_isAboveRow_47 (xbo_ok rfl) (Nat.zero_le _) (Nat.zero_le _)
def F5_isAboveRow (z : Nat) (x2 : Int32) (x3 : Int32) (c_kept : (Nat → Nat → Int32)) (c_many : (Nat → Int32)) (c_row : (Nat → Int32)) (c_s_fields : Int32) (c_s_ties : Int32) (c_s_worth : (Nat → Int32)) (c_s_codes : (Nat → Nat → Int32)) : Option (Int32) :=
  F5_isAboveRow_b8 z z x2 x3 ((1 : Int32) - x2) (0 : Int32) c_kept c_many c_row c_s_fields c_s_ties c_s_worth c_s_codes
theorem T5_isAboveRow {X : xX} {z : Nat} {x2 : Int32} {x3 : Int32} {c_kept : (Nat → Nat → Int32)} {c_many : (Nat → Int32)} {c_row : (Nat → Int32)} {c_s_fields : Int32} {c_s_ties : Int32} {c_s_worth : (Nat → Int32)} {c_s_codes : (Nat → Nat → Int32)} {c_turns : Int32} {c_stale : Int32} {c_goes : (Nat → Nat → Int32)} {c_s_forces : (Nat → Int32)} {c_s_many : (Nat → Int32)} {c_s_b_list : (Nat → Nat → Int32)} {c_s_b_many : (Nat → Int32)} {c_s_p_list : (Nat → Nat → Int32)} {c_s_p_weights : (Nat → Nat → Int32)} {c_s_p_drawn : (Nat → Nat → Int32)} {c_s_p_many : (Nat → Int32)} {c_s_p_all : (Nat → Int32)} {c_s_p_turns : (Nat → Int32)} {v : Int32} (hX : xIs (j5_isAboveRow) X ((some .boolean)) (some (.int v)) (hVS c_kept c_many c_turns c_stale c_goes c_row c_s_fields c_s_ties c_s_worth c_s_forces c_s_many c_s_codes c_s_b_list c_s_b_many c_s_p_list c_s_p_weights c_s_p_drawn c_s_p_many c_s_p_all c_s_p_turns)) (hf : F5_isAboveRow z x2 x3 c_kept c_many c_row c_s_fields c_s_ties c_s_worth c_s_codes = some v) : xV (j5_isAboveRow) X 0 0 (hVS c_kept c_many c_turns c_stale c_goes c_row c_s_fields c_s_ties c_s_worth c_s_forces c_s_many c_s_codes c_s_b_list c_s_b_many c_s_p_list c_s_p_weights c_s_p_drawn c_s_p_many c_s_p_all c_s_p_turns) 0 [(0, .ref 0), (1, .ref 9), (2, .int x2), (3, .int x3)] [] := by
  unfold F5_isAboveRow at hf
  refine xV_iconst 1 rfl dX5_isAboveRow_0 xy_i1 ?_
  refine xV_iload_n 2 rfl dX5_isAboveRow_1 rfl 2 rfl ?_
  refine xV_isub 3 rfl dX5_isAboveRow_2 ?_
  refine xV_istore (L' := [(4, .int ((1 : Int32) - x2)), (0, .ref 0), (1, .ref 9), (2, .int x2), (3, .int x3)]) 5 rfl dX5_isAboveRow_3 (xlt rfl) rfl ?_
  refine xV_iconst 6 rfl dX5_isAboveRow_5 xy_i0 ?_
  refine xV_istore (L' := [(5, .int (0 : Int32)), (4, .int ((1 : Int32) - x2)), (0, .ref 0), (1, .ref 9), (2, .int x2), (3, .int x3)]) 8 rfl dX5_isAboveRow_6 (xlt rfl) rfl ?_
  refine xV_sub [2, 3, 4, 5, 1, 0] rfl ?_
  exact T5_isAboveRow_b8 hX _ hf
theorem C5_isAboveRow (l : Launch) {z : Nat} {x2 : Int32} {x3 : Int32} {c_kept : (Nat → Nat → Int32)} {c_many : (Nat → Int32)} {c_row : (Nat → Int32)} {c_s_fields : Int32} {c_s_ties : Int32} {c_s_worth : (Nat → Int32)} {c_s_codes : (Nat → Nat → Int32)} {c_turns : Int32} {c_stale : Int32} {c_goes : (Nat → Nat → Int32)} {c_s_forces : (Nat → Int32)} {c_s_many : (Nat → Int32)} {c_s_b_list : (Nat → Nat → Int32)} {c_s_b_many : (Nat → Int32)} {c_s_p_list : (Nat → Nat → Int32)} {c_s_p_weights : (Nat → Nat → Int32)} {c_s_p_drawn : (Nat → Nat → Int32)} {c_s_p_many : (Nat → Int32)} {c_s_p_all : (Nat → Int32)} {c_s_p_turns : (Nat → Int32)} {v : Int32} (hf : F5_isAboveRow z x2 x3 c_kept c_many c_row c_s_fields c_s_ties c_s_worth c_s_codes = some v) : xCt l yX5_isAboveRow ((some .boolean)) j5_isAboveRow [.ref 0, .ref 9, .int x2, .int x3] (hVS c_kept c_many c_turns c_stale c_goes c_row c_s_fields c_s_ties c_s_worth c_s_forces c_s_many c_s_codes c_s_b_list c_s_b_many c_s_p_list c_s_p_weights c_s_p_drawn c_s_p_many c_s_p_all c_s_p_turns) (some (.int v)) (hVS c_kept c_many c_turns c_stale c_goes c_row c_s_fields c_s_ties c_s_worth c_s_forces c_s_many c_s_codes c_s_b_list c_s_b_many c_s_p_list c_s_p_weights c_s_p_drawn c_s_p_many c_s_p_all c_s_p_turns) := xCt_of (by decide) rfl (Nat.le_of_ble_eq_true rfl) (fun _ hX => T5_isAboveRow hX hf)
theorem m5_isAboveRow : xMd yX5_isAboveRow RX5 ((some .boolean)) j5_isAboveRow 3 := ⟨List.mem_of_getElem? (i := 745) (by decide +kernel), List.mem_of_getElem? (i := 29) (by decide +kernel), rfl, by decide +kernel⟩
theorem v5_isAboveRow : xMv yX5_isAboveRow RX5 := ⟨List.mem_of_getElem? (i := 743) (by decide +kernel), List.mem_of_getElem? (i := 744) (by decide +kernel)⟩
theorem k5_60 : Cond.methodLink RX5 60 yX5_isAboveRow ∈ wsL_law0 := List.mem_of_getElem? (i := 742) (by decide +kernel)
theorem dX5_isBeatenByKept_0 : decode cX5_isBeatenByKept 0 = .ok (.iconst 1, 1) := by decide +kernel
theorem dX5_isBeatenByKept_1 : decode cX5_isBeatenByKept 1 = .ok (.iload_n 2, 1) := by decide +kernel
theorem dX5_isBeatenByKept_2 : decode cX5_isBeatenByKept 2 = .ok (.isub, 1) := by decide +kernel
theorem dX5_isBeatenByKept_3 : decode cX5_isBeatenByKept 3 = .ok (.istore 4, 2) := by decide +kernel
theorem dX5_isBeatenByKept_5 : decode cX5_isBeatenByKept 5 = .ok (.iconst 0, 1) := by decide +kernel
theorem dX5_isBeatenByKept_6 : decode cX5_isBeatenByKept 6 = .ok (.istore 5, 2) := by decide +kernel
theorem dX5_isBeatenByKept_8 : decode cX5_isBeatenByKept 8 = .ok (.iload 5, 2) := by decide +kernel
theorem dX5_isBeatenByKept_10 : decode cX5_isBeatenByKept 10 = .ok (.aload_n 0, 1) := by decide +kernel
theorem dX5_isBeatenByKept_11 : decode cX5_isBeatenByKept 11 = .ok (.getfield 16, 3) := by decide +kernel
theorem dX5_isBeatenByKept_14 : decode cX5_isBeatenByKept 14 = .ok (.iload 4, 2) := by decide +kernel
theorem dX5_isBeatenByKept_16 : decode cX5_isBeatenByKept 16 = .ok (.iaload, 1) := by decide +kernel
theorem dX5_isBeatenByKept_17 : decode cX5_isBeatenByKept 17 = .ok (.if_icmp .ge 32, 3) := by decide +kernel
theorem dX5_isBeatenByKept_20 : decode cX5_isBeatenByKept 20 = .ok (.aload_n 0, 1) := by decide +kernel
theorem dX5_isBeatenByKept_21 : decode cX5_isBeatenByKept 21 = .ok (.getfield 27, 3) := by decide +kernel
theorem dX5_isBeatenByKept_24 : decode cX5_isBeatenByKept 24 = .ok (.iload 5, 2) := by decide +kernel
theorem dX5_isBeatenByKept_26 : decode cX5_isBeatenByKept 26 = .ok (.aload_n 1, 1) := by decide +kernel
theorem dX5_isBeatenByKept_27 : decode cX5_isBeatenByKept 27 = .ok (.iload_n 2, 1) := by decide +kernel
theorem dX5_isBeatenByKept_28 : decode cX5_isBeatenByKept 28 = .ok (.iload_n 3, 1) := by decide +kernel
theorem dX5_isBeatenByKept_29 : decode cX5_isBeatenByKept 29 = .ok (.aload_n 0, 1) := by decide +kernel
theorem dX5_isBeatenByKept_30 : decode cX5_isBeatenByKept 30 = .ok (.getfield 11, 3) := by decide +kernel
theorem dX5_isBeatenByKept_33 : decode cX5_isBeatenByKept 33 = .ok (.iload 4, 2) := by decide +kernel
theorem dX5_isBeatenByKept_35 : decode cX5_isBeatenByKept 35 = .ok (.aaload, 1) := by decide +kernel
theorem dX5_isBeatenByKept_36 : decode cX5_isBeatenByKept 36 = .ok (.iload 5, 2) := by decide +kernel
theorem dX5_isBeatenByKept_38 : decode cX5_isBeatenByKept 38 = .ok (.iaload, 1) := by decide +kernel
theorem dX5_isBeatenByKept_39 : decode cX5_isBeatenByKept 39 = .ok (.invokevirtual 56, 3) := by decide +kernel
theorem dX5_isBeatenByKept_42 : decode cX5_isBeatenByKept 42 = .ok (.iastore, 1) := by decide +kernel
theorem dX5_isBeatenByKept_43 : decode cX5_isBeatenByKept 43 = .ok (.iinc 5 1, 3) := by decide +kernel
theorem dX5_isBeatenByKept_46 : decode cX5_isBeatenByKept 46 = .ok (.goto (-38), 3) := by decide +kernel
theorem dX5_isBeatenByKept_49 : decode cX5_isBeatenByKept 49 = .ok (.iconst 0, 1) := by decide +kernel
theorem dX5_isBeatenByKept_50 : decode cX5_isBeatenByKept 50 = .ok (.istore 5, 2) := by decide +kernel
theorem dX5_isBeatenByKept_52 : decode cX5_isBeatenByKept 52 = .ok (.iload 5, 2) := by decide +kernel
theorem dX5_isBeatenByKept_54 : decode cX5_isBeatenByKept 54 = .ok (.aload_n 0, 1) := by decide +kernel
theorem dX5_isBeatenByKept_55 : decode cX5_isBeatenByKept 55 = .ok (.getfield 16, 3) := by decide +kernel
theorem dX5_isBeatenByKept_58 : decode cX5_isBeatenByKept 58 = .ok (.iload_n 2, 1) := by decide +kernel
theorem dX5_isBeatenByKept_59 : decode cX5_isBeatenByKept 59 = .ok (.iaload, 1) := by decide +kernel
theorem dX5_isBeatenByKept_60 : decode cX5_isBeatenByKept 60 = .ok (.if_icmp .ge 29, 3) := by decide +kernel
theorem dX5_isBeatenByKept_63 : decode cX5_isBeatenByKept 63 = .ok (.aload_n 0, 1) := by decide +kernel
theorem dX5_isBeatenByKept_64 : decode cX5_isBeatenByKept 64 = .ok (.aload_n 1, 1) := by decide +kernel
theorem dX5_isBeatenByKept_65 : decode cX5_isBeatenByKept 65 = .ok (.iload_n 2, 1) := by decide +kernel
theorem dX5_isBeatenByKept_66 : decode cX5_isBeatenByKept 66 = .ok (.aload_n 0, 1) := by decide +kernel
theorem dX5_isBeatenByKept_67 : decode cX5_isBeatenByKept 67 = .ok (.getfield 11, 3) := by decide +kernel
theorem dX5_isBeatenByKept_70 : decode cX5_isBeatenByKept 70 = .ok (.iload_n 2, 1) := by decide +kernel
theorem dX5_isBeatenByKept_71 : decode cX5_isBeatenByKept 71 = .ok (.aaload, 1) := by decide +kernel
theorem dX5_isBeatenByKept_72 : decode cX5_isBeatenByKept 72 = .ok (.iload 5, 2) := by decide +kernel
theorem dX5_isBeatenByKept_74 : decode cX5_isBeatenByKept 74 = .ok (.iaload, 1) := by decide +kernel
theorem dX5_isBeatenByKept_75 : decode cX5_isBeatenByKept 75 = .ok (.invokevirtual 60, 3) := by decide +kernel
theorem dX5_isBeatenByKept_78 : decode cX5_isBeatenByKept 78 = .ok (.ifCond .eq 5, 3) := by decide +kernel
theorem dX5_isBeatenByKept_81 : decode cX5_isBeatenByKept 81 = .ok (.iconst 1, 1) := by decide +kernel
theorem dX5_isBeatenByKept_82 : decode cX5_isBeatenByKept 82 = .ok (.ireturn, 1) := by decide +kernel
theorem dX5_isBeatenByKept_83 : decode cX5_isBeatenByKept 83 = .ok (.iinc 5 1, 3) := by decide +kernel
theorem dX5_isBeatenByKept_86 : decode cX5_isBeatenByKept 86 = .ok (.goto (-34), 3) := by decide +kernel
theorem dX5_isBeatenByKept_89 : decode cX5_isBeatenByKept 89 = .ok (.iconst 0, 1) := by decide +kernel
theorem dX5_isBeatenByKept_90 : decode cX5_isBeatenByKept 90 = .ok (.ireturn, 1) := by decide +kernel
abbrev j5_isBeatenByKept : xJ := (cX5_isBeatenByKept, 6, RX5, 4, 0, 0)
def F5_isBeatenByKept_b52 (z : Nat) (w : Nat) (x2 : Int32) (x5 : Int32) (c_kept : (Nat → Nat → Int32)) (c_many : (Nat → Int32)) (c_row : (Nat → Int32)) (c_s_fields : Int32) (c_s_ties : Int32) (c_s_worth : (Nat → Int32)) (c_s_codes : (Nat → Nat → Int32)) : Option (Int32 × (Nat → Int32)) := match w with
  | 0 => none
  | w + 1 => xg (xin x2 2) (if (c_many (xn x2)) ≤ x5 then (some ((0 : Int32), c_row)) else (xg (xin x2 2) (xg (xin x5 120) ((F5_isAboveRow z x2 ((c_kept (xn x2)) (xn x5)) c_kept c_many c_row c_s_fields c_s_ties c_s_worth c_s_codes).bind (fun v75 => if v75 = 0 then (F5_isBeatenByKept_b52 z w x2 (x5 + (1 : Int32)) c_kept c_many c_row c_s_fields c_s_ties c_s_worth c_s_codes) else (some ((1 : Int32), c_row)))))))
theorem T5_isBeatenByKept_b52 {X : xX} {c_kept : (Nat → Nat → Int32)} {c_many : (Nat → Int32)} {c_turns : Int32} {c_stale : Int32} {c_goes : (Nat → Nat → Int32)} {c_s_fields : Int32} {c_s_ties : Int32} {c_s_worth : (Nat → Int32)} {c_s_forces : (Nat → Int32)} {c_s_many : (Nat → Int32)} {c_s_codes : (Nat → Nat → Int32)} {c_s_b_list : (Nat → Nat → Int32)} {c_s_b_many : (Nat → Int32)} {c_s_p_list : (Nat → Nat → Int32)} {c_s_p_weights : (Nat → Nat → Int32)} {c_s_p_drawn : (Nat → Nat → Int32)} {c_s_p_many : (Nat → Int32)} {c_s_p_all : (Nat → Int32)} {c_s_p_turns : (Nat → Int32)} {z : Nat} {v : Int32 × (Nat → Int32)} (hX : xIs (j5_isBeatenByKept) X ((some .boolean)) (some (.int v.1)) (hVS c_kept c_many c_turns c_stale c_goes v.2 c_s_fields c_s_ties c_s_worth c_s_forces c_s_many c_s_codes c_s_b_list c_s_b_many c_s_p_list c_s_p_weights c_s_p_drawn c_s_p_many c_s_p_all c_s_p_turns)) : ∀ (w : Nat) {x2 : Int32} {x5 : Int32} {c_row : (Nat → Int32)}, F5_isBeatenByKept_b52 z w x2 x5 c_kept c_many c_row c_s_fields c_s_ties c_s_worth c_s_codes = some v → xV (j5_isBeatenByKept) X 0 0 (hVS c_kept c_many c_turns c_stale c_goes c_row c_s_fields c_s_ties c_s_worth c_s_forces c_s_many c_s_codes c_s_b_list c_s_b_many c_s_p_list c_s_p_weights c_s_p_drawn c_s_p_many c_s_p_all c_s_p_turns) 52 [(0, .ref 0), (1, .ref 9), (2, .int x2), (5, .int x5)] [] := by
  intro w
  induction w with
  | zero => intro x2 x5 c_row hf; cases hf
  | succ w ih =>
    intro x2 x5 c_row hf
    unfold F5_isBeatenByKept_b52 at hf
    refine xV_iload 54 rfl dX5_isBeatenByKept_52 3 rfl ?_
    refine xV_aload_n 55 rfl dX5_isBeatenByKept_54 rfl 0 rfl ?_
    refine xV_get (v := .ref 4) 58 rfl dX5_isBeatenByKept_55 f5_16 rfl rfl ?_
    refine xV_iload_n 59 rfl dX5_isBeatenByKept_58 rfl 2 rfl ?_
    obtain ⟨hg59, hf⟩ := xg_s hf
    refine xV_iaload 60 rfl dX5_isBeatenByKept_59 rfl (xin_ok hg59) rfl ?_
    refine xV_icmp_ge (tgt := 89) 63 rfl dX5_isBeatenByKept_60 (by decide) (fun h60 => ?_) (fun h60 => ?_)
    · have hf := xif_t hf h60
      refine xV_iconst 90 rfl dX5_isBeatenByKept_89 xy_i0 ?_
      obtain rfl := Option.some.inj hf
      exact xV_iret hX dX5_isBeatenByKept_90 (xbo_ok rfl) (Nat.zero_le _) (Nat.zero_le _)
    · have hf := xif_f hf h60
      refine xV_aload_n 64 rfl dX5_isBeatenByKept_63 rfl 0 rfl ?_
      refine xV_aload_n 65 rfl dX5_isBeatenByKept_64 rfl 1 rfl ?_
      refine xV_iload_n 66 rfl dX5_isBeatenByKept_65 rfl 2 rfl ?_
      refine xV_aload_n 67 rfl dX5_isBeatenByKept_66 rfl 0 rfl ?_
      refine xV_get (v := .ref 1) 70 rfl dX5_isBeatenByKept_67 f5_11 rfl rfl ?_
      refine xV_iload_n 71 rfl dX5_isBeatenByKept_70 rfl 2 rfl ?_
      obtain ⟨hg71, hf⟩ := xg_s hf
      refine xV_aaload (b := (2 + (xn x2))) 72 rfl dX5_isBeatenByKept_71 rfl rfl rfl (xin_ok hg71) (by show ([2, 3] : List Nat)[(xn x2)]? = some (2 + (xn x2)); have hi := xin_lt hg71; generalize (xn x2) = i at hi ⊢; match i, hi with | 0, _ => rfl | 1, _ => rfl) ?_
      refine xV_iload 74 rfl dX5_isBeatenByKept_72 3 rfl ?_
      obtain ⟨hg74, hf⟩ := xg_s hf
      refine xV_iaload (f := (c_kept (xn x2))) (z := 120) 75 rfl dX5_isBeatenByKept_74 (by have hi := (xin_lt hg71); generalize (xn x2) = i at hi ⊢; match i, hi with | 0, _ => exact rfl | 1, _ => exact rfl) (xin_ok hg74) rfl ?_
      obtain ⟨v75, hv75, hf⟩ := xb_s hf
      refine xV_same (rest := []) 78 rfl dX5_isBeatenByKept_75 rfl (C5_isAboveRow X.1.2.1 hv75) m5_isAboveRow v5_isAboveRow k5_60 rfl rfl rfl rfl rfl (Nat.le_of_ble_eq_true rfl) (Nat.le_of_ble_eq_true rfl) (Nat.le_of_ble_eq_true rfl) ⟨Nat.le_refl _, Nat.le_refl _⟩ ?_
      show xV (j5_isBeatenByKept) X 0 0 (hVS c_kept c_many c_turns c_stale c_goes c_row c_s_fields c_s_ties c_s_worth c_s_forces c_s_many c_s_codes c_s_b_list c_s_b_many c_s_p_list c_s_p_weights c_s_p_drawn c_s_p_many c_s_p_all c_s_p_turns) 78 [(0, .ref 0), (1, .ref 9), (2, .int x2), (5, .int x5)] [.int v75]
      refine xV_if_eq (tgt := 83) 81 rfl dX5_isBeatenByKept_78 (by decide) (fun h78 => ?_) (fun h78 => ?_)
      · have hf := xif_t hf h78
        refine xV_iinc (L' := [(5, .int (x5 + (1 : Int32))), (0, .ref 0), (1, .ref 9), (2, .int x2)]) 86 rfl dX5_isBeatenByKept_83 3 rfl (xk_inc xy_i1) (xlt rfl) rfl ?_
        refine xV_goto (tgt := 52) dX5_isBeatenByKept_86 (by decide) ?_
        refine xV_sub [1, 2, 3, 0] rfl ?_
        exact ih hf
      · have hf := xif_f hf h78
        refine xV_iconst 82 rfl dX5_isBeatenByKept_81 xy_i1 ?_
        obtain rfl := Option.some.inj hf
        exact xV_iret hX dX5_isBeatenByKept_82 (xbo_ok rfl) (Nat.zero_le _) (Nat.zero_le _)
def F5_isBeatenByKept_b49 (z : Nat) (x2 : Int32) (c_kept : (Nat → Nat → Int32)) (c_many : (Nat → Int32)) (c_row : (Nat → Int32)) (c_s_fields : Int32) (c_s_ties : Int32) (c_s_worth : (Nat → Int32)) (c_s_codes : (Nat → Nat → Int32)) : Option (Int32 × (Nat → Int32)) :=
  F5_isBeatenByKept_b52 z z x2 (0 : Int32) c_kept c_many c_row c_s_fields c_s_ties c_s_worth c_s_codes
theorem T5_isBeatenByKept_b49 {X : xX} {c_turns : Int32} {c_stale : Int32} {c_goes : (Nat → Nat → Int32)} {c_s_forces : (Nat → Int32)} {c_s_many : (Nat → Int32)} {c_s_b_list : (Nat → Nat → Int32)} {c_s_b_many : (Nat → Int32)} {c_s_p_list : (Nat → Nat → Int32)} {c_s_p_weights : (Nat → Nat → Int32)} {c_s_p_drawn : (Nat → Nat → Int32)} {c_s_p_many : (Nat → Int32)} {c_s_p_all : (Nat → Int32)} {c_s_p_turns : (Nat → Int32)} {x2 : Int32} {c_kept : (Nat → Nat → Int32)} {c_many : (Nat → Int32)} {c_row : (Nat → Int32)} {c_s_fields : Int32} {c_s_ties : Int32} {c_s_worth : (Nat → Int32)} {c_s_codes : (Nat → Nat → Int32)} {z : Nat} {v : Int32 × (Nat → Int32)} (hX : xIs (j5_isBeatenByKept) X ((some .boolean)) (some (.int v.1)) (hVS c_kept c_many c_turns c_stale c_goes v.2 c_s_fields c_s_ties c_s_worth c_s_forces c_s_many c_s_codes c_s_b_list c_s_b_many c_s_p_list c_s_p_weights c_s_p_drawn c_s_p_many c_s_p_all c_s_p_turns)) (hf : F5_isBeatenByKept_b49 z x2 c_kept c_many c_row c_s_fields c_s_ties c_s_worth c_s_codes = some v) : xV (j5_isBeatenByKept) X 0 0 (hVS c_kept c_many c_turns c_stale c_goes c_row c_s_fields c_s_ties c_s_worth c_s_forces c_s_many c_s_codes c_s_b_list c_s_b_many c_s_p_list c_s_p_weights c_s_p_drawn c_s_p_many c_s_p_all c_s_p_turns) 49 [(0, .ref 0), (1, .ref 9), (2, .int x2)] [] := by
  unfold F5_isBeatenByKept_b49 at hf
  refine xV_iconst 50 rfl dX5_isBeatenByKept_49 xy_i0 ?_
  refine xV_istore (L' := [(5, .int (0 : Int32)), (0, .ref 0), (1, .ref 9), (2, .int x2)]) 52 rfl dX5_isBeatenByKept_50 (xlt rfl) rfl ?_
  refine xV_sub [1, 2, 3, 0] rfl ?_
  exact T5_isBeatenByKept_b52 hX _ hf
def F5_isBeatenByKept_b8 (z : Nat) (w : Nat) (x2 : Int32) (x3 : Int32) (x4 : Int32) (x5 : Int32) (c_kept : (Nat → Nat → Int32)) (c_many : (Nat → Int32)) (c_row : (Nat → Int32)) (c_s_fields : Int32) (c_s_ties : Int32) (c_s_worth : (Nat → Int32)) (c_s_codes : (Nat → Nat → Int32)) : Option (Int32 × (Nat → Int32)) := match w with
  | 0 => none
  | w + 1 => xg (xin x4 2) (if (c_many (xn x4)) ≤ x5 then (F5_isBeatenByKept_b49 z x2 c_kept c_many c_row c_s_fields c_s_ties c_s_worth c_s_codes) else (xg (xin x4 2) (xg (xin x5 120) ((F4_gainFor z x2 x3 ((c_kept (xn x4)) (xn x5)) c_s_fields c_s_ties c_s_worth c_s_codes).bind (fun v39 => xg (xin x5 120) (F5_isBeatenByKept_b8 z w x2 x3 x4 (x5 + (1 : Int32)) c_kept c_many (upd c_row (xn x5) v39) c_s_fields c_s_ties c_s_worth c_s_codes))))))
theorem T5_isBeatenByKept_b8 {X : xX} {c_kept : (Nat → Nat → Int32)} {c_many : (Nat → Int32)} {c_turns : Int32} {c_stale : Int32} {c_goes : (Nat → Nat → Int32)} {c_s_fields : Int32} {c_s_ties : Int32} {c_s_worth : (Nat → Int32)} {c_s_forces : (Nat → Int32)} {c_s_many : (Nat → Int32)} {c_s_codes : (Nat → Nat → Int32)} {c_s_b_list : (Nat → Nat → Int32)} {c_s_b_many : (Nat → Int32)} {c_s_p_list : (Nat → Nat → Int32)} {c_s_p_weights : (Nat → Nat → Int32)} {c_s_p_drawn : (Nat → Nat → Int32)} {c_s_p_many : (Nat → Int32)} {c_s_p_all : (Nat → Int32)} {c_s_p_turns : (Nat → Int32)} {z : Nat} {v : Int32 × (Nat → Int32)} (hX : xIs (j5_isBeatenByKept) X ((some .boolean)) (some (.int v.1)) (hVS c_kept c_many c_turns c_stale c_goes v.2 c_s_fields c_s_ties c_s_worth c_s_forces c_s_many c_s_codes c_s_b_list c_s_b_many c_s_p_list c_s_p_weights c_s_p_drawn c_s_p_many c_s_p_all c_s_p_turns)) : ∀ (w : Nat) {x2 : Int32} {x3 : Int32} {x4 : Int32} {x5 : Int32} {c_row : (Nat → Int32)}, F5_isBeatenByKept_b8 z w x2 x3 x4 x5 c_kept c_many c_row c_s_fields c_s_ties c_s_worth c_s_codes = some v → xV (j5_isBeatenByKept) X 0 0 (hVS c_kept c_many c_turns c_stale c_goes c_row c_s_fields c_s_ties c_s_worth c_s_forces c_s_many c_s_codes c_s_b_list c_s_b_many c_s_p_list c_s_p_weights c_s_p_drawn c_s_p_many c_s_p_all c_s_p_turns) 8 [(0, .ref 0), (1, .ref 9), (2, .int x2), (3, .int x3), (4, .int x4), (5, .int x5)] [] := by
  intro w
  induction w with
  | zero => intro x2 x3 x4 x5 c_row hf; cases hf
  | succ w ih =>
    intro x2 x3 x4 x5 c_row hf
    unfold F5_isBeatenByKept_b8 at hf
    refine xV_iload 10 rfl dX5_isBeatenByKept_8 5 rfl ?_
    refine xV_aload_n 11 rfl dX5_isBeatenByKept_10 rfl 0 rfl ?_
    refine xV_get (v := .ref 4) 14 rfl dX5_isBeatenByKept_11 f5_16 rfl rfl ?_
    refine xV_iload 16 rfl dX5_isBeatenByKept_14 4 rfl ?_
    obtain ⟨hg16, hf⟩ := xg_s hf
    refine xV_iaload 17 rfl dX5_isBeatenByKept_16 rfl (xin_ok hg16) rfl ?_
    refine xV_icmp_ge (tgt := 49) 20 rfl dX5_isBeatenByKept_17 (by decide) (fun h17 => ?_) (fun h17 => ?_)
    · have hf := xif_t hf h17
      refine xV_sub [0, 1, 2] rfl ?_
      exact T5_isBeatenByKept_b49 hX hf
    · have hf := xif_f hf h17
      refine xV_aload_n 21 rfl dX5_isBeatenByKept_20 rfl 0 rfl ?_
      refine xV_get (v := .ref 8) 24 rfl dX5_isBeatenByKept_21 f5_27 rfl rfl ?_
      refine xV_iload 26 rfl dX5_isBeatenByKept_24 5 rfl ?_
      refine xV_aload_n 27 rfl dX5_isBeatenByKept_26 rfl 1 rfl ?_
      refine xV_iload_n 28 rfl dX5_isBeatenByKept_27 rfl 2 rfl ?_
      refine xV_iload_n 29 rfl dX5_isBeatenByKept_28 rfl 3 rfl ?_
      refine xV_aload_n 30 rfl dX5_isBeatenByKept_29 rfl 0 rfl ?_
      refine xV_get (v := .ref 1) 33 rfl dX5_isBeatenByKept_30 f5_11 rfl rfl ?_
      refine xV_iload 35 rfl dX5_isBeatenByKept_33 4 rfl ?_
      obtain ⟨hg35, hf⟩ := xg_s hf
      refine xV_aaload (b := (2 + (xn x4))) 36 rfl dX5_isBeatenByKept_35 rfl rfl rfl (xin_ok hg35) (by show ([2, 3] : List Nat)[(xn x4)]? = some (2 + (xn x4)); have hi := xin_lt hg35; generalize (xn x4) = i at hi ⊢; match i, hi with | 0, _ => rfl | 1, _ => rfl) ?_
      refine xV_iload 38 rfl dX5_isBeatenByKept_36 5 rfl ?_
      obtain ⟨hg38, hf⟩ := xg_s hf
      refine xV_iaload (f := (c_kept (xn x4))) (z := 120) 39 rfl dX5_isBeatenByKept_38 (by have hi := (xin_lt hg35); generalize (xn x4) = i at hi ⊢; match i, hi with | 0, _ => exact rfl | 1, _ => exact rfl) (xin_ok hg38) rfl ?_
      obtain ⟨v39, hv39, hf⟩ := xb_s hf
      refine xV_vir2 (g := (fun j => 9 + j)) (hl := (hS c_s_fields c_s_ties c_s_worth c_s_forces c_s_many c_s_codes c_s_b_list c_s_b_many c_s_p_list c_s_p_weights c_s_p_drawn c_s_p_many c_s_p_all c_s_p_turns)) (hl' := (hS c_s_fields c_s_ties c_s_worth c_s_forces c_s_many c_s_codes c_s_b_list c_s_b_many c_s_p_list c_s_p_weights c_s_p_drawn c_s_p_many c_s_p_all c_s_p_turns)) (h' := (hVS c_kept c_many c_turns c_stale c_goes c_row c_s_fields c_s_ties c_s_worth c_s_forces c_s_many c_s_codes c_s_b_list c_s_b_many c_s_p_list c_s_p_weights c_s_p_drawn c_s_p_many c_s_p_all c_s_p_turns)) (rest := [.int x5, .ref 8]) (ci := 4) 42 rfl dX5_isBeatenByKept_39 rfl (C4_gainFor X.1.2.1 hv39) m4_gainFor v4_gainFor k5_56 rfl rfl rfl (e_VS_S_L9) rfl (Nat.le_of_ble_eq_true rfl) (Nat.le_of_ble_eq_true rfl) (Nat.le_of_ble_eq_true rfl) ⟨Nat.le_refl _, Nat.le_refl _⟩ ?_
      show xV (j5_isBeatenByKept) X 0 0 (hVS c_kept c_many c_turns c_stale c_goes c_row c_s_fields c_s_ties c_s_worth c_s_forces c_s_many c_s_codes c_s_b_list c_s_b_many c_s_p_list c_s_p_weights c_s_p_drawn c_s_p_many c_s_p_all c_s_p_turns) 42 [(0, .ref 0), (1, .ref 9), (2, .int x2), (3, .int x3), (4, .int x4), (5, .int x5)] [.int v39, .int x5, .ref 8]
      obtain ⟨hg42, hf⟩ := xg_s hf
      refine xV_iastore (h' := (hVS c_kept c_many c_turns c_stale c_goes (upd c_row (xn x5) v39) c_s_fields c_s_ties c_s_worth c_s_forces c_s_many c_s_codes c_s_b_list c_s_b_many c_s_p_list c_s_p_weights c_s_p_drawn c_s_p_many c_s_p_all c_s_p_turns)) (j := (xn x5)) 43 rfl dX5_isBeatenByKept_42 rfl (xin_ok hg42) rfl rfl ?_
      refine xV_iinc (L' := [(5, .int (x5 + (1 : Int32))), (0, .ref 0), (1, .ref 9), (2, .int x2), (3, .int x3), (4, .int x4)]) 46 rfl dX5_isBeatenByKept_43 5 rfl (xk_inc xy_i1) (xlt rfl) rfl ?_
      refine xV_goto (tgt := 8) dX5_isBeatenByKept_46 (by decide) ?_
      refine xV_sub [1, 2, 3, 4, 5, 0] rfl ?_
      exact ih hf
def F5_isBeatenByKept (z : Nat) (x2 : Int32) (x3 : Int32) (c_kept : (Nat → Nat → Int32)) (c_many : (Nat → Int32)) (c_row : (Nat → Int32)) (c_s_fields : Int32) (c_s_ties : Int32) (c_s_worth : (Nat → Int32)) (c_s_codes : (Nat → Nat → Int32)) : Option (Int32 × (Nat → Int32)) :=
  F5_isBeatenByKept_b8 z z x2 x3 ((1 : Int32) - x2) (0 : Int32) c_kept c_many c_row c_s_fields c_s_ties c_s_worth c_s_codes
theorem T5_isBeatenByKept {X : xX} {z : Nat} {x2 : Int32} {x3 : Int32} {c_kept : (Nat → Nat → Int32)} {c_many : (Nat → Int32)} {c_row : (Nat → Int32)} {c_s_fields : Int32} {c_s_ties : Int32} {c_s_worth : (Nat → Int32)} {c_s_codes : (Nat → Nat → Int32)} {c_turns : Int32} {c_stale : Int32} {c_goes : (Nat → Nat → Int32)} {c_s_forces : (Nat → Int32)} {c_s_many : (Nat → Int32)} {c_s_b_list : (Nat → Nat → Int32)} {c_s_b_many : (Nat → Int32)} {c_s_p_list : (Nat → Nat → Int32)} {c_s_p_weights : (Nat → Nat → Int32)} {c_s_p_drawn : (Nat → Nat → Int32)} {c_s_p_many : (Nat → Int32)} {c_s_p_all : (Nat → Int32)} {c_s_p_turns : (Nat → Int32)} {v : Int32 × (Nat → Int32)} (hX : xIs (j5_isBeatenByKept) X ((some .boolean)) (some (.int v.1)) (hVS c_kept c_many c_turns c_stale c_goes v.2 c_s_fields c_s_ties c_s_worth c_s_forces c_s_many c_s_codes c_s_b_list c_s_b_many c_s_p_list c_s_p_weights c_s_p_drawn c_s_p_many c_s_p_all c_s_p_turns)) (hf : F5_isBeatenByKept z x2 x3 c_kept c_many c_row c_s_fields c_s_ties c_s_worth c_s_codes = some v) : xV (j5_isBeatenByKept) X 0 0 (hVS c_kept c_many c_turns c_stale c_goes c_row c_s_fields c_s_ties c_s_worth c_s_forces c_s_many c_s_codes c_s_b_list c_s_b_many c_s_p_list c_s_p_weights c_s_p_drawn c_s_p_many c_s_p_all c_s_p_turns) 0 [(0, .ref 0), (1, .ref 9), (2, .int x2), (3, .int x3)] [] := by
  unfold F5_isBeatenByKept at hf
  refine xV_iconst 1 rfl dX5_isBeatenByKept_0 xy_i1 ?_
  refine xV_iload_n 2 rfl dX5_isBeatenByKept_1 rfl 2 rfl ?_
  refine xV_isub 3 rfl dX5_isBeatenByKept_2 ?_
  refine xV_istore (L' := [(4, .int ((1 : Int32) - x2)), (0, .ref 0), (1, .ref 9), (2, .int x2), (3, .int x3)]) 5 rfl dX5_isBeatenByKept_3 (xlt rfl) rfl ?_
  refine xV_iconst 6 rfl dX5_isBeatenByKept_5 xy_i0 ?_
  refine xV_istore (L' := [(5, .int (0 : Int32)), (4, .int ((1 : Int32) - x2)), (0, .ref 0), (1, .ref 9), (2, .int x2), (3, .int x3)]) 8 rfl dX5_isBeatenByKept_6 (xlt rfl) rfl ?_
  refine xV_sub [2, 3, 4, 5, 1, 0] rfl ?_
  exact T5_isBeatenByKept_b8 hX _ hf
theorem C5_isBeatenByKept (l : Launch) {z : Nat} {x2 : Int32} {x3 : Int32} {c_kept : (Nat → Nat → Int32)} {c_many : (Nat → Int32)} {c_row : (Nat → Int32)} {c_s_fields : Int32} {c_s_ties : Int32} {c_s_worth : (Nat → Int32)} {c_s_codes : (Nat → Nat → Int32)} {c_turns : Int32} {c_stale : Int32} {c_goes : (Nat → Nat → Int32)} {c_s_forces : (Nat → Int32)} {c_s_many : (Nat → Int32)} {c_s_b_list : (Nat → Nat → Int32)} {c_s_b_many : (Nat → Int32)} {c_s_p_list : (Nat → Nat → Int32)} {c_s_p_weights : (Nat → Nat → Int32)} {c_s_p_drawn : (Nat → Nat → Int32)} {c_s_p_many : (Nat → Int32)} {c_s_p_all : (Nat → Int32)} {c_s_p_turns : (Nat → Int32)} {v : Int32 × (Nat → Int32)} (hf : F5_isBeatenByKept z x2 x3 c_kept c_many c_row c_s_fields c_s_ties c_s_worth c_s_codes = some v) : xCt l yX5_isBeatenByKept ((some .boolean)) j5_isBeatenByKept [.ref 0, .ref 9, .int x2, .int x3] (hVS c_kept c_many c_turns c_stale c_goes c_row c_s_fields c_s_ties c_s_worth c_s_forces c_s_many c_s_codes c_s_b_list c_s_b_many c_s_p_list c_s_p_weights c_s_p_drawn c_s_p_many c_s_p_all c_s_p_turns) (some (.int v.1)) (hVS c_kept c_many c_turns c_stale c_goes v.2 c_s_fields c_s_ties c_s_worth c_s_forces c_s_many c_s_codes c_s_b_list c_s_b_many c_s_p_list c_s_p_weights c_s_p_drawn c_s_p_many c_s_p_all c_s_p_turns) := xCt_of (by decide) rfl (Nat.le_of_ble_eq_true rfl) (fun _ hX => T5_isBeatenByKept hX hf)
theorem m5_isBeatenByKept : xMd yX5_isBeatenByKept RX5 ((some .boolean)) j5_isBeatenByKept 3 := ⟨List.mem_of_getElem? (i := 740) (by decide +kernel), List.mem_of_getElem? (i := 29) (by decide +kernel), rfl, by decide +kernel⟩
theorem v5_isBeatenByKept : xMv yX5_isBeatenByKept RX5 := ⟨List.mem_of_getElem? (i := 738) (by decide +kernel), List.mem_of_getElem? (i := 739) (by decide +kernel)⟩
theorem k5_48 : Cond.methodLink RX5 48 yX4_shapeFirst ∈ wsL_law0 := List.mem_of_getElem? (i := 736) (by decide +kernel)
theorem f5_24 : xFl RX5 24 5 4 := ⟨_, rfl, by decide, List.mem_of_getElem? (i := 101) (by decide +kernel)⟩
theorem k5_52 : Cond.methodLink RX5 52 yX5_isBeatenByKept ∈ wsL_law0 := List.mem_of_getElem? (i := 737) (by decide +kernel)
theorem dX5_markBeaten_0 : decode cX5_markBeaten 0 = .ok (.iconst 0, 1) := by decide +kernel
theorem dX5_markBeaten_1 : decode cX5_markBeaten 1 = .ok (.istore_n 3, 1) := by decide +kernel
theorem dX5_markBeaten_2 : decode cX5_markBeaten 2 = .ok (.iload_n 3, 1) := by decide +kernel
theorem dX5_markBeaten_3 : decode cX5_markBeaten 3 = .ok (.aload_n 0, 1) := by decide +kernel
theorem dX5_markBeaten_4 : decode cX5_markBeaten 4 = .ok (.getfield 16, 3) := by decide +kernel
theorem dX5_markBeaten_7 : decode cX5_markBeaten 7 = .ok (.iload_n 2, 1) := by decide +kernel
theorem dX5_markBeaten_8 : decode cX5_markBeaten 8 = .ok (.iaload, 1) := by decide +kernel
theorem dX5_markBeaten_9 : decode cX5_markBeaten 9 = .ok (.if_icmp .ge 89, 3) := by decide +kernel
theorem dX5_markBeaten_12 : decode cX5_markBeaten 12 = .ok (.aload_n 0, 1) := by decide +kernel
theorem dX5_markBeaten_13 : decode cX5_markBeaten 13 = .ok (.getfield 11, 3) := by decide +kernel
theorem dX5_markBeaten_16 : decode cX5_markBeaten 16 = .ok (.iload_n 2, 1) := by decide +kernel
theorem dX5_markBeaten_17 : decode cX5_markBeaten 17 = .ok (.aaload, 1) := by decide +kernel
theorem dX5_markBeaten_18 : decode cX5_markBeaten 18 = .ok (.iload_n 3, 1) := by decide +kernel
theorem dX5_markBeaten_19 : decode cX5_markBeaten 19 = .ok (.iaload, 1) := by decide +kernel
theorem dX5_markBeaten_20 : decode cX5_markBeaten 20 = .ok (.istore 4, 2) := by decide +kernel
theorem dX5_markBeaten_22 : decode cX5_markBeaten 22 = .ok (.aload_n 1, 1) := by decide +kernel
theorem dX5_markBeaten_23 : decode cX5_markBeaten 23 = .ok (.iload_n 2, 1) := by decide +kernel
theorem dX5_markBeaten_24 : decode cX5_markBeaten 24 = .ok (.iload 4, 2) := by decide +kernel
theorem dX5_markBeaten_26 : decode cX5_markBeaten 26 = .ok (.invokevirtual 48, 3) := by decide +kernel
theorem dX5_markBeaten_29 : decode cX5_markBeaten 29 = .ok (.istore 5, 2) := by decide +kernel
theorem dX5_markBeaten_31 : decode cX5_markBeaten 31 = .ok (.iload 5, 2) := by decide +kernel
theorem dX5_markBeaten_33 : decode cX5_markBeaten 33 = .ok (.ifCond .lt 14, 3) := by decide +kernel
theorem dX5_markBeaten_36 : decode cX5_markBeaten 36 = .ok (.iload 5, 2) := by decide +kernel
theorem dX5_markBeaten_38 : decode cX5_markBeaten 38 = .ok (.iload 4, 2) := by decide +kernel
theorem dX5_markBeaten_40 : decode cX5_markBeaten 40 = .ok (.if_icmp .ge 7, 3) := by decide +kernel
theorem dX5_markBeaten_43 : decode cX5_markBeaten 43 = .ok (.iconst 1, 1) := by decide +kernel
theorem dX5_markBeaten_44 : decode cX5_markBeaten 44 = .ok (.goto 4, 3) := by decide +kernel
theorem dX5_markBeaten_47 : decode cX5_markBeaten 47 = .ok (.iconst 0, 1) := by decide +kernel
theorem dX5_markBeaten_48 : decode cX5_markBeaten 48 = .ok (.istore 6, 2) := by decide +kernel
theorem dX5_markBeaten_50 : decode cX5_markBeaten 50 = .ok (.aload_n 0, 1) := by decide +kernel
theorem dX5_markBeaten_51 : decode cX5_markBeaten 51 = .ok (.getfield 24, 3) := by decide +kernel
theorem dX5_markBeaten_54 : decode cX5_markBeaten 54 = .ok (.iload_n 2, 1) := by decide +kernel
theorem dX5_markBeaten_55 : decode cX5_markBeaten 55 = .ok (.aaload, 1) := by decide +kernel
theorem dX5_markBeaten_56 : decode cX5_markBeaten 56 = .ok (.iload 4, 2) := by decide +kernel
theorem dX5_markBeaten_58 : decode cX5_markBeaten 58 = .ok (.iload 6, 2) := by decide +kernel
theorem dX5_markBeaten_60 : decode cX5_markBeaten 60 = .ok (.ifCond .eq 15, 3) := by decide +kernel
theorem dX5_markBeaten_63 : decode cX5_markBeaten 63 = .ok (.aload_n 0, 1) := by decide +kernel
theorem dX5_markBeaten_64 : decode cX5_markBeaten 64 = .ok (.getfield 24, 3) := by decide +kernel
theorem dX5_markBeaten_67 : decode cX5_markBeaten 67 = .ok (.iload_n 2, 1) := by decide +kernel
theorem dX5_markBeaten_68 : decode cX5_markBeaten 68 = .ok (.aaload, 1) := by decide +kernel
theorem dX5_markBeaten_69 : decode cX5_markBeaten 69 = .ok (.iload 5, 2) := by decide +kernel
theorem dX5_markBeaten_71 : decode cX5_markBeaten 71 = .ok (.iaload, 1) := by decide +kernel
theorem dX5_markBeaten_72 : decode cX5_markBeaten 72 = .ok (.goto 19, 3) := by decide +kernel
theorem dX5_markBeaten_75 : decode cX5_markBeaten 75 = .ok (.aload_n 0, 1) := by decide +kernel
theorem dX5_markBeaten_76 : decode cX5_markBeaten 76 = .ok (.aload_n 1, 1) := by decide +kernel
theorem dX5_markBeaten_77 : decode cX5_markBeaten 77 = .ok (.iload_n 2, 1) := by decide +kernel
theorem dX5_markBeaten_78 : decode cX5_markBeaten 78 = .ok (.iload 4, 2) := by decide +kernel
theorem dX5_markBeaten_80 : decode cX5_markBeaten 80 = .ok (.invokevirtual 52, 3) := by decide +kernel
theorem dX5_markBeaten_83 : decode cX5_markBeaten 83 = .ok (.ifCond .eq 7, 3) := by decide +kernel
theorem dX5_markBeaten_86 : decode cX5_markBeaten 86 = .ok (.iconst 1, 1) := by decide +kernel
theorem dX5_markBeaten_87 : decode cX5_markBeaten 87 = .ok (.goto 4, 3) := by decide +kernel
theorem dX5_markBeaten_90 : decode cX5_markBeaten 90 = .ok (.iconst 0, 1) := by decide +kernel
theorem dX5_markBeaten_91 : decode cX5_markBeaten 91 = .ok (.iastore, 1) := by decide +kernel
theorem dX5_markBeaten_92 : decode cX5_markBeaten 92 = .ok (.iinc 3 1, 3) := by decide +kernel
theorem dX5_markBeaten_95 : decode cX5_markBeaten 95 = .ok (.goto (-93), 3) := by decide +kernel
theorem dX5_markBeaten_98 : decode cX5_markBeaten 98 = .ok (.return_, 1) := by decide +kernel
abbrev j5_markBeaten : xJ := (cX5_markBeaten, 7, RX5, 5, 0, 0)
def F5_markBeaten_b91 (z : Nat) (x2 : Int32) (x3 : Int32) (r0 : Nat) (s1 : Int32) (s2 : Int32) (c_kept : (Nat → Nat → Int32)) (c_many : (Nat → Int32)) (c_goes : (Nat → Nat → Int32)) (c_row : (Nat → Int32)) (c_s_fields : Int32) (c_s_ties : Int32) (c_s_worth : (Nat → Int32)) (c_s_many : (Nat → Int32)) (c_s_codes : (Nat → Nat → Int32)) (k2 : Int32 → Int32 → (Nat → Nat → Int32) → (Nat → Int32) → (Nat → Nat → Int32) → (Nat → Int32) → Int32 → Int32 → (Nat → Int32) → (Nat → Int32) → (Nat → Nat → Int32) → Option ((Nat → Nat → Int32) × (Nat → Int32))) : Option ((Nat → Nat → Int32) × (Nat → Int32)) :=
  xg (Nat.blt r0 2) (xg (xin s1 120) (k2 x2 (x3 + (1 : Int32)) c_kept c_many (va_up c_goes r0 (upd (c_goes r0) (xn s1) s2)) c_row c_s_fields c_s_ties c_s_worth c_s_many c_s_codes))
theorem T5_markBeaten_b91 {X : xX} {c_turns : Int32} {c_stale : Int32} {c_s_forces : (Nat → Int32)} {c_s_b_list : (Nat → Nat → Int32)} {c_s_b_many : (Nat → Int32)} {c_s_p_list : (Nat → Nat → Int32)} {c_s_p_weights : (Nat → Nat → Int32)} {c_s_p_drawn : (Nat → Nat → Int32)} {c_s_p_many : (Nat → Int32)} {c_s_p_all : (Nat → Int32)} {c_s_p_turns : (Nat → Int32)} {x2 : Int32} {x3 : Int32} {r0 : Nat} {s1 : Int32} {s2 : Int32} {c_kept : (Nat → Nat → Int32)} {c_many : (Nat → Int32)} {c_goes : (Nat → Nat → Int32)} {c_row : (Nat → Int32)} {c_s_fields : Int32} {c_s_ties : Int32} {c_s_worth : (Nat → Int32)} {c_s_many : (Nat → Int32)} {c_s_codes : (Nat → Nat → Int32)} {z : Nat} {v : (Nat → Nat → Int32) × (Nat → Int32)} {k2 : Int32 → Int32 → (Nat → Nat → Int32) → (Nat → Int32) → (Nat → Nat → Int32) → (Nat → Int32) → Int32 → Int32 → (Nat → Int32) → (Nat → Int32) → (Nat → Nat → Int32) → Option ((Nat → Nat → Int32) × (Nat → Int32))} (hX : xIs (j5_markBeaten) X none none (hVS c_kept c_many c_turns c_stale v.1 v.2 c_s_fields c_s_ties c_s_worth c_s_forces c_s_many c_s_codes c_s_b_list c_s_b_many c_s_p_list c_s_p_weights c_s_p_drawn c_s_p_many c_s_p_all c_s_p_turns)) (hk2 : ∀ {x2 : Int32} {x3 : Int32} {c_goes : (Nat → Nat → Int32)} {c_row : (Nat → Int32)}, k2 x2 x3 c_kept c_many c_goes c_row c_s_fields c_s_ties c_s_worth c_s_many c_s_codes = some v → xV (j5_markBeaten) X 0 0 (hVS c_kept c_many c_turns c_stale c_goes c_row c_s_fields c_s_ties c_s_worth c_s_forces c_s_many c_s_codes c_s_b_list c_s_b_many c_s_p_list c_s_p_weights c_s_p_drawn c_s_p_many c_s_p_all c_s_p_turns) 2 [(0, .ref 0), (1, .ref 9), (2, .int x2), (3, .int x3)] []) (hf : F5_markBeaten_b91 z x2 x3 r0 s1 s2 c_kept c_many c_goes c_row c_s_fields c_s_ties c_s_worth c_s_many c_s_codes k2 = some v) : xV (j5_markBeaten) X 0 0 (hVS c_kept c_many c_turns c_stale c_goes c_row c_s_fields c_s_ties c_s_worth c_s_forces c_s_many c_s_codes c_s_b_list c_s_b_many c_s_p_list c_s_p_weights c_s_p_drawn c_s_p_many c_s_p_all c_s_p_turns) 91 [(0, .ref 0), (1, .ref 9), (2, .int x2), (3, .int x3)] [.int s2, .int s1, .ref (6 + r0)] := by
  unfold F5_markBeaten_b91 at hf
  obtain ⟨hr0, hf⟩ := xg_s hf
  obtain ⟨hg91, hf⟩ := xg_s hf
  refine xV_iastore (f := (c_goes r0)) (z := 120) (h' := (hVS c_kept c_many c_turns c_stale (va_up c_goes r0 (upd (c_goes r0) (xn s1) s2)) c_row c_s_fields c_s_ties c_s_worth c_s_forces c_s_many c_s_codes c_s_b_list c_s_b_many c_s_p_list c_s_p_weights c_s_p_drawn c_s_p_many c_s_p_all c_s_p_turns)) (j := (xn s1)) 92 rfl dX5_markBeaten_91 (by have hi := (xblt hr0); generalize r0 = i at hi ⊢; match i, hi with | 0, _ => exact rfl | 1, _ => exact rfl) (xin_ok hg91) rfl (by have hi := (xblt hr0); generalize r0 = i at hi ⊢; match i, hi with | 0, _ => exact rfl | 1, _ => exact rfl) ?_
  refine xV_iinc (L' := [(3, .int (x3 + (1 : Int32))), (0, .ref 0), (1, .ref 9), (2, .int x2)]) 95 rfl dX5_markBeaten_92 3 rfl (xk_inc xy_i1) (xlt rfl) rfl ?_
  refine xV_goto (tgt := 2) dX5_markBeaten_95 (by decide) ?_
  refine xV_sub [1, 2, 3, 0] rfl ?_
  exact hk2 hf
def F5_markBeaten_b48 (z : Nat) (x2 : Int32) (x3 : Int32) (x4 : Int32) (x5 : Int32) (s0 : Int32) (c_kept : (Nat → Nat → Int32)) (c_many : (Nat → Int32)) (c_goes : (Nat → Nat → Int32)) (c_row : (Nat → Int32)) (c_s_fields : Int32) (c_s_ties : Int32) (c_s_worth : (Nat → Int32)) (c_s_many : (Nat → Int32)) (c_s_codes : (Nat → Nat → Int32)) (k2 : Int32 → Int32 → (Nat → Nat → Int32) → (Nat → Int32) → (Nat → Nat → Int32) → (Nat → Int32) → Int32 → Int32 → (Nat → Int32) → (Nat → Int32) → (Nat → Nat → Int32) → Option ((Nat → Nat → Int32) × (Nat → Int32))) : Option ((Nat → Nat → Int32) × (Nat → Int32)) :=
  xg (xin x2 2) (if s0 = 0 then ((F5_isBeatenByKept z x2 x4 c_kept c_many c_row c_s_fields c_s_ties c_s_worth c_s_codes).bind (fun v80 => if v80.1 = 0 then (F5_markBeaten_b91 z x2 x3 (xn x2) x4 (0 : Int32) c_kept c_many c_goes v80.2 c_s_fields c_s_ties c_s_worth c_s_many c_s_codes k2) else (F5_markBeaten_b91 z x2 x3 (xn x2) x4 (1 : Int32) c_kept c_many c_goes v80.2 c_s_fields c_s_ties c_s_worth c_s_many c_s_codes k2))) else (xg (xin x2 2) (xg (xin x5 120) (F5_markBeaten_b91 z x2 x3 (xn x2) x4 ((c_goes (xn x2)) (xn x5)) c_kept c_many c_goes c_row c_s_fields c_s_ties c_s_worth c_s_many c_s_codes k2))))
theorem T5_markBeaten_b48 {X : xX} {c_turns : Int32} {c_stale : Int32} {c_s_forces : (Nat → Int32)} {c_s_b_list : (Nat → Nat → Int32)} {c_s_b_many : (Nat → Int32)} {c_s_p_list : (Nat → Nat → Int32)} {c_s_p_weights : (Nat → Nat → Int32)} {c_s_p_drawn : (Nat → Nat → Int32)} {c_s_p_many : (Nat → Int32)} {c_s_p_all : (Nat → Int32)} {c_s_p_turns : (Nat → Int32)} {x2 : Int32} {x3 : Int32} {x4 : Int32} {x5 : Int32} {s0 : Int32} {c_kept : (Nat → Nat → Int32)} {c_many : (Nat → Int32)} {c_goes : (Nat → Nat → Int32)} {c_row : (Nat → Int32)} {c_s_fields : Int32} {c_s_ties : Int32} {c_s_worth : (Nat → Int32)} {c_s_many : (Nat → Int32)} {c_s_codes : (Nat → Nat → Int32)} {z : Nat} {v : (Nat → Nat → Int32) × (Nat → Int32)} {k2 : Int32 → Int32 → (Nat → Nat → Int32) → (Nat → Int32) → (Nat → Nat → Int32) → (Nat → Int32) → Int32 → Int32 → (Nat → Int32) → (Nat → Int32) → (Nat → Nat → Int32) → Option ((Nat → Nat → Int32) × (Nat → Int32))} (hX : xIs (j5_markBeaten) X none none (hVS c_kept c_many c_turns c_stale v.1 v.2 c_s_fields c_s_ties c_s_worth c_s_forces c_s_many c_s_codes c_s_b_list c_s_b_many c_s_p_list c_s_p_weights c_s_p_drawn c_s_p_many c_s_p_all c_s_p_turns)) (hk2 : ∀ {x2 : Int32} {x3 : Int32} {c_goes : (Nat → Nat → Int32)} {c_row : (Nat → Int32)}, k2 x2 x3 c_kept c_many c_goes c_row c_s_fields c_s_ties c_s_worth c_s_many c_s_codes = some v → xV (j5_markBeaten) X 0 0 (hVS c_kept c_many c_turns c_stale c_goes c_row c_s_fields c_s_ties c_s_worth c_s_forces c_s_many c_s_codes c_s_b_list c_s_b_many c_s_p_list c_s_p_weights c_s_p_drawn c_s_p_many c_s_p_all c_s_p_turns) 2 [(0, .ref 0), (1, .ref 9), (2, .int x2), (3, .int x3)] []) (hf : F5_markBeaten_b48 z x2 x3 x4 x5 s0 c_kept c_many c_goes c_row c_s_fields c_s_ties c_s_worth c_s_many c_s_codes k2 = some v) : xV (j5_markBeaten) X 0 0 (hVS c_kept c_many c_turns c_stale c_goes c_row c_s_fields c_s_ties c_s_worth c_s_forces c_s_many c_s_codes c_s_b_list c_s_b_many c_s_p_list c_s_p_weights c_s_p_drawn c_s_p_many c_s_p_all c_s_p_turns) 48 [(0, .ref 0), (1, .ref 9), (2, .int x2), (3, .int x3), (4, .int x4), (5, .int x5)] [.int s0] := by
  unfold F5_markBeaten_b48 at hf
  refine xV_istore (L' := [(6, .int s0), (0, .ref 0), (1, .ref 9), (2, .int x2), (3, .int x3), (4, .int x4), (5, .int x5)]) 50 rfl dX5_markBeaten_48 (xlt rfl) rfl ?_
  refine xV_aload_n 51 rfl dX5_markBeaten_50 rfl 1 rfl ?_
  refine xV_get (v := .ref 5) 54 rfl dX5_markBeaten_51 f5_24 rfl rfl ?_
  refine xV_iload_n 55 rfl dX5_markBeaten_54 rfl 3 rfl ?_
  obtain ⟨hg55, hf⟩ := xg_s hf
  refine xV_aaload (b := (6 + (xn x2))) 56 rfl dX5_markBeaten_55 rfl rfl rfl (xin_ok hg55) (by show ([6, 7] : List Nat)[(xn x2)]? = some (6 + (xn x2)); have hi := xin_lt hg55; generalize (xn x2) = i at hi ⊢; match i, hi with | 0, _ => rfl | 1, _ => rfl) ?_
  refine xV_iload 58 rfl dX5_markBeaten_56 5 rfl ?_
  refine xV_iload 60 rfl dX5_markBeaten_58 0 rfl ?_
  refine xV_if_eq (tgt := 75) 63 rfl dX5_markBeaten_60 (by decide) (fun h60 => ?_) (fun h60 => ?_)
  · have hf := xif_t hf h60
    refine xV_aload_n 76 rfl dX5_markBeaten_75 rfl 1 rfl ?_
    refine xV_aload_n 77 rfl dX5_markBeaten_76 rfl 2 rfl ?_
    refine xV_iload_n 78 rfl dX5_markBeaten_77 rfl 3 rfl ?_
    refine xV_iload 80 rfl dX5_markBeaten_78 5 rfl ?_
    obtain ⟨v80, hv80, hf⟩ := xb_s hf
    refine xV_same (rest := [.int x4, .ref (6 + (xn x2))]) 83 rfl dX5_markBeaten_80 rfl (C5_isBeatenByKept X.1.2.1 hv80) m5_isBeatenByKept v5_isBeatenByKept k5_52 rfl rfl rfl rfl rfl (Nat.le_of_ble_eq_true rfl) (Nat.le_of_ble_eq_true rfl) (Nat.le_of_ble_eq_true rfl) ⟨Nat.le_refl _, Nat.le_refl _⟩ ?_
    show xV (j5_markBeaten) X 0 0 (hVS c_kept c_many c_turns c_stale c_goes v80.2 c_s_fields c_s_ties c_s_worth c_s_forces c_s_many c_s_codes c_s_b_list c_s_b_many c_s_p_list c_s_p_weights c_s_p_drawn c_s_p_many c_s_p_all c_s_p_turns) 83 [(6, .int s0), (0, .ref 0), (1, .ref 9), (2, .int x2), (3, .int x3), (4, .int x4), (5, .int x5)] [.int v80.1, .int x4, .ref (6 + (xn x2))]
    refine xV_if_eq (tgt := 90) 86 rfl dX5_markBeaten_83 (by decide) (fun h83 => ?_) (fun h83 => ?_)
    · have hf := xif_t hf h83
      refine xV_iconst 91 rfl dX5_markBeaten_90 xy_i0 ?_
      refine xV_sub [1, 2, 3, 4] rfl ?_
      exact T5_markBeaten_b91 hX hk2 hf
    · have hf := xif_f hf h83
      refine xV_iconst 87 rfl dX5_markBeaten_86 xy_i1 ?_
      refine xV_goto (tgt := 91) dX5_markBeaten_87 (by decide) ?_
      refine xV_sub [1, 2, 3, 4] rfl ?_
      exact T5_markBeaten_b91 hX hk2 hf
  · have hf := xif_f hf h60
    refine xV_aload_n 64 rfl dX5_markBeaten_63 rfl 1 rfl ?_
    refine xV_get (v := .ref 5) 67 rfl dX5_markBeaten_64 f5_24 rfl rfl ?_
    refine xV_iload_n 68 rfl dX5_markBeaten_67 rfl 3 rfl ?_
    obtain ⟨hg68, hf⟩ := xg_s hf
    refine xV_aaload (b := (6 + (xn x2))) 69 rfl dX5_markBeaten_68 rfl rfl rfl (xin_ok hg68) (by show ([6, 7] : List Nat)[(xn x2)]? = some (6 + (xn x2)); have hi := xin_lt hg68; generalize (xn x2) = i at hi ⊢; match i, hi with | 0, _ => rfl | 1, _ => rfl) ?_
    refine xV_iload 71 rfl dX5_markBeaten_69 6 rfl ?_
    obtain ⟨hg71, hf⟩ := xg_s hf
    refine xV_iaload (f := (c_goes (xn x2))) (z := 120) 72 rfl dX5_markBeaten_71 (by have hi := (xin_lt hg68); generalize (xn x2) = i at hi ⊢; match i, hi with | 0, _ => exact rfl | 1, _ => exact rfl) (xin_ok hg71) rfl ?_
    refine xV_goto (tgt := 91) dX5_markBeaten_72 (by decide) ?_
    refine xV_sub [1, 2, 3, 4] rfl ?_
    exact T5_markBeaten_b91 hX hk2 hf
def F5_markBeaten_b2 (z : Nat) (w : Nat) (x2 : Int32) (x3 : Int32) (c_kept : (Nat → Nat → Int32)) (c_many : (Nat → Int32)) (c_goes : (Nat → Nat → Int32)) (c_row : (Nat → Int32)) (c_s_fields : Int32) (c_s_ties : Int32) (c_s_worth : (Nat → Int32)) (c_s_many : (Nat → Int32)) (c_s_codes : (Nat → Nat → Int32)) : Option ((Nat → Nat → Int32) × (Nat → Int32)) := match w with
  | 0 => none
  | w + 1 => xg (xin x2 2) (if (c_many (xn x2)) ≤ x3 then (some (c_goes, c_row)) else (xg (xin x2 2) (xg (xin x3 120) ((F4_shapeFirst z x2 ((c_kept (xn x2)) (xn x3)) c_s_fields c_s_worth c_s_many c_s_codes).bind (fun v26 => if v26 < 0 then (F5_markBeaten_b48 z x2 x3 ((c_kept (xn x2)) (xn x3)) v26 (0 : Int32) c_kept c_many c_goes c_row c_s_fields c_s_ties c_s_worth c_s_many c_s_codes (fun q0 q1 q2 q3 q4 q5 q6 q7 q8 q9 q10 => F5_markBeaten_b2 z w q0 q1 q2 q3 q4 q5 q6 q7 q8 q9 q10)) else (if ((c_kept (xn x2)) (xn x3)) ≤ v26 then (F5_markBeaten_b48 z x2 x3 ((c_kept (xn x2)) (xn x3)) v26 (0 : Int32) c_kept c_many c_goes c_row c_s_fields c_s_ties c_s_worth c_s_many c_s_codes (fun q0 q1 q2 q3 q4 q5 q6 q7 q8 q9 q10 => F5_markBeaten_b2 z w q0 q1 q2 q3 q4 q5 q6 q7 q8 q9 q10)) else (F5_markBeaten_b48 z x2 x3 ((c_kept (xn x2)) (xn x3)) v26 (1 : Int32) c_kept c_many c_goes c_row c_s_fields c_s_ties c_s_worth c_s_many c_s_codes (fun q0 q1 q2 q3 q4 q5 q6 q7 q8 q9 q10 => F5_markBeaten_b2 z w q0 q1 q2 q3 q4 q5 q6 q7 q8 q9 q10))))))))
theorem T5_markBeaten_b2 {X : xX} {c_kept : (Nat → Nat → Int32)} {c_many : (Nat → Int32)} {c_turns : Int32} {c_stale : Int32} {c_s_fields : Int32} {c_s_ties : Int32} {c_s_worth : (Nat → Int32)} {c_s_forces : (Nat → Int32)} {c_s_many : (Nat → Int32)} {c_s_codes : (Nat → Nat → Int32)} {c_s_b_list : (Nat → Nat → Int32)} {c_s_b_many : (Nat → Int32)} {c_s_p_list : (Nat → Nat → Int32)} {c_s_p_weights : (Nat → Nat → Int32)} {c_s_p_drawn : (Nat → Nat → Int32)} {c_s_p_many : (Nat → Int32)} {c_s_p_all : (Nat → Int32)} {c_s_p_turns : (Nat → Int32)} {z : Nat} {v : (Nat → Nat → Int32) × (Nat → Int32)} (hX : xIs (j5_markBeaten) X none none (hVS c_kept c_many c_turns c_stale v.1 v.2 c_s_fields c_s_ties c_s_worth c_s_forces c_s_many c_s_codes c_s_b_list c_s_b_many c_s_p_list c_s_p_weights c_s_p_drawn c_s_p_many c_s_p_all c_s_p_turns)) : ∀ (w : Nat) {x2 : Int32} {x3 : Int32} {c_goes : (Nat → Nat → Int32)} {c_row : (Nat → Int32)}, F5_markBeaten_b2 z w x2 x3 c_kept c_many c_goes c_row c_s_fields c_s_ties c_s_worth c_s_many c_s_codes = some v → xV (j5_markBeaten) X 0 0 (hVS c_kept c_many c_turns c_stale c_goes c_row c_s_fields c_s_ties c_s_worth c_s_forces c_s_many c_s_codes c_s_b_list c_s_b_many c_s_p_list c_s_p_weights c_s_p_drawn c_s_p_many c_s_p_all c_s_p_turns) 2 [(0, .ref 0), (1, .ref 9), (2, .int x2), (3, .int x3)] [] := by
  intro w
  induction w with
  | zero => intro x2 x3 c_goes c_row hf; cases hf
  | succ w ih =>
    intro x2 x3 c_goes c_row hf
    unfold F5_markBeaten_b2 at hf
    refine xV_iload_n 3 rfl dX5_markBeaten_2 rfl 3 rfl ?_
    refine xV_aload_n 4 rfl dX5_markBeaten_3 rfl 0 rfl ?_
    refine xV_get (v := .ref 4) 7 rfl dX5_markBeaten_4 f5_16 rfl rfl ?_
    refine xV_iload_n 8 rfl dX5_markBeaten_7 rfl 2 rfl ?_
    obtain ⟨hg8, hf⟩ := xg_s hf
    refine xV_iaload 9 rfl dX5_markBeaten_8 rfl (xin_ok hg8) rfl ?_
    refine xV_icmp_ge (tgt := 98) 12 rfl dX5_markBeaten_9 (by decide) (fun h9 => ?_) (fun h9 => ?_)
    · have hf := xif_t hf h9
      obtain rfl := Option.some.inj hf
      exact xV_vret hX dX5_markBeaten_98 (Nat.zero_le _) (Nat.zero_le _)
    · have hf := xif_f hf h9
      refine xV_aload_n 13 rfl dX5_markBeaten_12 rfl 0 rfl ?_
      refine xV_get (v := .ref 1) 16 rfl dX5_markBeaten_13 f5_11 rfl rfl ?_
      refine xV_iload_n 17 rfl dX5_markBeaten_16 rfl 2 rfl ?_
      obtain ⟨hg17, hf⟩ := xg_s hf
      refine xV_aaload (b := (2 + (xn x2))) 18 rfl dX5_markBeaten_17 rfl rfl rfl (xin_ok hg17) (by show ([2, 3] : List Nat)[(xn x2)]? = some (2 + (xn x2)); have hi := xin_lt hg17; generalize (xn x2) = i at hi ⊢; match i, hi with | 0, _ => rfl | 1, _ => rfl) ?_
      refine xV_iload_n 19 rfl dX5_markBeaten_18 rfl 3 rfl ?_
      obtain ⟨hg19, hf⟩ := xg_s hf
      refine xV_iaload (f := (c_kept (xn x2))) (z := 120) 20 rfl dX5_markBeaten_19 (by have hi := (xin_lt hg17); generalize (xn x2) = i at hi ⊢; match i, hi with | 0, _ => exact rfl | 1, _ => exact rfl) (xin_ok hg19) rfl ?_
      refine xV_istore (L' := [(4, .int ((c_kept (xn x2)) (xn x3))), (0, .ref 0), (1, .ref 9), (2, .int x2), (3, .int x3)]) 22 rfl dX5_markBeaten_20 (xlt rfl) rfl ?_
      refine xV_aload_n 23 rfl dX5_markBeaten_22 rfl 2 rfl ?_
      refine xV_iload_n 24 rfl dX5_markBeaten_23 rfl 3 rfl ?_
      refine xV_iload 26 rfl dX5_markBeaten_24 0 rfl ?_
      obtain ⟨v26, hv26, hf⟩ := xb_s hf
      refine xV_vir2 (g := (fun j => 9 + j)) (hl := (hS c_s_fields c_s_ties c_s_worth c_s_forces c_s_many c_s_codes c_s_b_list c_s_b_many c_s_p_list c_s_p_weights c_s_p_drawn c_s_p_many c_s_p_all c_s_p_turns)) (hl' := (hS c_s_fields c_s_ties c_s_worth c_s_forces c_s_many c_s_codes c_s_b_list c_s_b_many c_s_p_list c_s_p_weights c_s_p_drawn c_s_p_many c_s_p_all c_s_p_turns)) (h' := (hVS c_kept c_many c_turns c_stale c_goes c_row c_s_fields c_s_ties c_s_worth c_s_forces c_s_many c_s_codes c_s_b_list c_s_b_many c_s_p_list c_s_p_weights c_s_p_drawn c_s_p_many c_s_p_all c_s_p_turns)) (rest := []) (ci := 4) 29 rfl dX5_markBeaten_26 rfl (C4_shapeFirst X.1.2.1 hv26) m4_shapeFirst v4_shapeFirst k5_48 rfl rfl rfl (e_VS_S_L9) rfl (Nat.le_of_ble_eq_true rfl) (Nat.le_of_ble_eq_true rfl) (Nat.le_of_ble_eq_true rfl) ⟨Nat.le_refl _, Nat.le_refl _⟩ ?_
      show xV (j5_markBeaten) X 0 0 (hVS c_kept c_many c_turns c_stale c_goes c_row c_s_fields c_s_ties c_s_worth c_s_forces c_s_many c_s_codes c_s_b_list c_s_b_many c_s_p_list c_s_p_weights c_s_p_drawn c_s_p_many c_s_p_all c_s_p_turns) 29 [(4, .int ((c_kept (xn x2)) (xn x3))), (0, .ref 0), (1, .ref 9), (2, .int x2), (3, .int x3)] [.int v26]
      refine xV_istore (L' := [(5, .int v26), (4, .int ((c_kept (xn x2)) (xn x3))), (0, .ref 0), (1, .ref 9), (2, .int x2), (3, .int x3)]) 31 rfl dX5_markBeaten_29 (xlt rfl) rfl ?_
      refine xV_iload 33 rfl dX5_markBeaten_31 0 rfl ?_
      refine xV_if_lt (tgt := 47) 36 rfl dX5_markBeaten_33 (by decide) (fun h33 => ?_) (fun h33 => ?_)
      · have hf := xif_t hf h33
        refine xV_iconst 48 rfl dX5_markBeaten_47 xy_i0 ?_
        refine xV_sub [2, 3, 4, 5, 1, 0] rfl ?_
        exact T5_markBeaten_b48 hX (fun {_ _ _ _} hq => ih hq) hf
      · have hf := xif_f hf h33
        refine xV_iload 38 rfl dX5_markBeaten_36 0 rfl ?_
        refine xV_iload 40 rfl dX5_markBeaten_38 1 rfl ?_
        refine xV_icmp_ge (tgt := 47) 43 rfl dX5_markBeaten_40 (by decide) (fun h40 => ?_) (fun h40 => ?_)
        · have hf := xif_t hf h40
          refine xV_iconst 48 rfl dX5_markBeaten_47 xy_i0 ?_
          refine xV_sub [2, 3, 4, 5, 1, 0] rfl ?_
          exact T5_markBeaten_b48 hX (fun {_ _ _ _} hq => ih hq) hf
        · have hf := xif_f hf h40
          refine xV_iconst 44 rfl dX5_markBeaten_43 xy_i1 ?_
          refine xV_goto (tgt := 48) dX5_markBeaten_44 (by decide) ?_
          refine xV_sub [2, 3, 4, 5, 1, 0] rfl ?_
          exact T5_markBeaten_b48 hX (fun {_ _ _ _} hq => ih hq) hf
def F5_markBeaten (z : Nat) (x2 : Int32) (c_kept : (Nat → Nat → Int32)) (c_many : (Nat → Int32)) (c_goes : (Nat → Nat → Int32)) (c_row : (Nat → Int32)) (c_s_fields : Int32) (c_s_ties : Int32) (c_s_worth : (Nat → Int32)) (c_s_many : (Nat → Int32)) (c_s_codes : (Nat → Nat → Int32)) : Option ((Nat → Nat → Int32) × (Nat → Int32)) :=
  F5_markBeaten_b2 z z x2 (0 : Int32) c_kept c_many c_goes c_row c_s_fields c_s_ties c_s_worth c_s_many c_s_codes
theorem T5_markBeaten {X : xX} {z : Nat} {x2 : Int32} {c_kept : (Nat → Nat → Int32)} {c_many : (Nat → Int32)} {c_goes : (Nat → Nat → Int32)} {c_row : (Nat → Int32)} {c_s_fields : Int32} {c_s_ties : Int32} {c_s_worth : (Nat → Int32)} {c_s_many : (Nat → Int32)} {c_s_codes : (Nat → Nat → Int32)} {c_turns : Int32} {c_stale : Int32} {c_s_forces : (Nat → Int32)} {c_s_b_list : (Nat → Nat → Int32)} {c_s_b_many : (Nat → Int32)} {c_s_p_list : (Nat → Nat → Int32)} {c_s_p_weights : (Nat → Nat → Int32)} {c_s_p_drawn : (Nat → Nat → Int32)} {c_s_p_many : (Nat → Int32)} {c_s_p_all : (Nat → Int32)} {c_s_p_turns : (Nat → Int32)} {v : (Nat → Nat → Int32) × (Nat → Int32)} (hX : xIs (j5_markBeaten) X none none (hVS c_kept c_many c_turns c_stale v.1 v.2 c_s_fields c_s_ties c_s_worth c_s_forces c_s_many c_s_codes c_s_b_list c_s_b_many c_s_p_list c_s_p_weights c_s_p_drawn c_s_p_many c_s_p_all c_s_p_turns)) (hf : F5_markBeaten z x2 c_kept c_many c_goes c_row c_s_fields c_s_ties c_s_worth c_s_many c_s_codes = some v) : xV (j5_markBeaten) X 0 0 (hVS c_kept c_many c_turns c_stale c_goes c_row c_s_fields c_s_ties c_s_worth c_s_forces c_s_many c_s_codes c_s_b_list c_s_b_many c_s_p_list c_s_p_weights c_s_p_drawn c_s_p_many c_s_p_all c_s_p_turns) 0 [(0, .ref 0), (1, .ref 9), (2, .int x2)] [] := by
  unfold F5_markBeaten at hf
  refine xV_iconst 1 rfl dX5_markBeaten_0 xy_i0 ?_
  refine xV_istore_n (L' := [(3, .int (0 : Int32)), (0, .ref 0), (1, .ref 9), (2, .int x2)]) 2 rfl dX5_markBeaten_1 rfl (xlt rfl) rfl ?_
  refine xV_sub [1, 2, 3, 0] rfl ?_
  exact T5_markBeaten_b2 hX _ hf
theorem C5_markBeaten (l : Launch) {z : Nat} {x2 : Int32} {c_kept : (Nat → Nat → Int32)} {c_many : (Nat → Int32)} {c_goes : (Nat → Nat → Int32)} {c_row : (Nat → Int32)} {c_s_fields : Int32} {c_s_ties : Int32} {c_s_worth : (Nat → Int32)} {c_s_many : (Nat → Int32)} {c_s_codes : (Nat → Nat → Int32)} {c_turns : Int32} {c_stale : Int32} {c_s_forces : (Nat → Int32)} {c_s_b_list : (Nat → Nat → Int32)} {c_s_b_many : (Nat → Int32)} {c_s_p_list : (Nat → Nat → Int32)} {c_s_p_weights : (Nat → Nat → Int32)} {c_s_p_drawn : (Nat → Nat → Int32)} {c_s_p_many : (Nat → Int32)} {c_s_p_all : (Nat → Int32)} {c_s_p_turns : (Nat → Int32)} {v : (Nat → Nat → Int32) × (Nat → Int32)} (hf : F5_markBeaten z x2 c_kept c_many c_goes c_row c_s_fields c_s_ties c_s_worth c_s_many c_s_codes = some v) : xCt l yX5_markBeaten none j5_markBeaten [.ref 0, .ref 9, .int x2] (hVS c_kept c_many c_turns c_stale c_goes c_row c_s_fields c_s_ties c_s_worth c_s_forces c_s_many c_s_codes c_s_b_list c_s_b_many c_s_p_list c_s_p_weights c_s_p_drawn c_s_p_many c_s_p_all c_s_p_turns) none (hVS c_kept c_many c_turns c_stale v.1 v.2 c_s_fields c_s_ties c_s_worth c_s_forces c_s_many c_s_codes c_s_b_list c_s_b_many c_s_p_list c_s_p_weights c_s_p_drawn c_s_p_many c_s_p_all c_s_p_turns) := xCt_of (by decide) rfl (Nat.le_of_ble_eq_true rfl) (fun _ hX => T5_markBeaten hX hf)
theorem m5_markBeaten : xMd yX5_markBeaten RX5 none j5_markBeaten 2 := ⟨List.mem_of_getElem? (i := 735) (by decide +kernel), List.mem_of_getElem? (i := 29) (by decide +kernel), rfl, by decide +kernel⟩
theorem v5_markBeaten : xMv yX5_markBeaten RX5 := ⟨List.mem_of_getElem? (i := 733) (by decide +kernel), List.mem_of_getElem? (i := 734) (by decide +kernel)⟩
theorem dX5_dropMarked_0 : decode cX5_dropMarked 0 = .ok (.iconst 0, 1) := by decide +kernel
theorem dX5_dropMarked_1 : decode cX5_dropMarked 1 = .ok (.istore_n 2, 1) := by decide +kernel
theorem dX5_dropMarked_2 : decode cX5_dropMarked 2 = .ok (.iconst 0, 1) := by decide +kernel
theorem dX5_dropMarked_3 : decode cX5_dropMarked 3 = .ok (.istore_n 3, 1) := by decide +kernel
theorem dX5_dropMarked_4 : decode cX5_dropMarked 4 = .ok (.iload_n 3, 1) := by decide +kernel
theorem dX5_dropMarked_5 : decode cX5_dropMarked 5 = .ok (.aload_n 0, 1) := by decide +kernel
theorem dX5_dropMarked_6 : decode cX5_dropMarked 6 = .ok (.getfield 16, 3) := by decide +kernel
theorem dX5_dropMarked_9 : decode cX5_dropMarked 9 = .ok (.iload_n 1, 1) := by decide +kernel
theorem dX5_dropMarked_10 : decode cX5_dropMarked 10 = .ok (.iaload, 1) := by decide +kernel
theorem dX5_dropMarked_11 : decode cX5_dropMarked 11 = .ok (.if_icmp .ge 44, 3) := by decide +kernel
theorem dX5_dropMarked_14 : decode cX5_dropMarked 14 = .ok (.aload_n 0, 1) := by decide +kernel
theorem dX5_dropMarked_15 : decode cX5_dropMarked 15 = .ok (.getfield 11, 3) := by decide +kernel
theorem dX5_dropMarked_18 : decode cX5_dropMarked 18 = .ok (.iload_n 1, 1) := by decide +kernel
theorem dX5_dropMarked_19 : decode cX5_dropMarked 19 = .ok (.aaload, 1) := by decide +kernel
theorem dX5_dropMarked_20 : decode cX5_dropMarked 20 = .ok (.iload_n 3, 1) := by decide +kernel
theorem dX5_dropMarked_21 : decode cX5_dropMarked 21 = .ok (.iaload, 1) := by decide +kernel
theorem dX5_dropMarked_22 : decode cX5_dropMarked 22 = .ok (.istore 4, 2) := by decide +kernel
theorem dX5_dropMarked_24 : decode cX5_dropMarked 24 = .ok (.aload_n 0, 1) := by decide +kernel
theorem dX5_dropMarked_25 : decode cX5_dropMarked 25 = .ok (.getfield 24, 3) := by decide +kernel
theorem dX5_dropMarked_28 : decode cX5_dropMarked 28 = .ok (.iload_n 1, 1) := by decide +kernel
theorem dX5_dropMarked_29 : decode cX5_dropMarked 29 = .ok (.aaload, 1) := by decide +kernel
theorem dX5_dropMarked_30 : decode cX5_dropMarked 30 = .ok (.iload 4, 2) := by decide +kernel
theorem dX5_dropMarked_32 : decode cX5_dropMarked 32 = .ok (.iaload, 1) := by decide +kernel
theorem dX5_dropMarked_33 : decode cX5_dropMarked 33 = .ok (.ifCond .ne 16, 3) := by decide +kernel
theorem dX5_dropMarked_36 : decode cX5_dropMarked 36 = .ok (.aload_n 0, 1) := by decide +kernel
theorem dX5_dropMarked_37 : decode cX5_dropMarked 37 = .ok (.getfield 11, 3) := by decide +kernel
theorem dX5_dropMarked_40 : decode cX5_dropMarked 40 = .ok (.iload_n 1, 1) := by decide +kernel
theorem dX5_dropMarked_41 : decode cX5_dropMarked 41 = .ok (.aaload, 1) := by decide +kernel
theorem dX5_dropMarked_42 : decode cX5_dropMarked 42 = .ok (.iload_n 2, 1) := by decide +kernel
theorem dX5_dropMarked_43 : decode cX5_dropMarked 43 = .ok (.iload 4, 2) := by decide +kernel
theorem dX5_dropMarked_45 : decode cX5_dropMarked 45 = .ok (.iastore, 1) := by decide +kernel
theorem dX5_dropMarked_46 : decode cX5_dropMarked 46 = .ok (.iinc 2 1, 3) := by decide +kernel
theorem dX5_dropMarked_49 : decode cX5_dropMarked 49 = .ok (.iinc 3 1, 3) := by decide +kernel
theorem dX5_dropMarked_52 : decode cX5_dropMarked 52 = .ok (.goto (-48), 3) := by decide +kernel
theorem dX5_dropMarked_55 : decode cX5_dropMarked 55 = .ok (.iload_n 2, 1) := by decide +kernel
theorem dX5_dropMarked_56 : decode cX5_dropMarked 56 = .ok (.aload_n 0, 1) := by decide +kernel
theorem dX5_dropMarked_57 : decode cX5_dropMarked 57 = .ok (.getfield 16, 3) := by decide +kernel
theorem dX5_dropMarked_60 : decode cX5_dropMarked 60 = .ok (.iload_n 1, 1) := by decide +kernel
theorem dX5_dropMarked_61 : decode cX5_dropMarked 61 = .ok (.iaload, 1) := by decide +kernel
theorem dX5_dropMarked_62 : decode cX5_dropMarked 62 = .ok (.if_icmp .ge 7, 3) := by decide +kernel
theorem dX5_dropMarked_65 : decode cX5_dropMarked 65 = .ok (.iconst 1, 1) := by decide +kernel
theorem dX5_dropMarked_66 : decode cX5_dropMarked 66 = .ok (.goto 4, 3) := by decide +kernel
theorem dX5_dropMarked_69 : decode cX5_dropMarked 69 = .ok (.iconst 0, 1) := by decide +kernel
theorem dX5_dropMarked_70 : decode cX5_dropMarked 70 = .ok (.istore_n 3, 1) := by decide +kernel
theorem dX5_dropMarked_71 : decode cX5_dropMarked 71 = .ok (.aload_n 0, 1) := by decide +kernel
theorem dX5_dropMarked_72 : decode cX5_dropMarked 72 = .ok (.getfield 16, 3) := by decide +kernel
theorem dX5_dropMarked_75 : decode cX5_dropMarked 75 = .ok (.iload_n 1, 1) := by decide +kernel
theorem dX5_dropMarked_76 : decode cX5_dropMarked 76 = .ok (.iload_n 2, 1) := by decide +kernel
theorem dX5_dropMarked_77 : decode cX5_dropMarked 77 = .ok (.iastore, 1) := by decide +kernel
theorem dX5_dropMarked_78 : decode cX5_dropMarked 78 = .ok (.iload_n 3, 1) := by decide +kernel
theorem dX5_dropMarked_79 : decode cX5_dropMarked 79 = .ok (.ireturn, 1) := by decide +kernel
abbrev j5_dropMarked : xJ := (cX5_dropMarked, 5, RX5, 1, 0, 0)
def F5_dropMarked_b70 (z : Nat) (x1 : Int32) (x2 : Int32) (s0 : Int32) (c_kept : (Nat → Nat → Int32)) (c_many : (Nat → Int32)) (c_goes : (Nat → Nat → Int32)) : Option (Int32 × (Nat → Nat → Int32) × (Nat → Int32)) :=
  xg (xin x1 2) (xg (xbo s0) (some (s0, c_kept, (upd c_many (xn x1) x2))))
theorem T5_dropMarked_b70 {X : xX} {c_turns : Int32} {c_stale : Int32} {c_row : (Nat → Int32)} {x1 : Int32} {x2 : Int32} {s0 : Int32} {c_kept : (Nat → Nat → Int32)} {c_many : (Nat → Int32)} {c_goes : (Nat → Nat → Int32)} {z : Nat} {v : Int32 × (Nat → Nat → Int32) × (Nat → Int32)} (hX : xIs (j5_dropMarked) X ((some .boolean)) (some (.int v.1)) (hV v.2.1 v.2.2 c_turns c_stale c_goes c_row)) (hf : F5_dropMarked_b70 z x1 x2 s0 c_kept c_many c_goes = some v) : xV (j5_dropMarked) X 0 0 (hV c_kept c_many c_turns c_stale c_goes c_row) 70 [(0, .ref 0), (1, .int x1), (2, .int x2)] [.int s0] := by
  unfold F5_dropMarked_b70 at hf
  refine xV_istore_n (L' := [(3, .int s0), (0, .ref 0), (1, .int x1), (2, .int x2)]) 71 rfl dX5_dropMarked_70 rfl (xlt rfl) rfl ?_
  refine xV_aload_n 72 rfl dX5_dropMarked_71 rfl 1 rfl ?_
  refine xV_get (v := .ref 4) 75 rfl dX5_dropMarked_72 f5_16 rfl rfl ?_
  refine xV_iload_n 76 rfl dX5_dropMarked_75 rfl 2 rfl ?_
  refine xV_iload_n 77 rfl dX5_dropMarked_76 rfl 3 rfl ?_
  obtain ⟨hg77, hf⟩ := xg_s hf
  refine xV_iastore (h' := (hV c_kept (upd c_many (xn x1) x2) c_turns c_stale c_goes c_row)) (j := (xn x1)) 78 rfl dX5_dropMarked_77 rfl (xin_ok hg77) rfl rfl ?_
  refine xV_iload_n 79 rfl dX5_dropMarked_78 rfl 0 rfl ?_
  obtain ⟨hgr, hf⟩ := xg_s hf
  obtain rfl := Option.some.inj hf
  exact xV_iret hX dX5_dropMarked_79 (xbo_ok hgr) (Nat.zero_le _) (Nat.zero_le _)
def F5_dropMarked_b55 (z : Nat) (x1 : Int32) (x2 : Int32) (c_kept : (Nat → Nat → Int32)) (c_many : (Nat → Int32)) (c_goes : (Nat → Nat → Int32)) : Option (Int32 × (Nat → Nat → Int32) × (Nat → Int32)) :=
  xg (xin x1 2) (if (c_many (xn x1)) ≤ x2 then (F5_dropMarked_b70 z x1 x2 (0 : Int32) c_kept c_many c_goes) else (F5_dropMarked_b70 z x1 x2 (1 : Int32) c_kept c_many c_goes))
theorem T5_dropMarked_b55 {X : xX} {c_turns : Int32} {c_stale : Int32} {c_row : (Nat → Int32)} {x1 : Int32} {x2 : Int32} {c_kept : (Nat → Nat → Int32)} {c_many : (Nat → Int32)} {c_goes : (Nat → Nat → Int32)} {z : Nat} {v : Int32 × (Nat → Nat → Int32) × (Nat → Int32)} (hX : xIs (j5_dropMarked) X ((some .boolean)) (some (.int v.1)) (hV v.2.1 v.2.2 c_turns c_stale c_goes c_row)) (hf : F5_dropMarked_b55 z x1 x2 c_kept c_many c_goes = some v) : xV (j5_dropMarked) X 0 0 (hV c_kept c_many c_turns c_stale c_goes c_row) 55 [(0, .ref 0), (1, .int x1), (2, .int x2)] [] := by
  unfold F5_dropMarked_b55 at hf
  refine xV_iload_n 56 rfl dX5_dropMarked_55 rfl 2 rfl ?_
  refine xV_aload_n 57 rfl dX5_dropMarked_56 rfl 0 rfl ?_
  refine xV_get (v := .ref 4) 60 rfl dX5_dropMarked_57 f5_16 rfl rfl ?_
  refine xV_iload_n 61 rfl dX5_dropMarked_60 rfl 1 rfl ?_
  obtain ⟨hg61, hf⟩ := xg_s hf
  refine xV_iaload 62 rfl dX5_dropMarked_61 rfl (xin_ok hg61) rfl ?_
  refine xV_icmp_ge (tgt := 69) 65 rfl dX5_dropMarked_62 (by decide) (fun h62 => ?_) (fun h62 => ?_)
  · have hf := xif_t hf h62
    refine xV_iconst 70 rfl dX5_dropMarked_69 xy_i0 ?_
    exact T5_dropMarked_b70 hX hf
  · have hf := xif_f hf h62
    refine xV_iconst 66 rfl dX5_dropMarked_65 xy_i1 ?_
    refine xV_goto (tgt := 70) dX5_dropMarked_66 (by decide) ?_
    exact T5_dropMarked_b70 hX hf
def F5_dropMarked_b49 (z : Nat) (x1 : Int32) (x2 : Int32) (x3 : Int32) (c_kept : (Nat → Nat → Int32)) (c_many : (Nat → Int32)) (c_goes : (Nat → Nat → Int32)) (k4 : Int32 → Int32 → Int32 → (Nat → Nat → Int32) → (Nat → Int32) → (Nat → Nat → Int32) → Option (Int32 × (Nat → Nat → Int32) × (Nat → Int32))) : Option (Int32 × (Nat → Nat → Int32) × (Nat → Int32)) :=
  k4 x1 x2 (x3 + (1 : Int32)) c_kept c_many c_goes
theorem T5_dropMarked_b49 {X : xX} {c_turns : Int32} {c_stale : Int32} {c_row : (Nat → Int32)} {x1 : Int32} {x2 : Int32} {x3 : Int32} {c_kept : (Nat → Nat → Int32)} {c_many : (Nat → Int32)} {c_goes : (Nat → Nat → Int32)} {z : Nat} {v : Int32 × (Nat → Nat → Int32) × (Nat → Int32)} {k4 : Int32 → Int32 → Int32 → (Nat → Nat → Int32) → (Nat → Int32) → (Nat → Nat → Int32) → Option (Int32 × (Nat → Nat → Int32) × (Nat → Int32))} (hX : xIs (j5_dropMarked) X ((some .boolean)) (some (.int v.1)) (hV v.2.1 v.2.2 c_turns c_stale c_goes c_row)) (hk4 : ∀ {x1 : Int32} {x2 : Int32} {x3 : Int32} {c_kept : (Nat → Nat → Int32)} {c_many : (Nat → Int32)}, k4 x1 x2 x3 c_kept c_many c_goes = some v → xV (j5_dropMarked) X 0 0 (hV c_kept c_many c_turns c_stale c_goes c_row) 4 [(0, .ref 0), (1, .int x1), (2, .int x2), (3, .int x3)] []) (hf : F5_dropMarked_b49 z x1 x2 x3 c_kept c_many c_goes k4 = some v) : xV (j5_dropMarked) X 0 0 (hV c_kept c_many c_turns c_stale c_goes c_row) 49 [(0, .ref 0), (1, .int x1), (2, .int x2), (3, .int x3)] [] := by
  unfold F5_dropMarked_b49 at hf
  refine xV_iinc (L' := [(3, .int (x3 + (1 : Int32))), (0, .ref 0), (1, .int x1), (2, .int x2)]) 52 rfl dX5_dropMarked_49 3 rfl (xk_inc xy_i1) (xlt rfl) rfl ?_
  refine xV_goto (tgt := 4) dX5_dropMarked_52 (by decide) ?_
  refine xV_sub [1, 2, 3, 0] rfl ?_
  exact hk4 hf
def F5_dropMarked_b4 (z : Nat) (w : Nat) (x1 : Int32) (x2 : Int32) (x3 : Int32) (c_kept : (Nat → Nat → Int32)) (c_many : (Nat → Int32)) (c_goes : (Nat → Nat → Int32)) : Option (Int32 × (Nat → Nat → Int32) × (Nat → Int32)) := match w with
  | 0 => none
  | w + 1 => xg (xin x1 2) (if (c_many (xn x1)) ≤ x3 then (F5_dropMarked_b55 z x1 x2 c_kept c_many c_goes) else (xg (xin x1 2) (xg (xin x3 120) (xg (xin x1 2) (xg (xin ((c_kept (xn x1)) (xn x3)) 120) (if ((c_goes (xn x1)) (xn ((c_kept (xn x1)) (xn x3)))) = 0 then (xg (xin x1 2) (xg (xin x2 120) (F5_dropMarked_b49 z x1 (x2 + (1 : Int32)) x3 (va_up c_kept (xn x1) (upd (c_kept (xn x1)) (xn x2) ((c_kept (xn x1)) (xn x3)))) c_many c_goes (fun q0 q1 q2 q3 q4 q5 => F5_dropMarked_b4 z w q0 q1 q2 q3 q4 q5)))) else (F5_dropMarked_b49 z x1 x2 x3 c_kept c_many c_goes (fun q0 q1 q2 q3 q4 q5 => F5_dropMarked_b4 z w q0 q1 q2 q3 q4 q5))))))))
theorem T5_dropMarked_b4 {X : xX} {c_turns : Int32} {c_stale : Int32} {c_goes : (Nat → Nat → Int32)} {c_row : (Nat → Int32)} {z : Nat} {v : Int32 × (Nat → Nat → Int32) × (Nat → Int32)} (hX : xIs (j5_dropMarked) X ((some .boolean)) (some (.int v.1)) (hV v.2.1 v.2.2 c_turns c_stale c_goes c_row)) : ∀ (w : Nat) {x1 : Int32} {x2 : Int32} {x3 : Int32} {c_kept : (Nat → Nat → Int32)} {c_many : (Nat → Int32)}, F5_dropMarked_b4 z w x1 x2 x3 c_kept c_many c_goes = some v → xV (j5_dropMarked) X 0 0 (hV c_kept c_many c_turns c_stale c_goes c_row) 4 [(0, .ref 0), (1, .int x1), (2, .int x2), (3, .int x3)] [] := by
  intro w
  induction w with
  | zero => intro x1 x2 x3 c_kept c_many hf; cases hf
  | succ w ih =>
    intro x1 x2 x3 c_kept c_many hf
    unfold F5_dropMarked_b4 at hf
    refine xV_iload_n 5 rfl dX5_dropMarked_4 rfl 3 rfl ?_
    refine xV_aload_n 6 rfl dX5_dropMarked_5 rfl 0 rfl ?_
    refine xV_get (v := .ref 4) 9 rfl dX5_dropMarked_6 f5_16 rfl rfl ?_
    refine xV_iload_n 10 rfl dX5_dropMarked_9 rfl 1 rfl ?_
    obtain ⟨hg10, hf⟩ := xg_s hf
    refine xV_iaload 11 rfl dX5_dropMarked_10 rfl (xin_ok hg10) rfl ?_
    refine xV_icmp_ge (tgt := 55) 14 rfl dX5_dropMarked_11 (by decide) (fun h11 => ?_) (fun h11 => ?_)
    · have hf := xif_t hf h11
      refine xV_sub [0, 1, 2] rfl ?_
      exact T5_dropMarked_b55 hX hf
    · have hf := xif_f hf h11
      refine xV_aload_n 15 rfl dX5_dropMarked_14 rfl 0 rfl ?_
      refine xV_get (v := .ref 1) 18 rfl dX5_dropMarked_15 f5_11 rfl rfl ?_
      refine xV_iload_n 19 rfl dX5_dropMarked_18 rfl 1 rfl ?_
      obtain ⟨hg19, hf⟩ := xg_s hf
      refine xV_aaload (b := (2 + (xn x1))) 20 rfl dX5_dropMarked_19 rfl rfl rfl (xin_ok hg19) (by show ([2, 3] : List Nat)[(xn x1)]? = some (2 + (xn x1)); have hi := xin_lt hg19; generalize (xn x1) = i at hi ⊢; match i, hi with | 0, _ => rfl | 1, _ => rfl) ?_
      refine xV_iload_n 21 rfl dX5_dropMarked_20 rfl 3 rfl ?_
      obtain ⟨hg21, hf⟩ := xg_s hf
      refine xV_iaload (f := (c_kept (xn x1))) (z := 120) 22 rfl dX5_dropMarked_21 (by have hi := (xin_lt hg19); generalize (xn x1) = i at hi ⊢; match i, hi with | 0, _ => exact rfl | 1, _ => exact rfl) (xin_ok hg21) rfl ?_
      refine xV_istore (L' := [(4, .int ((c_kept (xn x1)) (xn x3))), (0, .ref 0), (1, .int x1), (2, .int x2), (3, .int x3)]) 24 rfl dX5_dropMarked_22 (xlt rfl) rfl ?_
      refine xV_aload_n 25 rfl dX5_dropMarked_24 rfl 1 rfl ?_
      refine xV_get (v := .ref 5) 28 rfl dX5_dropMarked_25 f5_24 rfl rfl ?_
      refine xV_iload_n 29 rfl dX5_dropMarked_28 rfl 2 rfl ?_
      obtain ⟨hg29, hf⟩ := xg_s hf
      refine xV_aaload (b := (6 + (xn x1))) 30 rfl dX5_dropMarked_29 rfl rfl rfl (xin_ok hg29) (by show ([6, 7] : List Nat)[(xn x1)]? = some (6 + (xn x1)); have hi := xin_lt hg29; generalize (xn x1) = i at hi ⊢; match i, hi with | 0, _ => rfl | 1, _ => rfl) ?_
      refine xV_iload 32 rfl dX5_dropMarked_30 0 rfl ?_
      obtain ⟨hg32, hf⟩ := xg_s hf
      refine xV_iaload (f := (c_goes (xn x1))) (z := 120) 33 rfl dX5_dropMarked_32 (by have hi := (xin_lt hg29); generalize (xn x1) = i at hi ⊢; match i, hi with | 0, _ => exact rfl | 1, _ => exact rfl) (xin_ok hg32) rfl ?_
      refine xV_if_ne (tgt := 49) 36 rfl dX5_dropMarked_33 (by decide) (fun h33 => ?_) (fun h33 => ?_)
      · have hf := xif_f hf h33
        refine xV_sub [1, 2, 3, 4] rfl ?_
        exact T5_dropMarked_b49 hX (fun {_ _ _ _ _} hq => ih hq) hf
      · have hf := xif_t hf h33
        refine xV_aload_n 37 rfl dX5_dropMarked_36 rfl 1 rfl ?_
        refine xV_get (v := .ref 1) 40 rfl dX5_dropMarked_37 f5_11 rfl rfl ?_
        refine xV_iload_n 41 rfl dX5_dropMarked_40 rfl 2 rfl ?_
        obtain ⟨hg41, hf⟩ := xg_s hf
        refine xV_aaload (b := (2 + (xn x1))) 42 rfl dX5_dropMarked_41 rfl rfl rfl (xin_ok hg41) (by show ([2, 3] : List Nat)[(xn x1)]? = some (2 + (xn x1)); have hi := xin_lt hg41; generalize (xn x1) = i at hi ⊢; match i, hi with | 0, _ => rfl | 1, _ => rfl) ?_
        refine xV_iload_n 43 rfl dX5_dropMarked_42 rfl 3 rfl ?_
        refine xV_iload 45 rfl dX5_dropMarked_43 0 rfl ?_
        obtain ⟨hg45, hf⟩ := xg_s hf
        refine xV_iastore (f := (c_kept (xn x1))) (z := 120) (h' := (hV (va_up c_kept (xn x1) (upd (c_kept (xn x1)) (xn x2) ((c_kept (xn x1)) (xn x3)))) c_many c_turns c_stale c_goes c_row)) (j := (xn x2)) 46 rfl dX5_dropMarked_45 (by have hi := (xin_lt hg41); generalize (xn x1) = i at hi ⊢; match i, hi with | 0, _ => exact rfl | 1, _ => exact rfl) (xin_ok hg45) rfl (by have hi := (xin_lt hg41); generalize (xn x1) = i at hi ⊢; match i, hi with | 0, _ => exact rfl | 1, _ => exact rfl) ?_
        refine xV_iinc (L' := [(2, .int (x2 + (1 : Int32))), (4, .int ((c_kept (xn x1)) (xn x3))), (0, .ref 0), (1, .int x1), (3, .int x3)]) 49 rfl dX5_dropMarked_46 3 rfl (xk_inc xy_i1) (xlt rfl) rfl ?_
        refine xV_sub [2, 3, 0, 4] rfl ?_
        exact T5_dropMarked_b49 hX (fun {_ _ _ _ _} hq => ih hq) hf
def F5_dropMarked (z : Nat) (x1 : Int32) (c_kept : (Nat → Nat → Int32)) (c_many : (Nat → Int32)) (c_goes : (Nat → Nat → Int32)) : Option (Int32 × (Nat → Nat → Int32) × (Nat → Int32)) :=
  F5_dropMarked_b4 z z x1 (0 : Int32) (0 : Int32) c_kept c_many c_goes
theorem T5_dropMarked {X : xX} {z : Nat} {x1 : Int32} {c_kept : (Nat → Nat → Int32)} {c_many : (Nat → Int32)} {c_goes : (Nat → Nat → Int32)} {c_turns : Int32} {c_stale : Int32} {c_row : (Nat → Int32)} {v : Int32 × (Nat → Nat → Int32) × (Nat → Int32)} (hX : xIs (j5_dropMarked) X ((some .boolean)) (some (.int v.1)) (hV v.2.1 v.2.2 c_turns c_stale c_goes c_row)) (hf : F5_dropMarked z x1 c_kept c_many c_goes = some v) : xV (j5_dropMarked) X 0 0 (hV c_kept c_many c_turns c_stale c_goes c_row) 0 [(0, .ref 0), (1, .int x1)] [] := by
  unfold F5_dropMarked at hf
  refine xV_iconst 1 rfl dX5_dropMarked_0 xy_i0 ?_
  refine xV_istore_n (L' := [(2, .int (0 : Int32)), (0, .ref 0), (1, .int x1)]) 2 rfl dX5_dropMarked_1 rfl (xlt rfl) rfl ?_
  refine xV_iconst 3 rfl dX5_dropMarked_2 xy_i0 ?_
  refine xV_istore_n (L' := [(3, .int (0 : Int32)), (2, .int (0 : Int32)), (0, .ref 0), (1, .int x1)]) 4 rfl dX5_dropMarked_3 rfl (xlt rfl) rfl ?_
  refine xV_sub [2, 3, 1, 0] rfl ?_
  exact T5_dropMarked_b4 hX _ hf
theorem C5_dropMarked (l : Launch) {z : Nat} {x1 : Int32} {c_kept : (Nat → Nat → Int32)} {c_many : (Nat → Int32)} {c_goes : (Nat → Nat → Int32)} {c_turns : Int32} {c_stale : Int32} {c_row : (Nat → Int32)} {v : Int32 × (Nat → Nat → Int32) × (Nat → Int32)} (hf : F5_dropMarked z x1 c_kept c_many c_goes = some v) : xCt l yX5_dropMarked ((some .boolean)) j5_dropMarked [.ref 0, .int x1] (hV c_kept c_many c_turns c_stale c_goes c_row) (some (.int v.1)) (hV v.2.1 v.2.2 c_turns c_stale c_goes c_row) := xCt_of (by decide) rfl (Nat.le_of_ble_eq_true rfl) (fun _ hX => T5_dropMarked hX hf)
theorem m5_dropMarked : xMd yX5_dropMarked RX5 ((some .boolean)) j5_dropMarked 1 := ⟨List.mem_of_getElem? (i := 749) (by decide +kernel), List.mem_of_getElem? (i := 29) (by decide +kernel), rfl, by decide +kernel⟩
theorem v5_dropMarked : xMv yX5_dropMarked RX5 := ⟨List.mem_of_getElem? (i := 747) (by decide +kernel), List.mem_of_getElem? (i := 748) (by decide +kernel)⟩
theorem xy_s240 : (Int16.ofInt (240)).toInt32 = (240 : Int32) := by decide
theorem f5_20 : xFl RX5 20 5 3 := ⟨_, rfl, by decide, List.mem_of_getElem? (i := 100) (by decide +kernel)⟩
theorem nf5_3 : ∀ q : vw_C, vwCl[5]? = some q → (q.2.1 3).2.2.2 = false := fun q e => by cases e; rfl
theorem f5_30 : xFl RX5 30 5 2 := ⟨_, rfl, by decide, List.mem_of_getElem? (i := 726) (by decide +kernel)⟩
theorem nf5_2 : ∀ q : vw_C, vwCl[5]? = some q → (q.2.1 2).2.2.2 = false := fun q e => by cases e; rfl
theorem k5_34 : Cond.methodLink RX5 34 yX5_keepAll ∈ wsL_law0 := List.mem_of_getElem? (i := 727) (by decide +kernel)
theorem k5_38 : Cond.methodLink RX5 38 yX5_markBeaten ∈ wsL_law0 := List.mem_of_getElem? (i := 732) (by decide +kernel)
theorem k5_41 : Cond.methodLink RX5 41 yX5_dropMarked ∈ wsL_law0 := List.mem_of_getElem? (i := 746) (by decide +kernel)
theorem e_VS_V_L0 {c_kept : (Nat → Nat → Int32)} {c_many : (Nat → Int32)} {c_turns : Int32} {c_stale : Int32} {c_goes : (Nat → Nat → Int32)} {c_row : (Nat → Int32)} {c_s_fields : Int32} {c_s_ties : Int32} {c_s_worth : (Nat → Int32)} {c_s_forces : (Nat → Int32)} {c_s_many : (Nat → Int32)} {c_s_codes : (Nat → Nat → Int32)} {c_s_b_list : (Nat → Nat → Int32)} {c_s_b_many : (Nat → Int32)} {c_s_p_list : (Nat → Nat → Int32)} {c_s_p_weights : (Nat → Nat → Int32)} {c_s_p_drawn : (Nat → Nat → Int32)} {c_s_p_many : (Nat → Int32)} {c_s_p_all : (Nat → Int32)} {c_s_p_turns : (Nat → Int32)} {d_kept : (Nat → Nat → Int32)} {d_many : (Nat → Int32)} {d_turns : Int32} {d_stale : Int32} {d_goes : (Nat → Nat → Int32)} {d_row : (Nat → Int32)} : xEmb (fun j => 0 + j) (hV c_kept c_many c_turns c_stale c_goes c_row) (hV d_kept d_many d_turns d_stale d_goes d_row) (hVS c_kept c_many c_turns c_stale c_goes c_row c_s_fields c_s_ties c_s_worth c_s_forces c_s_many c_s_codes c_s_b_list c_s_b_many c_s_p_list c_s_p_weights c_s_p_drawn c_s_p_many c_s_p_all c_s_p_turns) (hVS d_kept d_many d_turns d_stale d_goes d_row c_s_fields c_s_ties c_s_worth c_s_forces c_s_many c_s_codes c_s_b_list c_s_b_many c_s_p_list c_s_p_weights c_s_p_drawn c_s_p_many c_s_p_all c_s_p_turns) 5 := ⟨by show xNd _ 9 = true; decide +kernel, And.intro hVS_0 (And.intro hVS_1 (And.intro hVS_2 (And.intro hVS_3 (And.intro hVS_4 (And.intro hVS_5 (And.intro hVS_6 (And.intro hVS_7 (And.intro hVS_8 (trivial))))))))), And.intro hVS_0 (And.intro hVS_1 (And.intro hVS_2 (And.intro hVS_3 (And.intro hVS_4 (And.intro hVS_5 (And.intro hVS_6 (And.intro hVS_7 (And.intro hVS_8 (trivial))))))))), ⟨[9, 10, 11, 12, 13, 14, 15, 16, 17, 18, 19, 20, 21, 22, 23, 24, 25, 26, 27, 28, 29], And.intro (xeq3 hVS_9 hVS_9 rfl) (And.intro (xeq3 hVS_10 hVS_10 rfl) (And.intro (xeq3 hVS_11 hVS_11 rfl) (And.intro (xeq3 hVS_12 hVS_12 rfl) (And.intro (xeq3 hVS_13 hVS_13 rfl) (And.intro (xeq3 hVS_14 hVS_14 rfl) (And.intro (xeq3 hVS_15 hVS_15 rfl) (And.intro (xeq3 hVS_16 hVS_16 rfl) (And.intro (xeq3 hVS_17 hVS_17 rfl) (And.intro (xeq3 hVS_18 hVS_18 rfl) (And.intro (xeq3 hVS_19 hVS_19 rfl) (And.intro (xeq3 hVS_20 hVS_20 rfl) (And.intro (xeq3 hVS_21 hVS_21 rfl) (And.intro (xeq3 hVS_22 hVS_22 rfl) (And.intro (xeq3 hVS_23 hVS_23 rfl) (And.intro (xeq3 hVS_24 hVS_24 rfl) (And.intro (xeq3 hVS_25 hVS_25 rfl) (And.intro (xeq3 hVS_26 hVS_26 rfl) (And.intro (xeq3 hVS_27 hVS_27 rfl) (And.intro (xeq3 hVS_28 hVS_28 rfl) (And.intro (xeq3 hVS_29 hVS_29 rfl) (trivial))))))))))))))))))))), by show xCov _ 9 _ 30 = true; decide +kernel⟩, rfl, ⟨_, hVS_0⟩⟩
theorem dX5_settle_0 : decode cX5_settle 0 = .ok (.aload_n 0, 1) := by decide +kernel
theorem dX5_settle_1 : decode cX5_settle 1 = .ok (.getfield 20, 3) := by decide +kernel
theorem dX5_settle_4 : decode cX5_settle 4 = .ok (.ifCond .ne 4, 3) := by decide +kernel
theorem dX5_settle_7 : decode cX5_settle 7 = .ok (.return_, 1) := by decide +kernel
theorem dX5_settle_8 : decode cX5_settle 8 = .ok (.aload_n 0, 1) := by decide +kernel
theorem dX5_settle_9 : decode cX5_settle 9 = .ok (.iconst 0, 1) := by decide +kernel
theorem dX5_settle_10 : decode cX5_settle 10 = .ok (.putfield 20, 3) := by decide +kernel
theorem dX5_settle_13 : decode cX5_settle 13 = .ok (.aload_n 0, 1) := by decide +kernel
theorem dX5_settle_14 : decode cX5_settle 14 = .ok (.iconst 0, 1) := by decide +kernel
theorem dX5_settle_15 : decode cX5_settle 15 = .ok (.putfield 30, 3) := by decide +kernel
theorem dX5_settle_18 : decode cX5_settle 18 = .ok (.aload_n 0, 1) := by decide +kernel
theorem dX5_settle_19 : decode cX5_settle 19 = .ok (.aload_n 1, 1) := by decide +kernel
theorem dX5_settle_20 : decode cX5_settle 20 = .ok (.iconst 0, 1) := by decide +kernel
theorem dX5_settle_21 : decode cX5_settle 21 = .ok (.invokevirtual 34, 3) := by decide +kernel
theorem dX5_settle_24 : decode cX5_settle 24 = .ok (.aload_n 0, 1) := by decide +kernel
theorem dX5_settle_25 : decode cX5_settle 25 = .ok (.aload_n 1, 1) := by decide +kernel
theorem dX5_settle_26 : decode cX5_settle 26 = .ok (.iconst 1, 1) := by decide +kernel
theorem dX5_settle_27 : decode cX5_settle 27 = .ok (.invokevirtual 34, 3) := by decide +kernel
theorem dX5_settle_30 : decode cX5_settle 30 = .ok (.iconst 0, 1) := by decide +kernel
theorem dX5_settle_31 : decode cX5_settle 31 = .ok (.istore_n 2, 1) := by decide +kernel
theorem dX5_settle_32 : decode cX5_settle 32 = .ok (.iload_n 2, 1) := by decide +kernel
theorem dX5_settle_33 : decode cX5_settle 33 = .ok (.sipush 240, 3) := by decide +kernel
theorem dX5_settle_36 : decode cX5_settle 36 = .ok (.if_icmp .ge 60, 3) := by decide +kernel
theorem dX5_settle_39 : decode cX5_settle 39 = .ok (.aload_n 0, 1) := by decide +kernel
theorem dX5_settle_40 : decode cX5_settle 40 = .ok (.aload_n 1, 1) := by decide +kernel
theorem dX5_settle_41 : decode cX5_settle 41 = .ok (.iconst 0, 1) := by decide +kernel
theorem dX5_settle_42 : decode cX5_settle 42 = .ok (.invokevirtual 38, 3) := by decide +kernel
theorem dX5_settle_45 : decode cX5_settle 45 = .ok (.aload_n 0, 1) := by decide +kernel
theorem dX5_settle_46 : decode cX5_settle 46 = .ok (.aload_n 1, 1) := by decide +kernel
theorem dX5_settle_47 : decode cX5_settle 47 = .ok (.iconst 1, 1) := by decide +kernel
theorem dX5_settle_48 : decode cX5_settle 48 = .ok (.invokevirtual 38, 3) := by decide +kernel
theorem dX5_settle_51 : decode cX5_settle 51 = .ok (.aload_n 0, 1) := by decide +kernel
theorem dX5_settle_52 : decode cX5_settle 52 = .ok (.iconst 0, 1) := by decide +kernel
theorem dX5_settle_53 : decode cX5_settle 53 = .ok (.invokevirtual 41, 3) := by decide +kernel
theorem dX5_settle_56 : decode cX5_settle 56 = .ok (.istore_n 3, 1) := by decide +kernel
theorem dX5_settle_57 : decode cX5_settle 57 = .ok (.aload_n 0, 1) := by decide +kernel
theorem dX5_settle_58 : decode cX5_settle 58 = .ok (.iconst 1, 1) := by decide +kernel
theorem dX5_settle_59 : decode cX5_settle 59 = .ok (.invokevirtual 41, 3) := by decide +kernel
theorem dX5_settle_62 : decode cX5_settle 62 = .ok (.ifCond .ne 7, 3) := by decide +kernel
theorem dX5_settle_65 : decode cX5_settle 65 = .ok (.iload_n 3, 1) := by decide +kernel
theorem dX5_settle_66 : decode cX5_settle 66 = .ok (.ifCond .eq 7, 3) := by decide +kernel
theorem dX5_settle_69 : decode cX5_settle 69 = .ok (.iconst 1, 1) := by decide +kernel
theorem dX5_settle_70 : decode cX5_settle 70 = .ok (.goto 4, 3) := by decide +kernel
theorem dX5_settle_73 : decode cX5_settle 73 = .ok (.iconst 0, 1) := by decide +kernel
theorem dX5_settle_74 : decode cX5_settle 74 = .ok (.istore_n 3, 1) := by decide +kernel
theorem dX5_settle_75 : decode cX5_settle 75 = .ok (.iload_n 3, 1) := by decide +kernel
theorem dX5_settle_76 : decode cX5_settle 76 = .ok (.ifCond .ne 4, 3) := by decide +kernel
theorem dX5_settle_79 : decode cX5_settle 79 = .ok (.return_, 1) := by decide +kernel
theorem dX5_settle_80 : decode cX5_settle 80 = .ok (.aload_n 0, 1) := by decide +kernel
theorem dX5_settle_81 : decode cX5_settle 81 = .ok (.dup, 1) := by decide +kernel
theorem dX5_settle_82 : decode cX5_settle 82 = .ok (.getfield 30, 3) := by decide +kernel
theorem dX5_settle_85 : decode cX5_settle 85 = .ok (.iconst 1, 1) := by decide +kernel
theorem dX5_settle_86 : decode cX5_settle 86 = .ok (.iadd, 1) := by decide +kernel
theorem dX5_settle_87 : decode cX5_settle 87 = .ok (.putfield 30, 3) := by decide +kernel
theorem dX5_settle_90 : decode cX5_settle 90 = .ok (.iinc 2 1, 3) := by decide +kernel
theorem dX5_settle_93 : decode cX5_settle 93 = .ok (.goto (-61), 3) := by decide +kernel
theorem dX5_settle_96 : decode cX5_settle 96 = .ok (.return_, 1) := by decide +kernel
abbrev j5_settle : xJ := (cX5_settle, 4, RX5, 6, 0, 0)
def F5_settle_b74 (z : Nat) (x2 : Int32) (s0 : Int32) (c_kept : (Nat → Nat → Int32)) (c_many : (Nat → Int32)) (c_turns : Int32) (c_stale : Int32) (c_goes : (Nat → Nat → Int32)) (c_row : (Nat → Int32)) (c_s_fields : Int32) (c_s_ties : Int32) (c_s_worth : (Nat → Int32)) (c_s_many : (Nat → Int32)) (c_s_codes : (Nat → Nat → Int32)) (k32 : Int32 → (Nat → Nat → Int32) → (Nat → Int32) → Int32 → Int32 → (Nat → Nat → Int32) → (Nat → Int32) → Int32 → Int32 → (Nat → Int32) → (Nat → Int32) → (Nat → Nat → Int32) → Option ((Nat → Nat → Int32) × (Nat → Int32) × Int32 × Int32 × (Nat → Nat → Int32) × (Nat → Int32))) : Option ((Nat → Nat → Int32) × (Nat → Int32) × Int32 × Int32 × (Nat → Nat → Int32) × (Nat → Int32)) :=
  if s0 = 0 then (some (c_kept, c_many, c_turns, c_stale, c_goes, c_row)) else (k32 (x2 + (1 : Int32)) c_kept c_many (c_turns + (1 : Int32)) c_stale c_goes c_row c_s_fields c_s_ties c_s_worth c_s_many c_s_codes)
theorem T5_settle_b74 {X : xX} {c_s_forces : (Nat → Int32)} {c_s_b_list : (Nat → Nat → Int32)} {c_s_b_many : (Nat → Int32)} {c_s_p_list : (Nat → Nat → Int32)} {c_s_p_weights : (Nat → Nat → Int32)} {c_s_p_drawn : (Nat → Nat → Int32)} {c_s_p_many : (Nat → Int32)} {c_s_p_all : (Nat → Int32)} {c_s_p_turns : (Nat → Int32)} {x2 : Int32} {s0 : Int32} {c_kept : (Nat → Nat → Int32)} {c_many : (Nat → Int32)} {c_turns : Int32} {c_stale : Int32} {c_goes : (Nat → Nat → Int32)} {c_row : (Nat → Int32)} {c_s_fields : Int32} {c_s_ties : Int32} {c_s_worth : (Nat → Int32)} {c_s_many : (Nat → Int32)} {c_s_codes : (Nat → Nat → Int32)} {z : Nat} {v : (Nat → Nat → Int32) × (Nat → Int32) × Int32 × Int32 × (Nat → Nat → Int32) × (Nat → Int32)} {k32 : Int32 → (Nat → Nat → Int32) → (Nat → Int32) → Int32 → Int32 → (Nat → Nat → Int32) → (Nat → Int32) → Int32 → Int32 → (Nat → Int32) → (Nat → Int32) → (Nat → Nat → Int32) → Option ((Nat → Nat → Int32) × (Nat → Int32) × Int32 × Int32 × (Nat → Nat → Int32) × (Nat → Int32))} (hX : xIs (j5_settle) X none none (hVS v.1 v.2.1 v.2.2.1 v.2.2.2.1 v.2.2.2.2.1 v.2.2.2.2.2 c_s_fields c_s_ties c_s_worth c_s_forces c_s_many c_s_codes c_s_b_list c_s_b_many c_s_p_list c_s_p_weights c_s_p_drawn c_s_p_many c_s_p_all c_s_p_turns)) (hk32 : ∀ {x2 : Int32} {c_kept : (Nat → Nat → Int32)} {c_many : (Nat → Int32)} {c_turns : Int32} {c_stale : Int32} {c_goes : (Nat → Nat → Int32)} {c_row : (Nat → Int32)}, k32 x2 c_kept c_many c_turns c_stale c_goes c_row c_s_fields c_s_ties c_s_worth c_s_many c_s_codes = some v → xV (j5_settle) X 0 0 (hVS c_kept c_many c_turns c_stale c_goes c_row c_s_fields c_s_ties c_s_worth c_s_forces c_s_many c_s_codes c_s_b_list c_s_b_many c_s_p_list c_s_p_weights c_s_p_drawn c_s_p_many c_s_p_all c_s_p_turns) 32 [(0, .ref 0), (1, .ref 9), (2, .int x2)] []) (hf : F5_settle_b74 z x2 s0 c_kept c_many c_turns c_stale c_goes c_row c_s_fields c_s_ties c_s_worth c_s_many c_s_codes k32 = some v) : xV (j5_settle) X 0 0 (hVS c_kept c_many c_turns c_stale c_goes c_row c_s_fields c_s_ties c_s_worth c_s_forces c_s_many c_s_codes c_s_b_list c_s_b_many c_s_p_list c_s_p_weights c_s_p_drawn c_s_p_many c_s_p_all c_s_p_turns) 74 [(0, .ref 0), (1, .ref 9), (2, .int x2)] [.int s0] := by
  unfold F5_settle_b74 at hf
  refine xV_istore_n (L' := [(3, .int s0), (0, .ref 0), (1, .ref 9), (2, .int x2)]) 75 rfl dX5_settle_74 rfl (xlt rfl) rfl ?_
  refine xV_iload_n 76 rfl dX5_settle_75 rfl 0 rfl ?_
  refine xV_if_ne (tgt := 80) 79 rfl dX5_settle_76 (by decide) (fun h76 => ?_) (fun h76 => ?_)
  · have hf := xif_f hf h76
    refine xV_aload_n 81 rfl dX5_settle_80 rfl 1 rfl ?_
    refine xV_dup 82 rfl dX5_settle_81 rfl ?_
    refine xV_get (v := .int c_turns) 85 rfl dX5_settle_82 f5_30 rfl rfl ?_
    refine xV_iconst 86 rfl dX5_settle_85 xy_i1 ?_
    refine xV_iadd 87 rfl dX5_settle_86 ?_
    refine xV_put (h' := (hVS c_kept c_many (c_turns + (1 : Int32)) c_stale c_goes c_row c_s_fields c_s_ties c_s_worth c_s_forces c_s_many c_s_codes c_s_b_list c_s_b_many c_s_p_list c_s_p_weights c_s_p_drawn c_s_p_many c_s_p_all c_s_p_turns)) 90 rfl dX5_settle_87 f5_30 rfl nf5_2 (fun _ => rfl) (fun _ => rfl) (Nat.le_of_ble_eq_true rfl) rfl ?_
    refine xV_iinc (L' := [(2, .int (x2 + (1 : Int32))), (3, .int s0), (0, .ref 0), (1, .ref 9)]) 93 rfl dX5_settle_90 3 rfl (xk_inc xy_i1) (xlt rfl) rfl ?_
    refine xV_goto (tgt := 32) dX5_settle_93 (by decide) ?_
    refine xV_sub [2, 3, 0] rfl ?_
    exact hk32 hf
  · have hf := xif_t hf h76
    obtain rfl := Option.some.inj hf
    exact xV_vret hX dX5_settle_79 (Nat.zero_le _) (Nat.zero_le _)
def F5_settle_b32 (z : Nat) (w : Nat) (x2 : Int32) (c_kept : (Nat → Nat → Int32)) (c_many : (Nat → Int32)) (c_turns : Int32) (c_stale : Int32) (c_goes : (Nat → Nat → Int32)) (c_row : (Nat → Int32)) (c_s_fields : Int32) (c_s_ties : Int32) (c_s_worth : (Nat → Int32)) (c_s_many : (Nat → Int32)) (c_s_codes : (Nat → Nat → Int32)) : Option ((Nat → Nat → Int32) × (Nat → Int32) × Int32 × Int32 × (Nat → Nat → Int32) × (Nat → Int32)) := match w with
  | 0 => none
  | w + 1 => if (240 : Int32) ≤ x2 then (some (c_kept, c_many, c_turns, c_stale, c_goes, c_row)) else ((F5_markBeaten z (0 : Int32) c_kept c_many c_goes c_row c_s_fields c_s_ties c_s_worth c_s_many c_s_codes).bind (fun v42 => (F5_markBeaten z (1 : Int32) c_kept c_many v42.1 v42.2 c_s_fields c_s_ties c_s_worth c_s_many c_s_codes).bind (fun v48 => (F5_dropMarked z (0 : Int32) c_kept c_many v48.1).bind (fun v53 => (F5_dropMarked z (1 : Int32) v53.2.1 v53.2.2 v48.1).bind (fun v59 => if v59.1 = 0 then (if v53.1 = 0 then (F5_settle_b74 z x2 (0 : Int32) v59.2.1 v59.2.2 c_turns c_stale v48.1 v48.2 c_s_fields c_s_ties c_s_worth c_s_many c_s_codes (fun q0 q1 q2 q3 q4 q5 q6 q7 q8 q9 q10 q11 => F5_settle_b32 z w q0 q1 q2 q3 q4 q5 q6 q7 q8 q9 q10 q11)) else (F5_settle_b74 z x2 (1 : Int32) v59.2.1 v59.2.2 c_turns c_stale v48.1 v48.2 c_s_fields c_s_ties c_s_worth c_s_many c_s_codes (fun q0 q1 q2 q3 q4 q5 q6 q7 q8 q9 q10 q11 => F5_settle_b32 z w q0 q1 q2 q3 q4 q5 q6 q7 q8 q9 q10 q11))) else (F5_settle_b74 z x2 (1 : Int32) v59.2.1 v59.2.2 c_turns c_stale v48.1 v48.2 c_s_fields c_s_ties c_s_worth c_s_many c_s_codes (fun q0 q1 q2 q3 q4 q5 q6 q7 q8 q9 q10 q11 => F5_settle_b32 z w q0 q1 q2 q3 q4 q5 q6 q7 q8 q9 q10 q11)))))))
theorem T5_settle_b32 {X : xX} {c_s_fields : Int32} {c_s_ties : Int32} {c_s_worth : (Nat → Int32)} {c_s_forces : (Nat → Int32)} {c_s_many : (Nat → Int32)} {c_s_codes : (Nat → Nat → Int32)} {c_s_b_list : (Nat → Nat → Int32)} {c_s_b_many : (Nat → Int32)} {c_s_p_list : (Nat → Nat → Int32)} {c_s_p_weights : (Nat → Nat → Int32)} {c_s_p_drawn : (Nat → Nat → Int32)} {c_s_p_many : (Nat → Int32)} {c_s_p_all : (Nat → Int32)} {c_s_p_turns : (Nat → Int32)} {z : Nat} {v : (Nat → Nat → Int32) × (Nat → Int32) × Int32 × Int32 × (Nat → Nat → Int32) × (Nat → Int32)} (hX : xIs (j5_settle) X none none (hVS v.1 v.2.1 v.2.2.1 v.2.2.2.1 v.2.2.2.2.1 v.2.2.2.2.2 c_s_fields c_s_ties c_s_worth c_s_forces c_s_many c_s_codes c_s_b_list c_s_b_many c_s_p_list c_s_p_weights c_s_p_drawn c_s_p_many c_s_p_all c_s_p_turns)) : ∀ (w : Nat) {x2 : Int32} {c_kept : (Nat → Nat → Int32)} {c_many : (Nat → Int32)} {c_turns : Int32} {c_stale : Int32} {c_goes : (Nat → Nat → Int32)} {c_row : (Nat → Int32)}, F5_settle_b32 z w x2 c_kept c_many c_turns c_stale c_goes c_row c_s_fields c_s_ties c_s_worth c_s_many c_s_codes = some v → xV (j5_settle) X 0 0 (hVS c_kept c_many c_turns c_stale c_goes c_row c_s_fields c_s_ties c_s_worth c_s_forces c_s_many c_s_codes c_s_b_list c_s_b_many c_s_p_list c_s_p_weights c_s_p_drawn c_s_p_many c_s_p_all c_s_p_turns) 32 [(0, .ref 0), (1, .ref 9), (2, .int x2)] [] := by
  intro w
  induction w with
  | zero => intro x2 c_kept c_many c_turns c_stale c_goes c_row hf; cases hf
  | succ w ih =>
    intro x2 c_kept c_many c_turns c_stale c_goes c_row hf
    unfold F5_settle_b32 at hf
    refine xV_iload_n 33 rfl dX5_settle_32 rfl 2 rfl ?_
    refine xV_sipush 36 rfl dX5_settle_33 xy_s240 ?_
    refine xV_icmp_ge (tgt := 96) 39 rfl dX5_settle_36 (by decide) (fun h36 => ?_) (fun h36 => ?_)
    · have hf := xif_t hf h36
      obtain rfl := Option.some.inj hf
      exact xV_vret hX dX5_settle_96 (Nat.zero_le _) (Nat.zero_le _)
    · have hf := xif_f hf h36
      refine xV_aload_n 40 rfl dX5_settle_39 rfl 0 rfl ?_
      refine xV_aload_n 41 rfl dX5_settle_40 rfl 1 rfl ?_
      refine xV_iconst 42 rfl dX5_settle_41 xy_i0 ?_
      obtain ⟨v42, hv42, hf⟩ := xb_s hf
      refine xV_same (rest := []) 45 rfl dX5_settle_42 rfl (C5_markBeaten X.1.2.1 hv42) m5_markBeaten v5_markBeaten k5_38 rfl rfl rfl rfl rfl (Nat.le_of_ble_eq_true rfl) (Nat.le_of_ble_eq_true rfl) (Nat.le_of_ble_eq_true rfl) ⟨Nat.le_refl _, Nat.le_refl _⟩ ?_
      show xV (j5_settle) X 0 0 (hVS c_kept c_many c_turns c_stale v42.1 v42.2 c_s_fields c_s_ties c_s_worth c_s_forces c_s_many c_s_codes c_s_b_list c_s_b_many c_s_p_list c_s_p_weights c_s_p_drawn c_s_p_many c_s_p_all c_s_p_turns) 45 [(0, .ref 0), (1, .ref 9), (2, .int x2)] []
      refine xV_aload_n 46 rfl dX5_settle_45 rfl 0 rfl ?_
      refine xV_aload_n 47 rfl dX5_settle_46 rfl 1 rfl ?_
      refine xV_iconst 48 rfl dX5_settle_47 xy_i1 ?_
      obtain ⟨v48, hv48, hf⟩ := xb_s hf
      refine xV_same (rest := []) 51 rfl dX5_settle_48 rfl (C5_markBeaten X.1.2.1 hv48) m5_markBeaten v5_markBeaten k5_38 rfl rfl rfl rfl rfl (Nat.le_of_ble_eq_true rfl) (Nat.le_of_ble_eq_true rfl) (Nat.le_of_ble_eq_true rfl) ⟨Nat.le_refl _, Nat.le_refl _⟩ ?_
      show xV (j5_settle) X 0 0 (hVS c_kept c_many c_turns c_stale v48.1 v48.2 c_s_fields c_s_ties c_s_worth c_s_forces c_s_many c_s_codes c_s_b_list c_s_b_many c_s_p_list c_s_p_weights c_s_p_drawn c_s_p_many c_s_p_all c_s_p_turns) 51 [(0, .ref 0), (1, .ref 9), (2, .int x2)] []
      refine xV_aload_n 52 rfl dX5_settle_51 rfl 0 rfl ?_
      refine xV_iconst 53 rfl dX5_settle_52 xy_i0 ?_
      obtain ⟨v53, hv53, hf⟩ := xb_s hf
      refine xV_vir2 (g := (fun j => 0 + j)) (hl := (hV c_kept c_many c_turns c_stale v48.1 v48.2)) (hl' := (hV v53.2.1 v53.2.2 c_turns c_stale v48.1 v48.2)) (h' := (hVS v53.2.1 v53.2.2 c_turns c_stale v48.1 v48.2 c_s_fields c_s_ties c_s_worth c_s_forces c_s_many c_s_codes c_s_b_list c_s_b_many c_s_p_list c_s_p_weights c_s_p_drawn c_s_p_many c_s_p_all c_s_p_turns)) (rest := []) (ci := 5) 56 rfl dX5_settle_53 rfl (C5_dropMarked X.1.2.1 hv53) m5_dropMarked v5_dropMarked k5_41 rfl rfl rfl (e_VS_V_L0) rfl (Nat.le_of_ble_eq_true rfl) (Nat.le_of_ble_eq_true rfl) (Nat.le_of_ble_eq_true rfl) ⟨Nat.le_refl _, Nat.le_refl _⟩ ?_
      show xV (j5_settle) X 0 0 (hVS v53.2.1 v53.2.2 c_turns c_stale v48.1 v48.2 c_s_fields c_s_ties c_s_worth c_s_forces c_s_many c_s_codes c_s_b_list c_s_b_many c_s_p_list c_s_p_weights c_s_p_drawn c_s_p_many c_s_p_all c_s_p_turns) 56 [(0, .ref 0), (1, .ref 9), (2, .int x2)] [.int v53.1]
      refine xV_istore_n (L' := [(3, .int v53.1), (0, .ref 0), (1, .ref 9), (2, .int x2)]) 57 rfl dX5_settle_56 rfl (xlt rfl) rfl ?_
      refine xV_aload_n 58 rfl dX5_settle_57 rfl 1 rfl ?_
      refine xV_iconst 59 rfl dX5_settle_58 xy_i1 ?_
      obtain ⟨v59, hv59, hf⟩ := xb_s hf
      refine xV_vir2 (g := (fun j => 0 + j)) (hl := (hV v53.2.1 v53.2.2 c_turns c_stale v48.1 v48.2)) (hl' := (hV v59.2.1 v59.2.2 c_turns c_stale v48.1 v48.2)) (h' := (hVS v59.2.1 v59.2.2 c_turns c_stale v48.1 v48.2 c_s_fields c_s_ties c_s_worth c_s_forces c_s_many c_s_codes c_s_b_list c_s_b_many c_s_p_list c_s_p_weights c_s_p_drawn c_s_p_many c_s_p_all c_s_p_turns)) (rest := []) (ci := 5) 62 rfl dX5_settle_59 rfl (C5_dropMarked X.1.2.1 hv59) m5_dropMarked v5_dropMarked k5_41 rfl rfl rfl (e_VS_V_L0) rfl (Nat.le_of_ble_eq_true rfl) (Nat.le_of_ble_eq_true rfl) (Nat.le_of_ble_eq_true rfl) ⟨Nat.le_refl _, Nat.le_refl _⟩ ?_
      show xV (j5_settle) X 0 0 (hVS v59.2.1 v59.2.2 c_turns c_stale v48.1 v48.2 c_s_fields c_s_ties c_s_worth c_s_forces c_s_many c_s_codes c_s_b_list c_s_b_many c_s_p_list c_s_p_weights c_s_p_drawn c_s_p_many c_s_p_all c_s_p_turns) 62 [(3, .int v53.1), (0, .ref 0), (1, .ref 9), (2, .int x2)] [.int v59.1]
      refine xV_if_ne (tgt := 69) 65 rfl dX5_settle_62 (by decide) (fun h62 => ?_) (fun h62 => ?_)
      · have hf := xif_f hf h62
        refine xV_iconst 70 rfl dX5_settle_69 xy_i1 ?_
        refine xV_goto (tgt := 74) dX5_settle_70 (by decide) ?_
        refine xV_sub [1, 2, 3] rfl ?_
        exact T5_settle_b74 hX (fun {_ _ _ _ _ _ _} hq => ih hq) hf
      · have hf := xif_t hf h62
        refine xV_iload_n 66 rfl dX5_settle_65 rfl 0 rfl ?_
        refine xV_if_eq (tgt := 73) 69 rfl dX5_settle_66 (by decide) (fun h66 => ?_) (fun h66 => ?_)
        · have hf := xif_t hf h66
          refine xV_iconst 74 rfl dX5_settle_73 xy_i0 ?_
          refine xV_sub [1, 2, 3] rfl ?_
          exact T5_settle_b74 hX (fun {_ _ _ _ _ _ _} hq => ih hq) hf
        · have hf := xif_f hf h66
          refine xV_iconst 70 rfl dX5_settle_69 xy_i1 ?_
          refine xV_goto (tgt := 74) dX5_settle_70 (by decide) ?_
          refine xV_sub [1, 2, 3] rfl ?_
          exact T5_settle_b74 hX (fun {_ _ _ _ _ _ _} hq => ih hq) hf
def F5_settle (z : Nat) (c_kept : (Nat → Nat → Int32)) (c_many : (Nat → Int32)) (c_turns : Int32) (c_stale : Int32) (c_goes : (Nat → Nat → Int32)) (c_row : (Nat → Int32)) (c_s_fields : Int32) (c_s_ties : Int32) (c_s_worth : (Nat → Int32)) (c_s_many : (Nat → Int32)) (c_s_codes : (Nat → Nat → Int32)) : Option ((Nat → Nat → Int32) × (Nat → Int32) × Int32 × Int32 × (Nat → Nat → Int32) × (Nat → Int32)) :=
  if c_stale = 0 then (some (c_kept, c_many, c_turns, c_stale, c_goes, c_row)) else ((F5_keepAll z (0 : Int32) c_kept c_many c_s_many).bind (fun v21 => (F5_keepAll z (1 : Int32) v21.1 v21.2 c_s_many).bind (fun v27 => F5_settle_b32 z z (0 : Int32) v27.1 v27.2 (0 : Int32) (0 : Int32) c_goes c_row c_s_fields c_s_ties c_s_worth c_s_many c_s_codes)))
theorem T5_settle {X : xX} {z : Nat} {c_kept : (Nat → Nat → Int32)} {c_many : (Nat → Int32)} {c_turns : Int32} {c_stale : Int32} {c_goes : (Nat → Nat → Int32)} {c_row : (Nat → Int32)} {c_s_fields : Int32} {c_s_ties : Int32} {c_s_worth : (Nat → Int32)} {c_s_many : (Nat → Int32)} {c_s_codes : (Nat → Nat → Int32)} {c_s_forces : (Nat → Int32)} {c_s_b_list : (Nat → Nat → Int32)} {c_s_b_many : (Nat → Int32)} {c_s_p_list : (Nat → Nat → Int32)} {c_s_p_weights : (Nat → Nat → Int32)} {c_s_p_drawn : (Nat → Nat → Int32)} {c_s_p_many : (Nat → Int32)} {c_s_p_all : (Nat → Int32)} {c_s_p_turns : (Nat → Int32)} {v : (Nat → Nat → Int32) × (Nat → Int32) × Int32 × Int32 × (Nat → Nat → Int32) × (Nat → Int32)} (hX : xIs (j5_settle) X none none (hVS v.1 v.2.1 v.2.2.1 v.2.2.2.1 v.2.2.2.2.1 v.2.2.2.2.2 c_s_fields c_s_ties c_s_worth c_s_forces c_s_many c_s_codes c_s_b_list c_s_b_many c_s_p_list c_s_p_weights c_s_p_drawn c_s_p_many c_s_p_all c_s_p_turns)) (hf : F5_settle z c_kept c_many c_turns c_stale c_goes c_row c_s_fields c_s_ties c_s_worth c_s_many c_s_codes = some v) : xV (j5_settle) X 0 0 (hVS c_kept c_many c_turns c_stale c_goes c_row c_s_fields c_s_ties c_s_worth c_s_forces c_s_many c_s_codes c_s_b_list c_s_b_many c_s_p_list c_s_p_weights c_s_p_drawn c_s_p_many c_s_p_all c_s_p_turns) 0 [(0, .ref 0), (1, .ref 9)] [] := by
  unfold F5_settle at hf
  refine xV_aload_n 1 rfl dX5_settle_0 rfl 0 rfl ?_
  refine xV_get (v := .int c_stale) 4 rfl dX5_settle_1 f5_20 rfl rfl ?_
  refine xV_if_ne (tgt := 8) 7 rfl dX5_settle_4 (by decide) (fun h4 => ?_) (fun h4 => ?_)
  · have hf := xif_f hf h4
    refine xV_aload_n 9 rfl dX5_settle_8 rfl 0 rfl ?_
    refine xV_iconst 10 rfl dX5_settle_9 xy_i0 ?_
    refine xV_put (h' := (hVS c_kept c_many c_turns (0 : Int32) c_goes c_row c_s_fields c_s_ties c_s_worth c_s_forces c_s_many c_s_codes c_s_b_list c_s_b_many c_s_p_list c_s_p_weights c_s_p_drawn c_s_p_many c_s_p_all c_s_p_turns)) 13 rfl dX5_settle_10 f5_20 rfl nf5_3 (fun _ => rfl) (fun _ => rfl) (Nat.le_of_ble_eq_true rfl) rfl ?_
    refine xV_aload_n 14 rfl dX5_settle_13 rfl 0 rfl ?_
    refine xV_iconst 15 rfl dX5_settle_14 xy_i0 ?_
    refine xV_put (h' := (hVS c_kept c_many (0 : Int32) (0 : Int32) c_goes c_row c_s_fields c_s_ties c_s_worth c_s_forces c_s_many c_s_codes c_s_b_list c_s_b_many c_s_p_list c_s_p_weights c_s_p_drawn c_s_p_many c_s_p_all c_s_p_turns)) 18 rfl dX5_settle_15 f5_30 rfl nf5_2 (fun _ => rfl) (fun _ => rfl) (Nat.le_of_ble_eq_true rfl) rfl ?_
    refine xV_aload_n 19 rfl dX5_settle_18 rfl 0 rfl ?_
    refine xV_aload_n 20 rfl dX5_settle_19 rfl 1 rfl ?_
    refine xV_iconst 21 rfl dX5_settle_20 xy_i0 ?_
    obtain ⟨v21, hv21, hf⟩ := xb_s hf
    refine xV_same (rest := []) 24 rfl dX5_settle_21 rfl (C5_keepAll X.1.2.1 hv21) m5_keepAll v5_keepAll k5_34 rfl rfl rfl rfl rfl (Nat.le_of_ble_eq_true rfl) (Nat.le_of_ble_eq_true rfl) (Nat.le_of_ble_eq_true rfl) ⟨Nat.le_refl _, Nat.le_refl _⟩ ?_
    show xV (j5_settle) X 0 0 (hVS v21.1 v21.2 (0 : Int32) (0 : Int32) c_goes c_row c_s_fields c_s_ties c_s_worth c_s_forces c_s_many c_s_codes c_s_b_list c_s_b_many c_s_p_list c_s_p_weights c_s_p_drawn c_s_p_many c_s_p_all c_s_p_turns) 24 [(0, .ref 0), (1, .ref 9)] []
    refine xV_aload_n 25 rfl dX5_settle_24 rfl 0 rfl ?_
    refine xV_aload_n 26 rfl dX5_settle_25 rfl 1 rfl ?_
    refine xV_iconst 27 rfl dX5_settle_26 xy_i1 ?_
    obtain ⟨v27, hv27, hf⟩ := xb_s hf
    refine xV_same (rest := []) 30 rfl dX5_settle_27 rfl (C5_keepAll X.1.2.1 hv27) m5_keepAll v5_keepAll k5_34 rfl rfl rfl rfl rfl (Nat.le_of_ble_eq_true rfl) (Nat.le_of_ble_eq_true rfl) (Nat.le_of_ble_eq_true rfl) ⟨Nat.le_refl _, Nat.le_refl _⟩ ?_
    show xV (j5_settle) X 0 0 (hVS v27.1 v27.2 (0 : Int32) (0 : Int32) c_goes c_row c_s_fields c_s_ties c_s_worth c_s_forces c_s_many c_s_codes c_s_b_list c_s_b_many c_s_p_list c_s_p_weights c_s_p_drawn c_s_p_many c_s_p_all c_s_p_turns) 30 [(0, .ref 0), (1, .ref 9)] []
    refine xV_iconst 31 rfl dX5_settle_30 xy_i0 ?_
    refine xV_istore_n (L' := [(2, .int (0 : Int32)), (0, .ref 0), (1, .ref 9)]) 32 rfl dX5_settle_31 rfl (xlt rfl) rfl ?_
    refine xV_sub [1, 2, 0] rfl ?_
    exact T5_settle_b32 hX _ hf
  · have hf := xif_t hf h4
    obtain rfl := Option.some.inj hf
    exact xV_vret hX dX5_settle_7 (Nat.zero_le _) (Nat.zero_le _)
theorem C5_settle (l : Launch) {z : Nat} {c_kept : (Nat → Nat → Int32)} {c_many : (Nat → Int32)} {c_turns : Int32} {c_stale : Int32} {c_goes : (Nat → Nat → Int32)} {c_row : (Nat → Int32)} {c_s_fields : Int32} {c_s_ties : Int32} {c_s_worth : (Nat → Int32)} {c_s_many : (Nat → Int32)} {c_s_codes : (Nat → Nat → Int32)} {c_s_forces : (Nat → Int32)} {c_s_b_list : (Nat → Nat → Int32)} {c_s_b_many : (Nat → Int32)} {c_s_p_list : (Nat → Nat → Int32)} {c_s_p_weights : (Nat → Nat → Int32)} {c_s_p_drawn : (Nat → Nat → Int32)} {c_s_p_many : (Nat → Int32)} {c_s_p_all : (Nat → Int32)} {c_s_p_turns : (Nat → Int32)} {v : (Nat → Nat → Int32) × (Nat → Int32) × Int32 × Int32 × (Nat → Nat → Int32) × (Nat → Int32)} (hf : F5_settle z c_kept c_many c_turns c_stale c_goes c_row c_s_fields c_s_ties c_s_worth c_s_many c_s_codes = some v) : xCt l yX5_settle none j5_settle [.ref 0, .ref 9] (hVS c_kept c_many c_turns c_stale c_goes c_row c_s_fields c_s_ties c_s_worth c_s_forces c_s_many c_s_codes c_s_b_list c_s_b_many c_s_p_list c_s_p_weights c_s_p_drawn c_s_p_many c_s_p_all c_s_p_turns) none (hVS v.1 v.2.1 v.2.2.1 v.2.2.2.1 v.2.2.2.2.1 v.2.2.2.2.2 c_s_fields c_s_ties c_s_worth c_s_forces c_s_many c_s_codes c_s_b_list c_s_b_many c_s_p_list c_s_p_weights c_s_p_drawn c_s_p_many c_s_p_all c_s_p_turns) := xCt_of (by decide) rfl (Nat.le_of_ble_eq_true rfl) (fun _ hX => T5_settle hX hf)
theorem m5_settle : xMd yX5_settle RX5 none j5_settle 1 := ⟨List.mem_of_getElem? (i := 725) (by decide +kernel), List.mem_of_getElem? (i := 29) (by decide +kernel), rfl, by decide +kernel⟩
theorem v5_settle : xMv yX5_settle RX5 := ⟨List.mem_of_getElem? (i := 723) (by decide +kernel), List.mem_of_getElem? (i := 724) (by decide +kernel)⟩
