theorem hGS_0 {c_picks : (Nat → Nat → Int32)} {c_many : (Nat → Int32)} {c_table : (Nat → Nat → Int64)} {c_rowNames : (Nat → Int32)} {c_columnNames : (Nat → Int32)} {c_rows : Int32} {c_columns : Int32} {c_scale : Int64} {c_s_fields : Int32} {c_s_ties : Int32} {c_s_worth : (Nat → Int32)} {c_s_forces : (Nat → Int32)} {c_s_many : (Nat → Int32)} {c_s_codes : (Nat → Nat → Int32)} {c_s_b_list : (Nat → Nat → Int32)} {c_s_b_many : (Nat → Int32)} {c_s_p_list : (Nat → Nat → Int32)} {c_s_p_weights : (Nat → Nat → Int32)} {c_s_p_drawn : (Nat → Nat → Int32)} {c_s_p_many : (Nat → Int32)} {c_s_p_all : (Nat → Int32)} {c_s_p_turns : (Nat → Int32)} : (hGS c_picks c_many c_table c_rowNames c_columnNames c_rows c_columns c_scale c_s_fields c_s_ties c_s_worth c_s_forces c_s_many c_s_codes c_s_b_list c_s_b_many c_s_p_list c_s_p_weights c_s_p_drawn c_s_p_many c_s_p_all c_s_p_turns)[0]? = some (.inr (1, [.ref 1, .ref 4, .ref 5, .ref 13, .ref 14, .int c_rows, .int c_columns, .long c_scale])) := rfl
theorem hGS_1 {c_picks : (Nat → Nat → Int32)} {c_many : (Nat → Int32)} {c_table : (Nat → Nat → Int64)} {c_rowNames : (Nat → Int32)} {c_columnNames : (Nat → Int32)} {c_rows : Int32} {c_columns : Int32} {c_scale : Int64} {c_s_fields : Int32} {c_s_ties : Int32} {c_s_worth : (Nat → Int32)} {c_s_forces : (Nat → Int32)} {c_s_many : (Nat → Int32)} {c_s_codes : (Nat → Nat → Int32)} {c_s_b_list : (Nat → Nat → Int32)} {c_s_b_many : (Nat → Int32)} {c_s_p_list : (Nat → Nat → Int32)} {c_s_p_weights : (Nat → Nat → Int32)} {c_s_p_drawn : (Nat → Nat → Int32)} {c_s_p_many : (Nat → Int32)} {c_s_p_all : (Nat → Int32)} {c_s_p_turns : (Nat → Int32)} : (hGS c_picks c_many c_table c_rowNames c_columnNames c_rows c_columns c_scale c_s_fields c_s_ties c_s_worth c_s_forces c_s_many c_s_codes c_s_b_list c_s_b_many c_s_p_list c_s_p_weights c_s_p_drawn c_s_p_many c_s_p_all c_s_p_turns)[1]? = some (.inl (7, 2, .inr (.inr [2, 3]))) := rfl
theorem hGS_2 {c_picks : (Nat → Nat → Int32)} {c_many : (Nat → Int32)} {c_table : (Nat → Nat → Int64)} {c_rowNames : (Nat → Int32)} {c_columnNames : (Nat → Int32)} {c_rows : Int32} {c_columns : Int32} {c_scale : Int64} {c_s_fields : Int32} {c_s_ties : Int32} {c_s_worth : (Nat → Int32)} {c_s_forces : (Nat → Int32)} {c_s_many : (Nat → Int32)} {c_s_codes : (Nat → Nat → Int32)} {c_s_b_list : (Nat → Nat → Int32)} {c_s_b_many : (Nat → Int32)} {c_s_p_list : (Nat → Nat → Int32)} {c_s_p_weights : (Nat → Nat → Int32)} {c_s_p_drawn : (Nat → Nat → Int32)} {c_s_p_many : (Nat → Int32)} {c_s_p_all : (Nat → Int32)} {c_s_p_turns : (Nat → Int32)} : (hGS c_picks c_many c_table c_rowNames c_columnNames c_rows c_columns c_scale c_s_fields c_s_ties c_s_worth c_s_forces c_s_many c_s_codes c_s_b_list c_s_b_many c_s_p_list c_s_p_weights c_s_p_drawn c_s_p_many c_s_p_all c_s_p_turns)[2]? = some (.inl (0, 6, .inl (c_picks 0))) := rfl
theorem hGS_3 {c_picks : (Nat → Nat → Int32)} {c_many : (Nat → Int32)} {c_table : (Nat → Nat → Int64)} {c_rowNames : (Nat → Int32)} {c_columnNames : (Nat → Int32)} {c_rows : Int32} {c_columns : Int32} {c_scale : Int64} {c_s_fields : Int32} {c_s_ties : Int32} {c_s_worth : (Nat → Int32)} {c_s_forces : (Nat → Int32)} {c_s_many : (Nat → Int32)} {c_s_codes : (Nat → Nat → Int32)} {c_s_b_list : (Nat → Nat → Int32)} {c_s_b_many : (Nat → Int32)} {c_s_p_list : (Nat → Nat → Int32)} {c_s_p_weights : (Nat → Nat → Int32)} {c_s_p_drawn : (Nat → Nat → Int32)} {c_s_p_many : (Nat → Int32)} {c_s_p_all : (Nat → Int32)} {c_s_p_turns : (Nat → Int32)} : (hGS c_picks c_many c_table c_rowNames c_columnNames c_rows c_columns c_scale c_s_fields c_s_ties c_s_worth c_s_forces c_s_many c_s_codes c_s_b_list c_s_b_many c_s_p_list c_s_p_weights c_s_p_drawn c_s_p_many c_s_p_all c_s_p_turns)[3]? = some (.inl (0, 6, .inl (c_picks 1))) := rfl
theorem hGS_4 {c_picks : (Nat → Nat → Int32)} {c_many : (Nat → Int32)} {c_table : (Nat → Nat → Int64)} {c_rowNames : (Nat → Int32)} {c_columnNames : (Nat → Int32)} {c_rows : Int32} {c_columns : Int32} {c_scale : Int64} {c_s_fields : Int32} {c_s_ties : Int32} {c_s_worth : (Nat → Int32)} {c_s_forces : (Nat → Int32)} {c_s_many : (Nat → Int32)} {c_s_codes : (Nat → Nat → Int32)} {c_s_b_list : (Nat → Nat → Int32)} {c_s_b_many : (Nat → Int32)} {c_s_p_list : (Nat → Nat → Int32)} {c_s_p_weights : (Nat → Nat → Int32)} {c_s_p_drawn : (Nat → Nat → Int32)} {c_s_p_many : (Nat → Int32)} {c_s_p_all : (Nat → Int32)} {c_s_p_turns : (Nat → Int32)} : (hGS c_picks c_many c_table c_rowNames c_columnNames c_rows c_columns c_scale c_s_fields c_s_ties c_s_worth c_s_forces c_s_many c_s_codes c_s_b_list c_s_b_many c_s_p_list c_s_p_weights c_s_p_drawn c_s_p_many c_s_p_all c_s_p_turns)[4]? = some (.inl (0, 2, .inl c_many)) := rfl
theorem hGS_5 {c_picks : (Nat → Nat → Int32)} {c_many : (Nat → Int32)} {c_table : (Nat → Nat → Int64)} {c_rowNames : (Nat → Int32)} {c_columnNames : (Nat → Int32)} {c_rows : Int32} {c_columns : Int32} {c_scale : Int64} {c_s_fields : Int32} {c_s_ties : Int32} {c_s_worth : (Nat → Int32)} {c_s_forces : (Nat → Int32)} {c_s_many : (Nat → Int32)} {c_s_codes : (Nat → Nat → Int32)} {c_s_b_list : (Nat → Nat → Int32)} {c_s_b_many : (Nat → Int32)} {c_s_p_list : (Nat → Nat → Int32)} {c_s_p_weights : (Nat → Nat → Int32)} {c_s_p_drawn : (Nat → Nat → Int32)} {c_s_p_many : (Nat → Int32)} {c_s_p_all : (Nat → Int32)} {c_s_p_turns : (Nat → Int32)} : (hGS c_picks c_many c_table c_rowNames c_columnNames c_rows c_columns c_scale c_s_fields c_s_ties c_s_worth c_s_forces c_s_many c_s_codes c_s_b_list c_s_b_many c_s_p_list c_s_p_weights c_s_p_drawn c_s_p_many c_s_p_all c_s_p_turns)[5]? = some (.inl (8, 7, .inr (.inr [6, 7, 8, 9, 10, 11, 12]))) := rfl
theorem hGS_6 {c_picks : (Nat → Nat → Int32)} {c_many : (Nat → Int32)} {c_table : (Nat → Nat → Int64)} {c_rowNames : (Nat → Int32)} {c_columnNames : (Nat → Int32)} {c_rows : Int32} {c_columns : Int32} {c_scale : Int64} {c_s_fields : Int32} {c_s_ties : Int32} {c_s_worth : (Nat → Int32)} {c_s_forces : (Nat → Int32)} {c_s_many : (Nat → Int32)} {c_s_codes : (Nat → Nat → Int32)} {c_s_b_list : (Nat → Nat → Int32)} {c_s_b_many : (Nat → Int32)} {c_s_p_list : (Nat → Nat → Int32)} {c_s_p_weights : (Nat → Nat → Int32)} {c_s_p_drawn : (Nat → Nat → Int32)} {c_s_p_many : (Nat → Int32)} {c_s_p_all : (Nat → Int32)} {c_s_p_turns : (Nat → Int32)} : (hGS c_picks c_many c_table c_rowNames c_columnNames c_rows c_columns c_scale c_s_fields c_s_ties c_s_worth c_s_forces c_s_many c_s_codes c_s_b_list c_s_b_many c_s_p_list c_s_p_weights c_s_p_drawn c_s_p_many c_s_p_all c_s_p_turns)[6]? = some (.inl (1, 7, .inr (.inl (c_table 0)))) := rfl
theorem hGS_7 {c_picks : (Nat → Nat → Int32)} {c_many : (Nat → Int32)} {c_table : (Nat → Nat → Int64)} {c_rowNames : (Nat → Int32)} {c_columnNames : (Nat → Int32)} {c_rows : Int32} {c_columns : Int32} {c_scale : Int64} {c_s_fields : Int32} {c_s_ties : Int32} {c_s_worth : (Nat → Int32)} {c_s_forces : (Nat → Int32)} {c_s_many : (Nat → Int32)} {c_s_codes : (Nat → Nat → Int32)} {c_s_b_list : (Nat → Nat → Int32)} {c_s_b_many : (Nat → Int32)} {c_s_p_list : (Nat → Nat → Int32)} {c_s_p_weights : (Nat → Nat → Int32)} {c_s_p_drawn : (Nat → Nat → Int32)} {c_s_p_many : (Nat → Int32)} {c_s_p_all : (Nat → Int32)} {c_s_p_turns : (Nat → Int32)} : (hGS c_picks c_many c_table c_rowNames c_columnNames c_rows c_columns c_scale c_s_fields c_s_ties c_s_worth c_s_forces c_s_many c_s_codes c_s_b_list c_s_b_many c_s_p_list c_s_p_weights c_s_p_drawn c_s_p_many c_s_p_all c_s_p_turns)[7]? = some (.inl (1, 7, .inr (.inl (c_table 1)))) := rfl
theorem hGS_8 {c_picks : (Nat → Nat → Int32)} {c_many : (Nat → Int32)} {c_table : (Nat → Nat → Int64)} {c_rowNames : (Nat → Int32)} {c_columnNames : (Nat → Int32)} {c_rows : Int32} {c_columns : Int32} {c_scale : Int64} {c_s_fields : Int32} {c_s_ties : Int32} {c_s_worth : (Nat → Int32)} {c_s_forces : (Nat → Int32)} {c_s_many : (Nat → Int32)} {c_s_codes : (Nat → Nat → Int32)} {c_s_b_list : (Nat → Nat → Int32)} {c_s_b_many : (Nat → Int32)} {c_s_p_list : (Nat → Nat → Int32)} {c_s_p_weights : (Nat → Nat → Int32)} {c_s_p_drawn : (Nat → Nat → Int32)} {c_s_p_many : (Nat → Int32)} {c_s_p_all : (Nat → Int32)} {c_s_p_turns : (Nat → Int32)} : (hGS c_picks c_many c_table c_rowNames c_columnNames c_rows c_columns c_scale c_s_fields c_s_ties c_s_worth c_s_forces c_s_many c_s_codes c_s_b_list c_s_b_many c_s_p_list c_s_p_weights c_s_p_drawn c_s_p_many c_s_p_all c_s_p_turns)[8]? = some (.inl (1, 7, .inr (.inl (c_table 2)))) := rfl
theorem hGS_9 {c_picks : (Nat → Nat → Int32)} {c_many : (Nat → Int32)} {c_table : (Nat → Nat → Int64)} {c_rowNames : (Nat → Int32)} {c_columnNames : (Nat → Int32)} {c_rows : Int32} {c_columns : Int32} {c_scale : Int64} {c_s_fields : Int32} {c_s_ties : Int32} {c_s_worth : (Nat → Int32)} {c_s_forces : (Nat → Int32)} {c_s_many : (Nat → Int32)} {c_s_codes : (Nat → Nat → Int32)} {c_s_b_list : (Nat → Nat → Int32)} {c_s_b_many : (Nat → Int32)} {c_s_p_list : (Nat → Nat → Int32)} {c_s_p_weights : (Nat → Nat → Int32)} {c_s_p_drawn : (Nat → Nat → Int32)} {c_s_p_many : (Nat → Int32)} {c_s_p_all : (Nat → Int32)} {c_s_p_turns : (Nat → Int32)} : (hGS c_picks c_many c_table c_rowNames c_columnNames c_rows c_columns c_scale c_s_fields c_s_ties c_s_worth c_s_forces c_s_many c_s_codes c_s_b_list c_s_b_many c_s_p_list c_s_p_weights c_s_p_drawn c_s_p_many c_s_p_all c_s_p_turns)[9]? = some (.inl (1, 7, .inr (.inl (c_table 3)))) := rfl
theorem hGS_10 {c_picks : (Nat → Nat → Int32)} {c_many : (Nat → Int32)} {c_table : (Nat → Nat → Int64)} {c_rowNames : (Nat → Int32)} {c_columnNames : (Nat → Int32)} {c_rows : Int32} {c_columns : Int32} {c_scale : Int64} {c_s_fields : Int32} {c_s_ties : Int32} {c_s_worth : (Nat → Int32)} {c_s_forces : (Nat → Int32)} {c_s_many : (Nat → Int32)} {c_s_codes : (Nat → Nat → Int32)} {c_s_b_list : (Nat → Nat → Int32)} {c_s_b_many : (Nat → Int32)} {c_s_p_list : (Nat → Nat → Int32)} {c_s_p_weights : (Nat → Nat → Int32)} {c_s_p_drawn : (Nat → Nat → Int32)} {c_s_p_many : (Nat → Int32)} {c_s_p_all : (Nat → Int32)} {c_s_p_turns : (Nat → Int32)} : (hGS c_picks c_many c_table c_rowNames c_columnNames c_rows c_columns c_scale c_s_fields c_s_ties c_s_worth c_s_forces c_s_many c_s_codes c_s_b_list c_s_b_many c_s_p_list c_s_p_weights c_s_p_drawn c_s_p_many c_s_p_all c_s_p_turns)[10]? = some (.inl (1, 7, .inr (.inl (c_table 4)))) := rfl
theorem hGS_11 {c_picks : (Nat → Nat → Int32)} {c_many : (Nat → Int32)} {c_table : (Nat → Nat → Int64)} {c_rowNames : (Nat → Int32)} {c_columnNames : (Nat → Int32)} {c_rows : Int32} {c_columns : Int32} {c_scale : Int64} {c_s_fields : Int32} {c_s_ties : Int32} {c_s_worth : (Nat → Int32)} {c_s_forces : (Nat → Int32)} {c_s_many : (Nat → Int32)} {c_s_codes : (Nat → Nat → Int32)} {c_s_b_list : (Nat → Nat → Int32)} {c_s_b_many : (Nat → Int32)} {c_s_p_list : (Nat → Nat → Int32)} {c_s_p_weights : (Nat → Nat → Int32)} {c_s_p_drawn : (Nat → Nat → Int32)} {c_s_p_many : (Nat → Int32)} {c_s_p_all : (Nat → Int32)} {c_s_p_turns : (Nat → Int32)} : (hGS c_picks c_many c_table c_rowNames c_columnNames c_rows c_columns c_scale c_s_fields c_s_ties c_s_worth c_s_forces c_s_many c_s_codes c_s_b_list c_s_b_many c_s_p_list c_s_p_weights c_s_p_drawn c_s_p_many c_s_p_all c_s_p_turns)[11]? = some (.inl (1, 7, .inr (.inl (c_table 5)))) := rfl
theorem hGS_12 {c_picks : (Nat → Nat → Int32)} {c_many : (Nat → Int32)} {c_table : (Nat → Nat → Int64)} {c_rowNames : (Nat → Int32)} {c_columnNames : (Nat → Int32)} {c_rows : Int32} {c_columns : Int32} {c_scale : Int64} {c_s_fields : Int32} {c_s_ties : Int32} {c_s_worth : (Nat → Int32)} {c_s_forces : (Nat → Int32)} {c_s_many : (Nat → Int32)} {c_s_codes : (Nat → Nat → Int32)} {c_s_b_list : (Nat → Nat → Int32)} {c_s_b_many : (Nat → Int32)} {c_s_p_list : (Nat → Nat → Int32)} {c_s_p_weights : (Nat → Nat → Int32)} {c_s_p_drawn : (Nat → Nat → Int32)} {c_s_p_many : (Nat → Int32)} {c_s_p_all : (Nat → Int32)} {c_s_p_turns : (Nat → Int32)} : (hGS c_picks c_many c_table c_rowNames c_columnNames c_rows c_columns c_scale c_s_fields c_s_ties c_s_worth c_s_forces c_s_many c_s_codes c_s_b_list c_s_b_many c_s_p_list c_s_p_weights c_s_p_drawn c_s_p_many c_s_p_all c_s_p_turns)[12]? = some (.inl (1, 7, .inr (.inl (c_table 6)))) := rfl
theorem hGS_13 {c_picks : (Nat → Nat → Int32)} {c_many : (Nat → Int32)} {c_table : (Nat → Nat → Int64)} {c_rowNames : (Nat → Int32)} {c_columnNames : (Nat → Int32)} {c_rows : Int32} {c_columns : Int32} {c_scale : Int64} {c_s_fields : Int32} {c_s_ties : Int32} {c_s_worth : (Nat → Int32)} {c_s_forces : (Nat → Int32)} {c_s_many : (Nat → Int32)} {c_s_codes : (Nat → Nat → Int32)} {c_s_b_list : (Nat → Nat → Int32)} {c_s_b_many : (Nat → Int32)} {c_s_p_list : (Nat → Nat → Int32)} {c_s_p_weights : (Nat → Nat → Int32)} {c_s_p_drawn : (Nat → Nat → Int32)} {c_s_p_many : (Nat → Int32)} {c_s_p_all : (Nat → Int32)} {c_s_p_turns : (Nat → Int32)} : (hGS c_picks c_many c_table c_rowNames c_columnNames c_rows c_columns c_scale c_s_fields c_s_ties c_s_worth c_s_forces c_s_many c_s_codes c_s_b_list c_s_b_many c_s_p_list c_s_p_weights c_s_p_drawn c_s_p_many c_s_p_all c_s_p_turns)[13]? = some (.inl (0, 6, .inl c_rowNames)) := rfl
theorem hGS_14 {c_picks : (Nat → Nat → Int32)} {c_many : (Nat → Int32)} {c_table : (Nat → Nat → Int64)} {c_rowNames : (Nat → Int32)} {c_columnNames : (Nat → Int32)} {c_rows : Int32} {c_columns : Int32} {c_scale : Int64} {c_s_fields : Int32} {c_s_ties : Int32} {c_s_worth : (Nat → Int32)} {c_s_forces : (Nat → Int32)} {c_s_many : (Nat → Int32)} {c_s_codes : (Nat → Nat → Int32)} {c_s_b_list : (Nat → Nat → Int32)} {c_s_b_many : (Nat → Int32)} {c_s_p_list : (Nat → Nat → Int32)} {c_s_p_weights : (Nat → Nat → Int32)} {c_s_p_drawn : (Nat → Nat → Int32)} {c_s_p_many : (Nat → Int32)} {c_s_p_all : (Nat → Int32)} {c_s_p_turns : (Nat → Int32)} : (hGS c_picks c_many c_table c_rowNames c_columnNames c_rows c_columns c_scale c_s_fields c_s_ties c_s_worth c_s_forces c_s_many c_s_codes c_s_b_list c_s_b_many c_s_p_list c_s_p_weights c_s_p_drawn c_s_p_many c_s_p_all c_s_p_turns)[14]? = some (.inl (0, 6, .inl c_columnNames)) := rfl
theorem hGS_15 {c_picks : (Nat → Nat → Int32)} {c_many : (Nat → Int32)} {c_table : (Nat → Nat → Int64)} {c_rowNames : (Nat → Int32)} {c_columnNames : (Nat → Int32)} {c_rows : Int32} {c_columns : Int32} {c_scale : Int64} {c_s_fields : Int32} {c_s_ties : Int32} {c_s_worth : (Nat → Int32)} {c_s_forces : (Nat → Int32)} {c_s_many : (Nat → Int32)} {c_s_codes : (Nat → Nat → Int32)} {c_s_b_list : (Nat → Nat → Int32)} {c_s_b_many : (Nat → Int32)} {c_s_p_list : (Nat → Nat → Int32)} {c_s_p_weights : (Nat → Nat → Int32)} {c_s_p_drawn : (Nat → Nat → Int32)} {c_s_p_many : (Nat → Int32)} {c_s_p_all : (Nat → Int32)} {c_s_p_turns : (Nat → Int32)} : (hGS c_picks c_many c_table c_rowNames c_columnNames c_rows c_columns c_scale c_s_fields c_s_ties c_s_worth c_s_forces c_s_many c_s_codes c_s_b_list c_s_b_many c_s_p_list c_s_p_weights c_s_p_drawn c_s_p_many c_s_p_all c_s_p_turns)[15]? = some (.inr (4, [.int c_s_fields, .int c_s_ties, .ref 16, .ref 17, .ref 18, .ref 19, .ref 22, .ref 27])) := rfl
theorem hGS_16 {c_picks : (Nat → Nat → Int32)} {c_many : (Nat → Int32)} {c_table : (Nat → Nat → Int64)} {c_rowNames : (Nat → Int32)} {c_columnNames : (Nat → Int32)} {c_rows : Int32} {c_columns : Int32} {c_scale : Int64} {c_s_fields : Int32} {c_s_ties : Int32} {c_s_worth : (Nat → Int32)} {c_s_forces : (Nat → Int32)} {c_s_many : (Nat → Int32)} {c_s_codes : (Nat → Nat → Int32)} {c_s_b_list : (Nat → Nat → Int32)} {c_s_b_many : (Nat → Int32)} {c_s_p_list : (Nat → Nat → Int32)} {c_s_p_weights : (Nat → Nat → Int32)} {c_s_p_drawn : (Nat → Nat → Int32)} {c_s_p_many : (Nat → Int32)} {c_s_p_all : (Nat → Int32)} {c_s_p_turns : (Nat → Int32)} : (hGS c_picks c_many c_table c_rowNames c_columnNames c_rows c_columns c_scale c_s_fields c_s_ties c_s_worth c_s_forces c_s_many c_s_codes c_s_b_list c_s_b_many c_s_p_list c_s_p_weights c_s_p_drawn c_s_p_many c_s_p_all c_s_p_turns)[16]? = some (.inl (0, 4, .inl c_s_worth)) := rfl
theorem hGS_17 {c_picks : (Nat → Nat → Int32)} {c_many : (Nat → Int32)} {c_table : (Nat → Nat → Int64)} {c_rowNames : (Nat → Int32)} {c_columnNames : (Nat → Int32)} {c_rows : Int32} {c_columns : Int32} {c_scale : Int64} {c_s_fields : Int32} {c_s_ties : Int32} {c_s_worth : (Nat → Int32)} {c_s_forces : (Nat → Int32)} {c_s_many : (Nat → Int32)} {c_s_codes : (Nat → Nat → Int32)} {c_s_b_list : (Nat → Nat → Int32)} {c_s_b_many : (Nat → Int32)} {c_s_p_list : (Nat → Nat → Int32)} {c_s_p_weights : (Nat → Nat → Int32)} {c_s_p_drawn : (Nat → Nat → Int32)} {c_s_p_many : (Nat → Int32)} {c_s_p_all : (Nat → Int32)} {c_s_p_turns : (Nat → Int32)} : (hGS c_picks c_many c_table c_rowNames c_columnNames c_rows c_columns c_scale c_s_fields c_s_ties c_s_worth c_s_forces c_s_many c_s_codes c_s_b_list c_s_b_many c_s_p_list c_s_p_weights c_s_p_drawn c_s_p_many c_s_p_all c_s_p_turns)[17]? = some (.inl (0, 2, .inl c_s_forces)) := rfl
theorem hGS_18 {c_picks : (Nat → Nat → Int32)} {c_many : (Nat → Int32)} {c_table : (Nat → Nat → Int64)} {c_rowNames : (Nat → Int32)} {c_columnNames : (Nat → Int32)} {c_rows : Int32} {c_columns : Int32} {c_scale : Int64} {c_s_fields : Int32} {c_s_ties : Int32} {c_s_worth : (Nat → Int32)} {c_s_forces : (Nat → Int32)} {c_s_many : (Nat → Int32)} {c_s_codes : (Nat → Nat → Int32)} {c_s_b_list : (Nat → Nat → Int32)} {c_s_b_many : (Nat → Int32)} {c_s_p_list : (Nat → Nat → Int32)} {c_s_p_weights : (Nat → Nat → Int32)} {c_s_p_drawn : (Nat → Nat → Int32)} {c_s_p_many : (Nat → Int32)} {c_s_p_all : (Nat → Int32)} {c_s_p_turns : (Nat → Int32)} : (hGS c_picks c_many c_table c_rowNames c_columnNames c_rows c_columns c_scale c_s_fields c_s_ties c_s_worth c_s_forces c_s_many c_s_codes c_s_b_list c_s_b_many c_s_p_list c_s_p_weights c_s_p_drawn c_s_p_many c_s_p_all c_s_p_turns)[18]? = some (.inl (0, 2, .inl c_s_many)) := rfl
theorem hGS_19 {c_picks : (Nat → Nat → Int32)} {c_many : (Nat → Int32)} {c_table : (Nat → Nat → Int64)} {c_rowNames : (Nat → Int32)} {c_columnNames : (Nat → Int32)} {c_rows : Int32} {c_columns : Int32} {c_scale : Int64} {c_s_fields : Int32} {c_s_ties : Int32} {c_s_worth : (Nat → Int32)} {c_s_forces : (Nat → Int32)} {c_s_many : (Nat → Int32)} {c_s_codes : (Nat → Nat → Int32)} {c_s_b_list : (Nat → Nat → Int32)} {c_s_b_many : (Nat → Int32)} {c_s_p_list : (Nat → Nat → Int32)} {c_s_p_weights : (Nat → Nat → Int32)} {c_s_p_drawn : (Nat → Nat → Int32)} {c_s_p_many : (Nat → Int32)} {c_s_p_all : (Nat → Int32)} {c_s_p_turns : (Nat → Int32)} : (hGS c_picks c_many c_table c_rowNames c_columnNames c_rows c_columns c_scale c_s_fields c_s_ties c_s_worth c_s_forces c_s_many c_s_codes c_s_b_list c_s_b_many c_s_p_list c_s_p_weights c_s_p_drawn c_s_p_many c_s_p_all c_s_p_turns)[19]? = some (.inl (7, 2, .inr (.inr [20, 21]))) := rfl
theorem hGS_20 {c_picks : (Nat → Nat → Int32)} {c_many : (Nat → Int32)} {c_table : (Nat → Nat → Int64)} {c_rowNames : (Nat → Int32)} {c_columnNames : (Nat → Int32)} {c_rows : Int32} {c_columns : Int32} {c_scale : Int64} {c_s_fields : Int32} {c_s_ties : Int32} {c_s_worth : (Nat → Int32)} {c_s_forces : (Nat → Int32)} {c_s_many : (Nat → Int32)} {c_s_codes : (Nat → Nat → Int32)} {c_s_b_list : (Nat → Nat → Int32)} {c_s_b_many : (Nat → Int32)} {c_s_p_list : (Nat → Nat → Int32)} {c_s_p_weights : (Nat → Nat → Int32)} {c_s_p_drawn : (Nat → Nat → Int32)} {c_s_p_many : (Nat → Int32)} {c_s_p_all : (Nat → Int32)} {c_s_p_turns : (Nat → Int32)} : (hGS c_picks c_many c_table c_rowNames c_columnNames c_rows c_columns c_scale c_s_fields c_s_ties c_s_worth c_s_forces c_s_many c_s_codes c_s_b_list c_s_b_many c_s_p_list c_s_p_weights c_s_p_drawn c_s_p_many c_s_p_all c_s_p_turns)[20]? = some (.inl (0, 120, .inl (c_s_codes 0))) := rfl
theorem hGS_21 {c_picks : (Nat → Nat → Int32)} {c_many : (Nat → Int32)} {c_table : (Nat → Nat → Int64)} {c_rowNames : (Nat → Int32)} {c_columnNames : (Nat → Int32)} {c_rows : Int32} {c_columns : Int32} {c_scale : Int64} {c_s_fields : Int32} {c_s_ties : Int32} {c_s_worth : (Nat → Int32)} {c_s_forces : (Nat → Int32)} {c_s_many : (Nat → Int32)} {c_s_codes : (Nat → Nat → Int32)} {c_s_b_list : (Nat → Nat → Int32)} {c_s_b_many : (Nat → Int32)} {c_s_p_list : (Nat → Nat → Int32)} {c_s_p_weights : (Nat → Nat → Int32)} {c_s_p_drawn : (Nat → Nat → Int32)} {c_s_p_many : (Nat → Int32)} {c_s_p_all : (Nat → Int32)} {c_s_p_turns : (Nat → Int32)} : (hGS c_picks c_many c_table c_rowNames c_columnNames c_rows c_columns c_scale c_s_fields c_s_ties c_s_worth c_s_forces c_s_many c_s_codes c_s_b_list c_s_b_many c_s_p_list c_s_p_weights c_s_p_drawn c_s_p_many c_s_p_all c_s_p_turns)[21]? = some (.inl (0, 120, .inl (c_s_codes 1))) := rfl
theorem hGS_22 {c_picks : (Nat → Nat → Int32)} {c_many : (Nat → Int32)} {c_table : (Nat → Nat → Int64)} {c_rowNames : (Nat → Int32)} {c_columnNames : (Nat → Int32)} {c_rows : Int32} {c_columns : Int32} {c_scale : Int64} {c_s_fields : Int32} {c_s_ties : Int32} {c_s_worth : (Nat → Int32)} {c_s_forces : (Nat → Int32)} {c_s_many : (Nat → Int32)} {c_s_codes : (Nat → Nat → Int32)} {c_s_b_list : (Nat → Nat → Int32)} {c_s_b_many : (Nat → Int32)} {c_s_p_list : (Nat → Nat → Int32)} {c_s_p_weights : (Nat → Nat → Int32)} {c_s_p_drawn : (Nat → Nat → Int32)} {c_s_p_many : (Nat → Int32)} {c_s_p_all : (Nat → Int32)} {c_s_p_turns : (Nat → Int32)} : (hGS c_picks c_many c_table c_rowNames c_columnNames c_rows c_columns c_scale c_s_fields c_s_ties c_s_worth c_s_forces c_s_many c_s_codes c_s_b_list c_s_b_many c_s_p_list c_s_p_weights c_s_p_drawn c_s_p_many c_s_p_all c_s_p_turns)[22]? = some (.inl (4, 2, .inr (.inr [23, 25]))) := rfl
theorem hGS_23 {c_picks : (Nat → Nat → Int32)} {c_many : (Nat → Int32)} {c_table : (Nat → Nat → Int64)} {c_rowNames : (Nat → Int32)} {c_columnNames : (Nat → Int32)} {c_rows : Int32} {c_columns : Int32} {c_scale : Int64} {c_s_fields : Int32} {c_s_ties : Int32} {c_s_worth : (Nat → Int32)} {c_s_forces : (Nat → Int32)} {c_s_many : (Nat → Int32)} {c_s_codes : (Nat → Nat → Int32)} {c_s_b_list : (Nat → Nat → Int32)} {c_s_b_many : (Nat → Int32)} {c_s_p_list : (Nat → Nat → Int32)} {c_s_p_weights : (Nat → Nat → Int32)} {c_s_p_drawn : (Nat → Nat → Int32)} {c_s_p_many : (Nat → Int32)} {c_s_p_all : (Nat → Int32)} {c_s_p_turns : (Nat → Int32)} : (hGS c_picks c_many c_table c_rowNames c_columnNames c_rows c_columns c_scale c_s_fields c_s_ties c_s_worth c_s_forces c_s_many c_s_codes c_s_b_list c_s_b_many c_s_p_list c_s_p_weights c_s_p_drawn c_s_p_many c_s_p_all c_s_p_turns)[23]? = some (.inr (0, [.ref 24, .int (c_s_b_many 0)])) := rfl
theorem hGS_24 {c_picks : (Nat → Nat → Int32)} {c_many : (Nat → Int32)} {c_table : (Nat → Nat → Int64)} {c_rowNames : (Nat → Int32)} {c_columnNames : (Nat → Int32)} {c_rows : Int32} {c_columns : Int32} {c_scale : Int64} {c_s_fields : Int32} {c_s_ties : Int32} {c_s_worth : (Nat → Int32)} {c_s_forces : (Nat → Int32)} {c_s_many : (Nat → Int32)} {c_s_codes : (Nat → Nat → Int32)} {c_s_b_list : (Nat → Nat → Int32)} {c_s_b_many : (Nat → Int32)} {c_s_p_list : (Nat → Nat → Int32)} {c_s_p_weights : (Nat → Nat → Int32)} {c_s_p_drawn : (Nat → Nat → Int32)} {c_s_p_many : (Nat → Int32)} {c_s_p_all : (Nat → Int32)} {c_s_p_turns : (Nat → Int32)} : (hGS c_picks c_many c_table c_rowNames c_columnNames c_rows c_columns c_scale c_s_fields c_s_ties c_s_worth c_s_forces c_s_many c_s_codes c_s_b_list c_s_b_many c_s_p_list c_s_p_weights c_s_p_drawn c_s_p_many c_s_p_all c_s_p_turns)[24]? = some (.inl (0, 6, .inl (c_s_b_list 0))) := rfl
theorem hGS_25 {c_picks : (Nat → Nat → Int32)} {c_many : (Nat → Int32)} {c_table : (Nat → Nat → Int64)} {c_rowNames : (Nat → Int32)} {c_columnNames : (Nat → Int32)} {c_rows : Int32} {c_columns : Int32} {c_scale : Int64} {c_s_fields : Int32} {c_s_ties : Int32} {c_s_worth : (Nat → Int32)} {c_s_forces : (Nat → Int32)} {c_s_many : (Nat → Int32)} {c_s_codes : (Nat → Nat → Int32)} {c_s_b_list : (Nat → Nat → Int32)} {c_s_b_many : (Nat → Int32)} {c_s_p_list : (Nat → Nat → Int32)} {c_s_p_weights : (Nat → Nat → Int32)} {c_s_p_drawn : (Nat → Nat → Int32)} {c_s_p_many : (Nat → Int32)} {c_s_p_all : (Nat → Int32)} {c_s_p_turns : (Nat → Int32)} : (hGS c_picks c_many c_table c_rowNames c_columnNames c_rows c_columns c_scale c_s_fields c_s_ties c_s_worth c_s_forces c_s_many c_s_codes c_s_b_list c_s_b_many c_s_p_list c_s_p_weights c_s_p_drawn c_s_p_many c_s_p_all c_s_p_turns)[25]? = some (.inr (0, [.ref 26, .int (c_s_b_many 1)])) := rfl
theorem hGS_26 {c_picks : (Nat → Nat → Int32)} {c_many : (Nat → Int32)} {c_table : (Nat → Nat → Int64)} {c_rowNames : (Nat → Int32)} {c_columnNames : (Nat → Int32)} {c_rows : Int32} {c_columns : Int32} {c_scale : Int64} {c_s_fields : Int32} {c_s_ties : Int32} {c_s_worth : (Nat → Int32)} {c_s_forces : (Nat → Int32)} {c_s_many : (Nat → Int32)} {c_s_codes : (Nat → Nat → Int32)} {c_s_b_list : (Nat → Nat → Int32)} {c_s_b_many : (Nat → Int32)} {c_s_p_list : (Nat → Nat → Int32)} {c_s_p_weights : (Nat → Nat → Int32)} {c_s_p_drawn : (Nat → Nat → Int32)} {c_s_p_many : (Nat → Int32)} {c_s_p_all : (Nat → Int32)} {c_s_p_turns : (Nat → Int32)} : (hGS c_picks c_many c_table c_rowNames c_columnNames c_rows c_columns c_scale c_s_fields c_s_ties c_s_worth c_s_forces c_s_many c_s_codes c_s_b_list c_s_b_many c_s_p_list c_s_p_weights c_s_p_drawn c_s_p_many c_s_p_all c_s_p_turns)[26]? = some (.inl (0, 6, .inl (c_s_b_list 1))) := rfl
theorem hGS_27 {c_picks : (Nat → Nat → Int32)} {c_many : (Nat → Int32)} {c_table : (Nat → Nat → Int64)} {c_rowNames : (Nat → Int32)} {c_columnNames : (Nat → Int32)} {c_rows : Int32} {c_columns : Int32} {c_scale : Int64} {c_s_fields : Int32} {c_s_ties : Int32} {c_s_worth : (Nat → Int32)} {c_s_forces : (Nat → Int32)} {c_s_many : (Nat → Int32)} {c_s_codes : (Nat → Nat → Int32)} {c_s_b_list : (Nat → Nat → Int32)} {c_s_b_many : (Nat → Int32)} {c_s_p_list : (Nat → Nat → Int32)} {c_s_p_weights : (Nat → Nat → Int32)} {c_s_p_drawn : (Nat → Nat → Int32)} {c_s_p_many : (Nat → Int32)} {c_s_p_all : (Nat → Int32)} {c_s_p_turns : (Nat → Int32)} : (hGS c_picks c_many c_table c_rowNames c_columnNames c_rows c_columns c_scale c_s_fields c_s_ties c_s_worth c_s_forces c_s_many c_s_codes c_s_b_list c_s_b_many c_s_p_list c_s_p_weights c_s_p_drawn c_s_p_many c_s_p_all c_s_p_turns)[27]? = some (.inl (5, 2, .inr (.inr [28, 32]))) := rfl
theorem hGS_28 {c_picks : (Nat → Nat → Int32)} {c_many : (Nat → Int32)} {c_table : (Nat → Nat → Int64)} {c_rowNames : (Nat → Int32)} {c_columnNames : (Nat → Int32)} {c_rows : Int32} {c_columns : Int32} {c_scale : Int64} {c_s_fields : Int32} {c_s_ties : Int32} {c_s_worth : (Nat → Int32)} {c_s_forces : (Nat → Int32)} {c_s_many : (Nat → Int32)} {c_s_codes : (Nat → Nat → Int32)} {c_s_b_list : (Nat → Nat → Int32)} {c_s_b_many : (Nat → Int32)} {c_s_p_list : (Nat → Nat → Int32)} {c_s_p_weights : (Nat → Nat → Int32)} {c_s_p_drawn : (Nat → Nat → Int32)} {c_s_p_many : (Nat → Int32)} {c_s_p_all : (Nat → Int32)} {c_s_p_turns : (Nat → Int32)} : (hGS c_picks c_many c_table c_rowNames c_columnNames c_rows c_columns c_scale c_s_fields c_s_ties c_s_worth c_s_forces c_s_many c_s_codes c_s_b_list c_s_b_many c_s_p_list c_s_p_weights c_s_p_drawn c_s_p_many c_s_p_all c_s_p_turns)[28]? = some (.inr (3, [.ref 29, .ref 30, .ref 31, .int (c_s_p_many 0), .int (c_s_p_all 0), .int (c_s_p_turns 0)])) := rfl
theorem hGS_29 {c_picks : (Nat → Nat → Int32)} {c_many : (Nat → Int32)} {c_table : (Nat → Nat → Int64)} {c_rowNames : (Nat → Int32)} {c_columnNames : (Nat → Int32)} {c_rows : Int32} {c_columns : Int32} {c_scale : Int64} {c_s_fields : Int32} {c_s_ties : Int32} {c_s_worth : (Nat → Int32)} {c_s_forces : (Nat → Int32)} {c_s_many : (Nat → Int32)} {c_s_codes : (Nat → Nat → Int32)} {c_s_b_list : (Nat → Nat → Int32)} {c_s_b_many : (Nat → Int32)} {c_s_p_list : (Nat → Nat → Int32)} {c_s_p_weights : (Nat → Nat → Int32)} {c_s_p_drawn : (Nat → Nat → Int32)} {c_s_p_many : (Nat → Int32)} {c_s_p_all : (Nat → Int32)} {c_s_p_turns : (Nat → Int32)} : (hGS c_picks c_many c_table c_rowNames c_columnNames c_rows c_columns c_scale c_s_fields c_s_ties c_s_worth c_s_forces c_s_many c_s_codes c_s_b_list c_s_b_many c_s_p_list c_s_p_weights c_s_p_drawn c_s_p_many c_s_p_all c_s_p_turns)[29]? = some (.inl (0, 8, .inl (c_s_p_list 0))) := rfl
theorem hGS_30 {c_picks : (Nat → Nat → Int32)} {c_many : (Nat → Int32)} {c_table : (Nat → Nat → Int64)} {c_rowNames : (Nat → Int32)} {c_columnNames : (Nat → Int32)} {c_rows : Int32} {c_columns : Int32} {c_scale : Int64} {c_s_fields : Int32} {c_s_ties : Int32} {c_s_worth : (Nat → Int32)} {c_s_forces : (Nat → Int32)} {c_s_many : (Nat → Int32)} {c_s_codes : (Nat → Nat → Int32)} {c_s_b_list : (Nat → Nat → Int32)} {c_s_b_many : (Nat → Int32)} {c_s_p_list : (Nat → Nat → Int32)} {c_s_p_weights : (Nat → Nat → Int32)} {c_s_p_drawn : (Nat → Nat → Int32)} {c_s_p_many : (Nat → Int32)} {c_s_p_all : (Nat → Int32)} {c_s_p_turns : (Nat → Int32)} : (hGS c_picks c_many c_table c_rowNames c_columnNames c_rows c_columns c_scale c_s_fields c_s_ties c_s_worth c_s_forces c_s_many c_s_codes c_s_b_list c_s_b_many c_s_p_list c_s_p_weights c_s_p_drawn c_s_p_many c_s_p_all c_s_p_turns)[30]? = some (.inl (0, 8, .inl (c_s_p_weights 0))) := rfl
theorem hGS_31 {c_picks : (Nat → Nat → Int32)} {c_many : (Nat → Int32)} {c_table : (Nat → Nat → Int64)} {c_rowNames : (Nat → Int32)} {c_columnNames : (Nat → Int32)} {c_rows : Int32} {c_columns : Int32} {c_scale : Int64} {c_s_fields : Int32} {c_s_ties : Int32} {c_s_worth : (Nat → Int32)} {c_s_forces : (Nat → Int32)} {c_s_many : (Nat → Int32)} {c_s_codes : (Nat → Nat → Int32)} {c_s_b_list : (Nat → Nat → Int32)} {c_s_b_many : (Nat → Int32)} {c_s_p_list : (Nat → Nat → Int32)} {c_s_p_weights : (Nat → Nat → Int32)} {c_s_p_drawn : (Nat → Nat → Int32)} {c_s_p_many : (Nat → Int32)} {c_s_p_all : (Nat → Int32)} {c_s_p_turns : (Nat → Int32)} : (hGS c_picks c_many c_table c_rowNames c_columnNames c_rows c_columns c_scale c_s_fields c_s_ties c_s_worth c_s_forces c_s_many c_s_codes c_s_b_list c_s_b_many c_s_p_list c_s_p_weights c_s_p_drawn c_s_p_many c_s_p_all c_s_p_turns)[31]? = some (.inl (0, 8, .inl (c_s_p_drawn 0))) := rfl
theorem hGS_32 {c_picks : (Nat → Nat → Int32)} {c_many : (Nat → Int32)} {c_table : (Nat → Nat → Int64)} {c_rowNames : (Nat → Int32)} {c_columnNames : (Nat → Int32)} {c_rows : Int32} {c_columns : Int32} {c_scale : Int64} {c_s_fields : Int32} {c_s_ties : Int32} {c_s_worth : (Nat → Int32)} {c_s_forces : (Nat → Int32)} {c_s_many : (Nat → Int32)} {c_s_codes : (Nat → Nat → Int32)} {c_s_b_list : (Nat → Nat → Int32)} {c_s_b_many : (Nat → Int32)} {c_s_p_list : (Nat → Nat → Int32)} {c_s_p_weights : (Nat → Nat → Int32)} {c_s_p_drawn : (Nat → Nat → Int32)} {c_s_p_many : (Nat → Int32)} {c_s_p_all : (Nat → Int32)} {c_s_p_turns : (Nat → Int32)} : (hGS c_picks c_many c_table c_rowNames c_columnNames c_rows c_columns c_scale c_s_fields c_s_ties c_s_worth c_s_forces c_s_many c_s_codes c_s_b_list c_s_b_many c_s_p_list c_s_p_weights c_s_p_drawn c_s_p_many c_s_p_all c_s_p_turns)[32]? = some (.inr (3, [.ref 33, .ref 34, .ref 35, .int (c_s_p_many 1), .int (c_s_p_all 1), .int (c_s_p_turns 1)])) := rfl
theorem hGS_33 {c_picks : (Nat → Nat → Int32)} {c_many : (Nat → Int32)} {c_table : (Nat → Nat → Int64)} {c_rowNames : (Nat → Int32)} {c_columnNames : (Nat → Int32)} {c_rows : Int32} {c_columns : Int32} {c_scale : Int64} {c_s_fields : Int32} {c_s_ties : Int32} {c_s_worth : (Nat → Int32)} {c_s_forces : (Nat → Int32)} {c_s_many : (Nat → Int32)} {c_s_codes : (Nat → Nat → Int32)} {c_s_b_list : (Nat → Nat → Int32)} {c_s_b_many : (Nat → Int32)} {c_s_p_list : (Nat → Nat → Int32)} {c_s_p_weights : (Nat → Nat → Int32)} {c_s_p_drawn : (Nat → Nat → Int32)} {c_s_p_many : (Nat → Int32)} {c_s_p_all : (Nat → Int32)} {c_s_p_turns : (Nat → Int32)} : (hGS c_picks c_many c_table c_rowNames c_columnNames c_rows c_columns c_scale c_s_fields c_s_ties c_s_worth c_s_forces c_s_many c_s_codes c_s_b_list c_s_b_many c_s_p_list c_s_p_weights c_s_p_drawn c_s_p_many c_s_p_all c_s_p_turns)[33]? = some (.inl (0, 8, .inl (c_s_p_list 1))) := rfl
theorem hGS_34 {c_picks : (Nat → Nat → Int32)} {c_many : (Nat → Int32)} {c_table : (Nat → Nat → Int64)} {c_rowNames : (Nat → Int32)} {c_columnNames : (Nat → Int32)} {c_rows : Int32} {c_columns : Int32} {c_scale : Int64} {c_s_fields : Int32} {c_s_ties : Int32} {c_s_worth : (Nat → Int32)} {c_s_forces : (Nat → Int32)} {c_s_many : (Nat → Int32)} {c_s_codes : (Nat → Nat → Int32)} {c_s_b_list : (Nat → Nat → Int32)} {c_s_b_many : (Nat → Int32)} {c_s_p_list : (Nat → Nat → Int32)} {c_s_p_weights : (Nat → Nat → Int32)} {c_s_p_drawn : (Nat → Nat → Int32)} {c_s_p_many : (Nat → Int32)} {c_s_p_all : (Nat → Int32)} {c_s_p_turns : (Nat → Int32)} : (hGS c_picks c_many c_table c_rowNames c_columnNames c_rows c_columns c_scale c_s_fields c_s_ties c_s_worth c_s_forces c_s_many c_s_codes c_s_b_list c_s_b_many c_s_p_list c_s_p_weights c_s_p_drawn c_s_p_many c_s_p_all c_s_p_turns)[34]? = some (.inl (0, 8, .inl (c_s_p_weights 1))) := rfl
theorem hGS_35 {c_picks : (Nat → Nat → Int32)} {c_many : (Nat → Int32)} {c_table : (Nat → Nat → Int64)} {c_rowNames : (Nat → Int32)} {c_columnNames : (Nat → Int32)} {c_rows : Int32} {c_columns : Int32} {c_scale : Int64} {c_s_fields : Int32} {c_s_ties : Int32} {c_s_worth : (Nat → Int32)} {c_s_forces : (Nat → Int32)} {c_s_many : (Nat → Int32)} {c_s_codes : (Nat → Nat → Int32)} {c_s_b_list : (Nat → Nat → Int32)} {c_s_b_many : (Nat → Int32)} {c_s_p_list : (Nat → Nat → Int32)} {c_s_p_weights : (Nat → Nat → Int32)} {c_s_p_drawn : (Nat → Nat → Int32)} {c_s_p_many : (Nat → Int32)} {c_s_p_all : (Nat → Int32)} {c_s_p_turns : (Nat → Int32)} : (hGS c_picks c_many c_table c_rowNames c_columnNames c_rows c_columns c_scale c_s_fields c_s_ties c_s_worth c_s_forces c_s_many c_s_codes c_s_b_list c_s_b_many c_s_p_list c_s_p_weights c_s_p_drawn c_s_p_many c_s_p_all c_s_p_turns)[35]? = some (.inl (0, 8, .inl (c_s_p_drawn 1))) := rfl
theorem f1_16 : xFl RX1 16 1 1 := ⟨_, rfl, by decide, List.mem_of_getElem? (i := 113) (by decide +kernel)⟩
theorem f1_31 : xFl RX1 31 0 1 := ⟨_, rfl, by decide, List.mem_of_getElem? (i := 861) (by decide +kernel)⟩
theorem f1_11 : xFl RX1 11 1 0 := ⟨_, rfl, by decide, List.mem_of_getElem? (i := 112) (by decide +kernel)⟩
theorem f1_36 : xFl RX1 36 0 0 := ⟨_, rfl, by decide, List.mem_of_getElem? (i := 862) (by decide +kernel)⟩
theorem dX1_take_0 : decode cX1_take 0 = .ok (.aload_n 0, 1) := by decide +kernel
theorem dX1_take_1 : decode cX1_take 1 = .ok (.getfield 16, 3) := by decide +kernel
theorem dX1_take_4 : decode cX1_take 4 = .ok (.iload_n 1, 1) := by decide +kernel
theorem dX1_take_5 : decode cX1_take 5 = .ok (.aload_n 2, 1) := by decide +kernel
theorem dX1_take_6 : decode cX1_take 6 = .ok (.getfield 31, 3) := by decide +kernel
theorem dX1_take_9 : decode cX1_take 9 = .ok (.iastore, 1) := by decide +kernel
theorem dX1_take_10 : decode cX1_take 10 = .ok (.iconst 0, 1) := by decide +kernel
theorem dX1_take_11 : decode cX1_take 11 = .ok (.istore_n 3, 1) := by decide +kernel
theorem dX1_take_12 : decode cX1_take 12 = .ok (.iload_n 3, 1) := by decide +kernel
theorem dX1_take_13 : decode cX1_take 13 = .ok (.aload_n 2, 1) := by decide +kernel
theorem dX1_take_14 : decode cX1_take 14 = .ok (.getfield 31, 3) := by decide +kernel
theorem dX1_take_17 : decode cX1_take 17 = .ok (.if_icmp .ge 23, 3) := by decide +kernel
theorem dX1_take_20 : decode cX1_take 20 = .ok (.aload_n 0, 1) := by decide +kernel
theorem dX1_take_21 : decode cX1_take 21 = .ok (.getfield 11, 3) := by decide +kernel
theorem dX1_take_24 : decode cX1_take 24 = .ok (.iload_n 1, 1) := by decide +kernel
theorem dX1_take_25 : decode cX1_take 25 = .ok (.aaload, 1) := by decide +kernel
theorem dX1_take_26 : decode cX1_take 26 = .ok (.iload_n 3, 1) := by decide +kernel
theorem dX1_take_27 : decode cX1_take 27 = .ok (.aload_n 2, 1) := by decide +kernel
theorem dX1_take_28 : decode cX1_take 28 = .ok (.getfield 36, 3) := by decide +kernel
theorem dX1_take_31 : decode cX1_take 31 = .ok (.iload_n 3, 1) := by decide +kernel
theorem dX1_take_32 : decode cX1_take 32 = .ok (.iaload, 1) := by decide +kernel
theorem dX1_take_33 : decode cX1_take 33 = .ok (.iastore, 1) := by decide +kernel
theorem dX1_take_34 : decode cX1_take 34 = .ok (.iinc 3 1, 3) := by decide +kernel
theorem dX1_take_37 : decode cX1_take 37 = .ok (.goto (-25), 3) := by decide +kernel
theorem dX1_take_40 : decode cX1_take 40 = .ok (.return_, 1) := by decide +kernel
abbrev j1_take : xJ := (cX1_take, 4, RX1, 1, 0, 0)
def F1_take_b12 (z : Nat) (w : Nat) (x1 : Int32) (x3 : Int32) (c_picks : (Nat → Nat → Int32)) (c_many : (Nat → Int32)) (c_b_list : (Nat → Int32)) (c_b_many : Int32) : Option ((Nat → Nat → Int32) × (Nat → Int32)) := match w with
  | 0 => none
  | w + 1 => if c_b_many ≤ x3 then (some (c_picks, c_many)) else (xg (xin x1 2) (xg (xin x3 6) (xg (xin x3 6) (F1_take_b12 z w x1 (x3 + (1 : Int32)) (va_up c_picks (xn x1) (upd (c_picks (xn x1)) (xn x3) (c_b_list (xn x3)))) c_many c_b_list c_b_many))))
theorem T1_take_b12 {X : xX} {c_table : (Nat → Nat → Int64)} {c_rowNames : (Nat → Int32)} {c_columnNames : (Nat → Int32)} {c_rows : Int32} {c_columns : Int32} {c_scale : Int64} {c_b_list : (Nat → Int32)} {c_b_many : Int32} {z : Nat} {v : (Nat → Nat → Int32) × (Nat → Int32)} (hX : xIs (j1_take) X none none (hGB v.1 v.2 c_table c_rowNames c_columnNames c_rows c_columns c_scale c_b_list c_b_many)) : ∀ (w : Nat) {x1 : Int32} {x3 : Int32} {c_picks : (Nat → Nat → Int32)} {c_many : (Nat → Int32)}, F1_take_b12 z w x1 x3 c_picks c_many c_b_list c_b_many = some v → xV (j1_take) X 0 0 (hGB c_picks c_many c_table c_rowNames c_columnNames c_rows c_columns c_scale c_b_list c_b_many) 12 [(0, .ref 0), (1, .int x1), (2, .ref 15), (3, .int x3)] [] := by
  intro w
  induction w with
  | zero => intro x1 x3 c_picks c_many hf; cases hf
  | succ w ih =>
    intro x1 x3 c_picks c_many hf
    unfold F1_take_b12 at hf
    refine xV_iload_n 13 rfl dX1_take_12 rfl 3 rfl ?_
    refine xV_aload_n 14 rfl dX1_take_13 rfl 2 rfl ?_
    refine xV_get (v := .int c_b_many) 17 rfl dX1_take_14 f1_31 rfl rfl ?_
    refine xV_icmp_ge (tgt := 40) 20 rfl dX1_take_17 (by decide) (fun h17 => ?_) (fun h17 => ?_)
    · have hf := xif_t hf h17
      obtain rfl := Option.some.inj hf
      exact xV_vret hX dX1_take_40 (Nat.zero_le _) (Nat.zero_le _)
    · have hf := xif_f hf h17
      refine xV_aload_n 21 rfl dX1_take_20 rfl 0 rfl ?_
      refine xV_get (v := .ref 1) 24 rfl dX1_take_21 f1_11 rfl rfl ?_
      refine xV_iload_n 25 rfl dX1_take_24 rfl 1 rfl ?_
      obtain ⟨hg25, hf⟩ := xg_s hf
      refine xV_aaload (b := (2 + (xn x1))) 26 rfl dX1_take_25 rfl rfl rfl (xin_ok hg25) (by show ([2, 3] : List Nat)[(xn x1)]? = some (2 + (xn x1)); have hi := xin_lt hg25; generalize (xn x1) = i at hi ⊢; match i, hi with | 0, _ => rfl | 1, _ => rfl) ?_
      refine xV_iload_n 27 rfl dX1_take_26 rfl 3 rfl ?_
      refine xV_aload_n 28 rfl dX1_take_27 rfl 2 rfl ?_
      refine xV_get (v := .ref 16) 31 rfl dX1_take_28 f1_36 rfl rfl ?_
      refine xV_iload_n 32 rfl dX1_take_31 rfl 3 rfl ?_
      obtain ⟨hg32, hf⟩ := xg_s hf
      refine xV_iaload 33 rfl dX1_take_32 rfl (xin_ok hg32) rfl ?_
      obtain ⟨hg33, hf⟩ := xg_s hf
      refine xV_iastore (f := (c_picks (xn x1))) (z := 6) (h' := (hGB (va_up c_picks (xn x1) (upd (c_picks (xn x1)) (xn x3) (c_b_list (xn x3)))) c_many c_table c_rowNames c_columnNames c_rows c_columns c_scale c_b_list c_b_many)) (j := (xn x3)) 34 rfl dX1_take_33 (by have hi := (xin_lt hg25); generalize (xn x1) = i at hi ⊢; match i, hi with | 0, _ => exact rfl | 1, _ => exact rfl) (xin_ok hg33) rfl (by have hi := (xin_lt hg25); generalize (xn x1) = i at hi ⊢; match i, hi with | 0, _ => exact rfl | 1, _ => exact rfl) ?_
      refine xV_iinc (L' := [(3, .int (x3 + (1 : Int32))), (0, .ref 0), (1, .int x1), (2, .ref 15)]) 37 rfl dX1_take_34 3 rfl (xk_inc xy_i1) (xlt rfl) rfl ?_
      refine xV_goto (tgt := 12) dX1_take_37 (by decide) ?_
      refine xV_sub [1, 2, 3, 0] rfl ?_
      exact ih hf
def F1_take (z : Nat) (x1 : Int32) (c_picks : (Nat → Nat → Int32)) (c_many : (Nat → Int32)) (c_b_list : (Nat → Int32)) (c_b_many : Int32) : Option ((Nat → Nat → Int32) × (Nat → Int32)) :=
  xg (xin x1 2) (F1_take_b12 z z x1 (0 : Int32) c_picks (upd c_many (xn x1) c_b_many) c_b_list c_b_many)
theorem T1_take {X : xX} {z : Nat} {x1 : Int32} {c_picks : (Nat → Nat → Int32)} {c_many : (Nat → Int32)} {c_b_list : (Nat → Int32)} {c_b_many : Int32} {c_table : (Nat → Nat → Int64)} {c_rowNames : (Nat → Int32)} {c_columnNames : (Nat → Int32)} {c_rows : Int32} {c_columns : Int32} {c_scale : Int64} {v : (Nat → Nat → Int32) × (Nat → Int32)} (hX : xIs (j1_take) X none none (hGB v.1 v.2 c_table c_rowNames c_columnNames c_rows c_columns c_scale c_b_list c_b_many)) (hf : F1_take z x1 c_picks c_many c_b_list c_b_many = some v) : xV (j1_take) X 0 0 (hGB c_picks c_many c_table c_rowNames c_columnNames c_rows c_columns c_scale c_b_list c_b_many) 0 [(0, .ref 0), (1, .int x1), (2, .ref 15)] [] := by
  unfold F1_take at hf
  refine xV_aload_n 1 rfl dX1_take_0 rfl 0 rfl ?_
  refine xV_get (v := .ref 4) 4 rfl dX1_take_1 f1_16 rfl rfl ?_
  refine xV_iload_n 5 rfl dX1_take_4 rfl 1 rfl ?_
  refine xV_aload_n 6 rfl dX1_take_5 rfl 2 rfl ?_
  refine xV_get (v := .int c_b_many) 9 rfl dX1_take_6 f1_31 rfl rfl ?_
  obtain ⟨hg9, hf⟩ := xg_s hf
  refine xV_iastore (h' := (hGB c_picks (upd c_many (xn x1) c_b_many) c_table c_rowNames c_columnNames c_rows c_columns c_scale c_b_list c_b_many)) (j := (xn x1)) 10 rfl dX1_take_9 rfl (xin_ok hg9) rfl rfl ?_
  refine xV_iconst 11 rfl dX1_take_10 xy_i0 ?_
  refine xV_istore_n (L' := [(3, .int (0 : Int32)), (0, .ref 0), (1, .int x1), (2, .ref 15)]) 12 rfl dX1_take_11 rfl (xlt rfl) rfl ?_
  refine xV_sub [1, 2, 3, 0] rfl ?_
  exact T1_take_b12 hX _ hf
theorem C1_take (l : Launch) {z : Nat} {x1 : Int32} {c_picks : (Nat → Nat → Int32)} {c_many : (Nat → Int32)} {c_b_list : (Nat → Int32)} {c_b_many : Int32} {c_table : (Nat → Nat → Int64)} {c_rowNames : (Nat → Int32)} {c_columnNames : (Nat → Int32)} {c_rows : Int32} {c_columns : Int32} {c_scale : Int64} {v : (Nat → Nat → Int32) × (Nat → Int32)} (hf : F1_take z x1 c_picks c_many c_b_list c_b_many = some v) : xCt l yX1_take none j1_take [.ref 0, .int x1, .ref 15] (hGB c_picks c_many c_table c_rowNames c_columnNames c_rows c_columns c_scale c_b_list c_b_many) none (hGB v.1 v.2 c_table c_rowNames c_columnNames c_rows c_columns c_scale c_b_list c_b_many) := xCt_of (by decide) rfl (Nat.le_of_ble_eq_true rfl) (fun _ hX => T1_take hX hf)
theorem m1_take : xMd yX1_take RX1 none j1_take 2 := ⟨List.mem_of_getElem? (i := 860) (by decide +kernel), List.mem_of_getElem? (i := 37) (by decide +kernel), rfl, by decide +kernel⟩
theorem v1_take : xMv yX1_take RX1 := ⟨List.mem_of_getElem? (i := 858) (by decide +kernel), List.mem_of_getElem? (i := 859) (by decide +kernel)⟩
theorem dX1_join_0 : decode cX1_join 0 = .ok (.aload_n 0, 1) := by decide +kernel
theorem dX1_join_1 : decode cX1_join 1 = .ok (.getfield 16, 3) := by decide +kernel
theorem dX1_join_4 : decode cX1_join 4 = .ok (.iload_n 1, 1) := by decide +kernel
theorem dX1_join_5 : decode cX1_join 5 = .ok (.iaload, 1) := by decide +kernel
theorem dX1_join_6 : decode cX1_join 6 = .ok (.bipush 6, 2) := by decide +kernel
theorem dX1_join_8 : decode cX1_join 8 = .ok (.if_icmp .ge 27, 3) := by decide +kernel
theorem dX1_join_11 : decode cX1_join 11 = .ok (.aload_n 0, 1) := by decide +kernel
theorem dX1_join_12 : decode cX1_join 12 = .ok (.getfield 11, 3) := by decide +kernel
theorem dX1_join_15 : decode cX1_join 15 = .ok (.iload_n 1, 1) := by decide +kernel
theorem dX1_join_16 : decode cX1_join 16 = .ok (.aaload, 1) := by decide +kernel
theorem dX1_join_17 : decode cX1_join 17 = .ok (.aload_n 0, 1) := by decide +kernel
theorem dX1_join_18 : decode cX1_join 18 = .ok (.getfield 16, 3) := by decide +kernel
theorem dX1_join_21 : decode cX1_join 21 = .ok (.iload_n 1, 1) := by decide +kernel
theorem dX1_join_22 : decode cX1_join 22 = .ok (.iaload, 1) := by decide +kernel
theorem dX1_join_23 : decode cX1_join 23 = .ok (.iload_n 2, 1) := by decide +kernel
theorem dX1_join_24 : decode cX1_join 24 = .ok (.iastore, 1) := by decide +kernel
theorem dX1_join_25 : decode cX1_join 25 = .ok (.aload_n 0, 1) := by decide +kernel
theorem dX1_join_26 : decode cX1_join 26 = .ok (.getfield 16, 3) := by decide +kernel
theorem dX1_join_29 : decode cX1_join 29 = .ok (.iload_n 1, 1) := by decide +kernel
theorem dX1_join_30 : decode cX1_join 30 = .ok (.dup2, 1) := by decide +kernel
theorem dX1_join_31 : decode cX1_join 31 = .ok (.iaload, 1) := by decide +kernel
theorem dX1_join_32 : decode cX1_join 32 = .ok (.iconst 1, 1) := by decide +kernel
theorem dX1_join_33 : decode cX1_join 33 = .ok (.iadd, 1) := by decide +kernel
theorem dX1_join_34 : decode cX1_join 34 = .ok (.iastore, 1) := by decide +kernel
theorem dX1_join_35 : decode cX1_join 35 = .ok (.return_, 1) := by decide +kernel
abbrev j1_join : xJ := (cX1_join, 3, RX1, 1, 0, 0)
def F1_join (x1 : Int32) (x2 : Int32) (c_picks : (Nat → Nat → Int32)) (c_many : (Nat → Int32)) : Option ((Nat → Nat → Int32) × (Nat → Int32)) :=
  xg (xin x1 2) (if (6 : Int32) ≤ (c_many (xn x1)) then (some (c_picks, c_many)) else (xg (xin x1 2) (xg (xin x1 2) (xg (xin (c_many (xn x1)) 6) (xg (xin x1 2) (xg (xin x1 2) (some ((va_up c_picks (xn x1) (upd (c_picks (xn x1)) (xn (c_many (xn x1))) x2)), (upd c_many (xn x1) ((c_many (xn x1)) + (1 : Int32)))))))))))
theorem T1_join {X : xX} {x1 : Int32} {x2 : Int32} {c_picks : (Nat → Nat → Int32)} {c_many : (Nat → Int32)} {c_table : (Nat → Nat → Int64)} {c_rowNames : (Nat → Int32)} {c_columnNames : (Nat → Int32)} {c_rows : Int32} {c_columns : Int32} {c_scale : Int64} {v : (Nat → Nat → Int32) × (Nat → Int32)} (hX : xIs (j1_join) X none none (hG v.1 v.2 c_table c_rowNames c_columnNames c_rows c_columns c_scale)) (hf : F1_join x1 x2 c_picks c_many = some v) : xV (j1_join) X 0 0 (hG c_picks c_many c_table c_rowNames c_columnNames c_rows c_columns c_scale) 0 [(0, .ref 0), (1, .int x1), (2, .int x2)] [] := by
  unfold F1_join at hf
  refine xV_aload_n 1 rfl dX1_join_0 rfl 0 rfl ?_
  refine xV_get (v := .ref 4) 4 rfl dX1_join_1 f1_16 rfl rfl ?_
  refine xV_iload_n 5 rfl dX1_join_4 rfl 1 rfl ?_
  obtain ⟨hg5, hf⟩ := xg_s hf
  refine xV_iaload 6 rfl dX1_join_5 rfl (xin_ok hg5) rfl ?_
  refine xV_bipush 8 rfl dX1_join_6 xy_b6 ?_
  refine xV_icmp_ge (tgt := 35) 11 rfl dX1_join_8 (by decide) (fun h8 => ?_) (fun h8 => ?_)
  · have hf := xif_t hf h8
    obtain rfl := Option.some.inj hf
    exact xV_vret hX dX1_join_35 (Nat.zero_le _) (Nat.zero_le _)
  · have hf := xif_f hf h8
    refine xV_aload_n 12 rfl dX1_join_11 rfl 0 rfl ?_
    refine xV_get (v := .ref 1) 15 rfl dX1_join_12 f1_11 rfl rfl ?_
    refine xV_iload_n 16 rfl dX1_join_15 rfl 1 rfl ?_
    obtain ⟨hg16, hf⟩ := xg_s hf
    refine xV_aaload (b := (2 + (xn x1))) 17 rfl dX1_join_16 rfl rfl rfl (xin_ok hg16) (by show ([2, 3] : List Nat)[(xn x1)]? = some (2 + (xn x1)); have hi := xin_lt hg16; generalize (xn x1) = i at hi ⊢; match i, hi with | 0, _ => rfl | 1, _ => rfl) ?_
    refine xV_aload_n 18 rfl dX1_join_17 rfl 0 rfl ?_
    refine xV_get (v := .ref 4) 21 rfl dX1_join_18 f1_16 rfl rfl ?_
    refine xV_iload_n 22 rfl dX1_join_21 rfl 1 rfl ?_
    obtain ⟨hg22, hf⟩ := xg_s hf
    refine xV_iaload 23 rfl dX1_join_22 rfl (xin_ok hg22) rfl ?_
    refine xV_iload_n 24 rfl dX1_join_23 rfl 2 rfl ?_
    obtain ⟨hg24, hf⟩ := xg_s hf
    refine xV_iastore (f := (c_picks (xn x1))) (z := 6) (h' := (hG (va_up c_picks (xn x1) (upd (c_picks (xn x1)) (xn (c_many (xn x1))) x2)) c_many c_table c_rowNames c_columnNames c_rows c_columns c_scale)) (j := (xn (c_many (xn x1)))) 25 rfl dX1_join_24 (by have hi := (xin_lt hg16); generalize (xn x1) = i at hi ⊢; match i, hi with | 0, _ => exact rfl | 1, _ => exact rfl) (xin_ok hg24) rfl (by have hi := (xin_lt hg16); generalize (xn x1) = i at hi ⊢; match i, hi with | 0, _ => exact rfl | 1, _ => exact rfl) ?_
    refine xV_aload_n 26 rfl dX1_join_25 rfl 0 rfl ?_
    refine xV_get (v := .ref 4) 29 rfl dX1_join_26 f1_16 rfl rfl ?_
    refine xV_iload_n 30 rfl dX1_join_29 rfl 1 rfl ?_
    refine xV_dup2 31 rfl dX1_join_30 rfl rfl ?_
    obtain ⟨hg31, hf⟩ := xg_s hf
    refine xV_iaload 32 rfl dX1_join_31 rfl (xin_ok hg31) rfl ?_
    refine xV_iconst 33 rfl dX1_join_32 xy_i1 ?_
    refine xV_iadd 34 rfl dX1_join_33 ?_
    obtain ⟨hg34, hf⟩ := xg_s hf
    refine xV_iastore (h' := (hG (va_up c_picks (xn x1) (upd (c_picks (xn x1)) (xn (c_many (xn x1))) x2)) (upd c_many (xn x1) ((c_many (xn x1)) + (1 : Int32))) c_table c_rowNames c_columnNames c_rows c_columns c_scale)) (j := (xn x1)) 35 rfl dX1_join_34 rfl (xin_ok hg34) rfl rfl ?_
    obtain rfl := Option.some.inj hf
    exact xV_vret hX dX1_join_35 (Nat.zero_le _) (Nat.zero_le _)
theorem C1_join (l : Launch) {x1 : Int32} {x2 : Int32} {c_picks : (Nat → Nat → Int32)} {c_many : (Nat → Int32)} {c_table : (Nat → Nat → Int64)} {c_rowNames : (Nat → Int32)} {c_columnNames : (Nat → Int32)} {c_rows : Int32} {c_columns : Int32} {c_scale : Int64} {v : (Nat → Nat → Int32) × (Nat → Int32)} (hf : F1_join x1 x2 c_picks c_many = some v) : xCt l yX1_join none j1_join [.ref 0, .int x1, .int x2] (hG c_picks c_many c_table c_rowNames c_columnNames c_rows c_columns c_scale) none (hG v.1 v.2 c_table c_rowNames c_columnNames c_rows c_columns c_scale) := xCt_of (by decide) rfl (Nat.le_of_ble_eq_true rfl) (fun _ hX => T1_join hX hf)
theorem m1_join : xMd yX1_join RX1 none j1_join 2 := ⟨List.mem_of_getElem? (i := 999) (by decide +kernel), List.mem_of_getElem? (i := 37) (by decide +kernel), rfl, by decide +kernel⟩
theorem v1_join : xMv yX1_join RX1 := ⟨List.mem_of_getElem? (i := 997) (by decide +kernel), List.mem_of_getElem? (i := 998) (by decide +kernel)⟩
theorem dX1_leaveOut_0 : decode cX1_leaveOut 0 = .ok (.aload_n 0, 1) := by decide +kernel
theorem dX1_leaveOut_1 : decode cX1_leaveOut 1 = .ok (.getfield 16, 3) := by decide +kernel
theorem dX1_leaveOut_4 : decode cX1_leaveOut 4 = .ok (.iload_n 1, 1) := by decide +kernel
theorem dX1_leaveOut_5 : decode cX1_leaveOut 5 = .ok (.dup2, 1) := by decide +kernel
theorem dX1_leaveOut_6 : decode cX1_leaveOut 6 = .ok (.iaload, 1) := by decide +kernel
theorem dX1_leaveOut_7 : decode cX1_leaveOut 7 = .ok (.iconst 1, 1) := by decide +kernel
theorem dX1_leaveOut_8 : decode cX1_leaveOut 8 = .ok (.isub, 1) := by decide +kernel
theorem dX1_leaveOut_9 : decode cX1_leaveOut 9 = .ok (.iastore, 1) := by decide +kernel
theorem dX1_leaveOut_10 : decode cX1_leaveOut 10 = .ok (.iload_n 2, 1) := by decide +kernel
theorem dX1_leaveOut_11 : decode cX1_leaveOut 11 = .ok (.istore_n 3, 1) := by decide +kernel
theorem dX1_leaveOut_12 : decode cX1_leaveOut 12 = .ok (.iload_n 3, 1) := by decide +kernel
theorem dX1_leaveOut_13 : decode cX1_leaveOut 13 = .ok (.aload_n 0, 1) := by decide +kernel
theorem dX1_leaveOut_14 : decode cX1_leaveOut 14 = .ok (.getfield 16, 3) := by decide +kernel
theorem dX1_leaveOut_17 : decode cX1_leaveOut 17 = .ok (.iload_n 1, 1) := by decide +kernel
theorem dX1_leaveOut_18 : decode cX1_leaveOut 18 = .ok (.iaload, 1) := by decide +kernel
theorem dX1_leaveOut_19 : decode cX1_leaveOut 19 = .ok (.if_icmp .ge 27, 3) := by decide +kernel
theorem dX1_leaveOut_22 : decode cX1_leaveOut 22 = .ok (.aload_n 0, 1) := by decide +kernel
theorem dX1_leaveOut_23 : decode cX1_leaveOut 23 = .ok (.getfield 11, 3) := by decide +kernel
theorem dX1_leaveOut_26 : decode cX1_leaveOut 26 = .ok (.iload_n 1, 1) := by decide +kernel
theorem dX1_leaveOut_27 : decode cX1_leaveOut 27 = .ok (.aaload, 1) := by decide +kernel
theorem dX1_leaveOut_28 : decode cX1_leaveOut 28 = .ok (.iload_n 3, 1) := by decide +kernel
theorem dX1_leaveOut_29 : decode cX1_leaveOut 29 = .ok (.aload_n 0, 1) := by decide +kernel
theorem dX1_leaveOut_30 : decode cX1_leaveOut 30 = .ok (.getfield 11, 3) := by decide +kernel
theorem dX1_leaveOut_33 : decode cX1_leaveOut 33 = .ok (.iload_n 1, 1) := by decide +kernel
theorem dX1_leaveOut_34 : decode cX1_leaveOut 34 = .ok (.aaload, 1) := by decide +kernel
theorem dX1_leaveOut_35 : decode cX1_leaveOut 35 = .ok (.iload_n 3, 1) := by decide +kernel
theorem dX1_leaveOut_36 : decode cX1_leaveOut 36 = .ok (.iconst 1, 1) := by decide +kernel
theorem dX1_leaveOut_37 : decode cX1_leaveOut 37 = .ok (.iadd, 1) := by decide +kernel
theorem dX1_leaveOut_38 : decode cX1_leaveOut 38 = .ok (.iaload, 1) := by decide +kernel
theorem dX1_leaveOut_39 : decode cX1_leaveOut 39 = .ok (.iastore, 1) := by decide +kernel
theorem dX1_leaveOut_40 : decode cX1_leaveOut 40 = .ok (.iinc 3 1, 3) := by decide +kernel
theorem dX1_leaveOut_43 : decode cX1_leaveOut 43 = .ok (.goto (-31), 3) := by decide +kernel
theorem dX1_leaveOut_46 : decode cX1_leaveOut 46 = .ok (.return_, 1) := by decide +kernel
abbrev j1_leaveOut : xJ := (cX1_leaveOut, 4, RX1, 1, 0, 0)
def F1_leaveOut_b12 (z : Nat) (w : Nat) (x1 : Int32) (x3 : Int32) (c_picks : (Nat → Nat → Int32)) (c_many : (Nat → Int32)) : Option ((Nat → Nat → Int32) × (Nat → Int32)) := match w with
  | 0 => none
  | w + 1 => xg (xin x1 2) (if (c_many (xn x1)) ≤ x3 then (some (c_picks, c_many)) else (xg (xin x1 2) (xg (xin x1 2) (xg (xin (x3 + (1 : Int32)) 6) (xg (xin x3 6) (F1_leaveOut_b12 z w x1 (x3 + (1 : Int32)) (va_up c_picks (xn x1) (upd (c_picks (xn x1)) (xn x3) ((c_picks (xn x1)) (xn (x3 + (1 : Int32)))))) c_many))))))
theorem T1_leaveOut_b12 {X : xX} {c_table : (Nat → Nat → Int64)} {c_rowNames : (Nat → Int32)} {c_columnNames : (Nat → Int32)} {c_rows : Int32} {c_columns : Int32} {c_scale : Int64} {z : Nat} {v : (Nat → Nat → Int32) × (Nat → Int32)} (hX : xIs (j1_leaveOut) X none none (hG v.1 v.2 c_table c_rowNames c_columnNames c_rows c_columns c_scale)) : ∀ (w : Nat) {x1 : Int32} {x3 : Int32} {c_picks : (Nat → Nat → Int32)} {c_many : (Nat → Int32)}, F1_leaveOut_b12 z w x1 x3 c_picks c_many = some v → xV (j1_leaveOut) X 0 0 (hG c_picks c_many c_table c_rowNames c_columnNames c_rows c_columns c_scale) 12 [(0, .ref 0), (1, .int x1), (3, .int x3)] [] := by
  intro w
  induction w with
  | zero => intro x1 x3 c_picks c_many hf; cases hf
  | succ w ih =>
    intro x1 x3 c_picks c_many hf
    unfold F1_leaveOut_b12 at hf
    refine xV_iload_n 13 rfl dX1_leaveOut_12 rfl 2 rfl ?_
    refine xV_aload_n 14 rfl dX1_leaveOut_13 rfl 0 rfl ?_
    refine xV_get (v := .ref 4) 17 rfl dX1_leaveOut_14 f1_16 rfl rfl ?_
    refine xV_iload_n 18 rfl dX1_leaveOut_17 rfl 1 rfl ?_
    obtain ⟨hg18, hf⟩ := xg_s hf
    refine xV_iaload 19 rfl dX1_leaveOut_18 rfl (xin_ok hg18) rfl ?_
    refine xV_icmp_ge (tgt := 46) 22 rfl dX1_leaveOut_19 (by decide) (fun h19 => ?_) (fun h19 => ?_)
    · have hf := xif_t hf h19
      obtain rfl := Option.some.inj hf
      exact xV_vret hX dX1_leaveOut_46 (Nat.zero_le _) (Nat.zero_le _)
    · have hf := xif_f hf h19
      refine xV_aload_n 23 rfl dX1_leaveOut_22 rfl 0 rfl ?_
      refine xV_get (v := .ref 1) 26 rfl dX1_leaveOut_23 f1_11 rfl rfl ?_
      refine xV_iload_n 27 rfl dX1_leaveOut_26 rfl 1 rfl ?_
      obtain ⟨hg27, hf⟩ := xg_s hf
      refine xV_aaload (b := (2 + (xn x1))) 28 rfl dX1_leaveOut_27 rfl rfl rfl (xin_ok hg27) (by show ([2, 3] : List Nat)[(xn x1)]? = some (2 + (xn x1)); have hi := xin_lt hg27; generalize (xn x1) = i at hi ⊢; match i, hi with | 0, _ => rfl | 1, _ => rfl) ?_
      refine xV_iload_n 29 rfl dX1_leaveOut_28 rfl 2 rfl ?_
      refine xV_aload_n 30 rfl dX1_leaveOut_29 rfl 0 rfl ?_
      refine xV_get (v := .ref 1) 33 rfl dX1_leaveOut_30 f1_11 rfl rfl ?_
      refine xV_iload_n 34 rfl dX1_leaveOut_33 rfl 1 rfl ?_
      obtain ⟨hg34, hf⟩ := xg_s hf
      refine xV_aaload (b := (2 + (xn x1))) 35 rfl dX1_leaveOut_34 rfl rfl rfl (xin_ok hg34) (by show ([2, 3] : List Nat)[(xn x1)]? = some (2 + (xn x1)); have hi := xin_lt hg34; generalize (xn x1) = i at hi ⊢; match i, hi with | 0, _ => rfl | 1, _ => rfl) ?_
      refine xV_iload_n 36 rfl dX1_leaveOut_35 rfl 2 rfl ?_
      refine xV_iconst 37 rfl dX1_leaveOut_36 xy_i1 ?_
      refine xV_iadd 38 rfl dX1_leaveOut_37 ?_
      obtain ⟨hg38, hf⟩ := xg_s hf
      refine xV_iaload (f := (c_picks (xn x1))) (z := 6) 39 rfl dX1_leaveOut_38 (by have hi := (xin_lt hg34); generalize (xn x1) = i at hi ⊢; match i, hi with | 0, _ => exact rfl | 1, _ => exact rfl) (xin_ok hg38) rfl ?_
      obtain ⟨hg39, hf⟩ := xg_s hf
      refine xV_iastore (f := (c_picks (xn x1))) (z := 6) (h' := (hG (va_up c_picks (xn x1) (upd (c_picks (xn x1)) (xn x3) ((c_picks (xn x1)) (xn (x3 + (1 : Int32)))))) c_many c_table c_rowNames c_columnNames c_rows c_columns c_scale)) (j := (xn x3)) 40 rfl dX1_leaveOut_39 (by have hi := (xin_lt hg34); generalize (xn x1) = i at hi ⊢; match i, hi with | 0, _ => exact rfl | 1, _ => exact rfl) (xin_ok hg39) rfl (by have hi := (xin_lt hg34); generalize (xn x1) = i at hi ⊢; match i, hi with | 0, _ => exact rfl | 1, _ => exact rfl) ?_
      refine xV_iinc (L' := [(3, .int (x3 + (1 : Int32))), (0, .ref 0), (1, .int x1)]) 43 rfl dX1_leaveOut_40 2 rfl (xk_inc xy_i1) (xlt rfl) rfl ?_
      refine xV_goto (tgt := 12) dX1_leaveOut_43 (by decide) ?_
      refine xV_sub [1, 2, 0] rfl ?_
      exact ih hf
def F1_leaveOut (z : Nat) (x1 : Int32) (x2 : Int32) (c_picks : (Nat → Nat → Int32)) (c_many : (Nat → Int32)) : Option ((Nat → Nat → Int32) × (Nat → Int32)) :=
  xg (xin x1 2) (xg (xin x1 2) (F1_leaveOut_b12 z z x1 x2 c_picks (upd c_many (xn x1) ((c_many (xn x1)) - (1 : Int32)))))
theorem T1_leaveOut {X : xX} {z : Nat} {x1 : Int32} {x2 : Int32} {c_picks : (Nat → Nat → Int32)} {c_many : (Nat → Int32)} {c_table : (Nat → Nat → Int64)} {c_rowNames : (Nat → Int32)} {c_columnNames : (Nat → Int32)} {c_rows : Int32} {c_columns : Int32} {c_scale : Int64} {v : (Nat → Nat → Int32) × (Nat → Int32)} (hX : xIs (j1_leaveOut) X none none (hG v.1 v.2 c_table c_rowNames c_columnNames c_rows c_columns c_scale)) (hf : F1_leaveOut z x1 x2 c_picks c_many = some v) : xV (j1_leaveOut) X 0 0 (hG c_picks c_many c_table c_rowNames c_columnNames c_rows c_columns c_scale) 0 [(0, .ref 0), (1, .int x1), (2, .int x2)] [] := by
  unfold F1_leaveOut at hf
  refine xV_aload_n 1 rfl dX1_leaveOut_0 rfl 0 rfl ?_
  refine xV_get (v := .ref 4) 4 rfl dX1_leaveOut_1 f1_16 rfl rfl ?_
  refine xV_iload_n 5 rfl dX1_leaveOut_4 rfl 1 rfl ?_
  refine xV_dup2 6 rfl dX1_leaveOut_5 rfl rfl ?_
  obtain ⟨hg6, hf⟩ := xg_s hf
  refine xV_iaload 7 rfl dX1_leaveOut_6 rfl (xin_ok hg6) rfl ?_
  refine xV_iconst 8 rfl dX1_leaveOut_7 xy_i1 ?_
  refine xV_isub 9 rfl dX1_leaveOut_8 ?_
  obtain ⟨hg9, hf⟩ := xg_s hf
  refine xV_iastore (h' := (hG c_picks (upd c_many (xn x1) ((c_many (xn x1)) - (1 : Int32))) c_table c_rowNames c_columnNames c_rows c_columns c_scale)) (j := (xn x1)) 10 rfl dX1_leaveOut_9 rfl (xin_ok hg9) rfl rfl ?_
  refine xV_iload_n 11 rfl dX1_leaveOut_10 rfl 2 rfl ?_
  refine xV_istore_n (L' := [(3, .int x2), (0, .ref 0), (1, .int x1), (2, .int x2)]) 12 rfl dX1_leaveOut_11 rfl (xlt rfl) rfl ?_
  refine xV_sub [1, 2, 0] rfl ?_
  exact T1_leaveOut_b12 hX _ hf
theorem C1_leaveOut (l : Launch) {z : Nat} {x1 : Int32} {x2 : Int32} {c_picks : (Nat → Nat → Int32)} {c_many : (Nat → Int32)} {c_table : (Nat → Nat → Int64)} {c_rowNames : (Nat → Int32)} {c_columnNames : (Nat → Int32)} {c_rows : Int32} {c_columns : Int32} {c_scale : Int64} {v : (Nat → Nat → Int32) × (Nat → Int32)} (hf : F1_leaveOut z x1 x2 c_picks c_many = some v) : xCt l yX1_leaveOut none j1_leaveOut [.ref 0, .int x1, .int x2] (hG c_picks c_many c_table c_rowNames c_columnNames c_rows c_columns c_scale) none (hG v.1 v.2 c_table c_rowNames c_columnNames c_rows c_columns c_scale) := xCt_of (by decide) rfl (Nat.le_of_ble_eq_true rfl) (fun _ hX => T1_leaveOut hX hf)
theorem m1_leaveOut : xMd yX1_leaveOut RX1 none j1_leaveOut 2 := ⟨List.mem_of_getElem? (i := 1011) (by decide +kernel), List.mem_of_getElem? (i := 37) (by decide +kernel), rfl, by decide +kernel⟩
theorem v1_leaveOut : xMv yX1_leaveOut RX1 := ⟨List.mem_of_getElem? (i := 1009) (by decide +kernel), List.mem_of_getElem? (i := 1010) (by decide +kernel)⟩
theorem xy_in0_7 : vp_in (0 : Int32) 7 := xin_ok (by decide)
theorem xy_b9 : (Int8.ofInt (9)).toInt32 = (9 : Int32) := by decide
theorem f1_60 : xFl RX1 60 1 6 := ⟨_, rfl, by decide, List.mem_of_getElem? (i := 875) (by decide +kernel)⟩
theorem nf1_6 : ∀ q : vw_C, vwCl[1]? = some q → (q.2.1 6).2.2.2 = false := fun q e => by cases e; rfl
theorem f1_57 : xFl RX1 57 1 5 := ⟨_, rfl, by decide, List.mem_of_getElem? (i := 876) (by decide +kernel)⟩
theorem nf1_5 : ∀ q : vw_C, vwCl[1]? = some q → (q.2.1 5).2.2.2 = false := fun q e => by cases e; rfl
theorem f1_63 : xFl RX1 63 1 7 := ⟨_, rfl, by decide, List.mem_of_getElem? (i := 877) (by decide +kernel)⟩
theorem nf1_7 : ∀ q : vw_C, vwCl[1]? = some q → (q.2.1 7).2.2.2 = false := fun q e => by cases e; rfl
theorem f1_28 : xFl RX1 28 1 4 := ⟨_, rfl, by decide, List.mem_of_getElem? (i := 117) (by decide +kernel)⟩
theorem f1_22 : xFl RX1 22 1 2 := ⟨_, rfl, by decide, List.mem_of_getElem? (i := 115) (by decide +kernel)⟩
theorem q1_70 : Jvm.Cond.constantLong RX1 70 (-1) ∈ wsL_law0 := List.mem_of_getElem? (i := 878) (by decide +kernel)
theorem k1_72 : Cond.methodLink RX1 72 yX4_gainFor ∈ wsL_law0 := List.mem_of_getElem? (i := 879) (by decide +kernel)
theorem f1_25 : xFl RX1 25 1 3 := ⟨_, rfl, by decide, List.mem_of_getElem? (i := 116) (by decide +kernel)⟩
theorem e_GS_S_L15 {c_picks : (Nat → Nat → Int32)} {c_many : (Nat → Int32)} {c_table : (Nat → Nat → Int64)} {c_rowNames : (Nat → Int32)} {c_columnNames : (Nat → Int32)} {c_rows : Int32} {c_columns : Int32} {c_scale : Int64} {c_s_fields : Int32} {c_s_ties : Int32} {c_s_worth : (Nat → Int32)} {c_s_forces : (Nat → Int32)} {c_s_many : (Nat → Int32)} {c_s_codes : (Nat → Nat → Int32)} {c_s_b_list : (Nat → Nat → Int32)} {c_s_b_many : (Nat → Int32)} {c_s_p_list : (Nat → Nat → Int32)} {c_s_p_weights : (Nat → Nat → Int32)} {c_s_p_drawn : (Nat → Nat → Int32)} {c_s_p_many : (Nat → Int32)} {c_s_p_all : (Nat → Int32)} {c_s_p_turns : (Nat → Int32)} {d_fields : Int32} {d_ties : Int32} {d_worth : (Nat → Int32)} {d_forces : (Nat → Int32)} {d_many : (Nat → Int32)} {d_codes : (Nat → Nat → Int32)} {d_b_list : (Nat → Nat → Int32)} {d_b_many : (Nat → Int32)} {d_p_list : (Nat → Nat → Int32)} {d_p_weights : (Nat → Nat → Int32)} {d_p_drawn : (Nat → Nat → Int32)} {d_p_many : (Nat → Int32)} {d_p_all : (Nat → Int32)} {d_p_turns : (Nat → Int32)} : xEmb (fun j => 15 + j) (hS c_s_fields c_s_ties c_s_worth c_s_forces c_s_many c_s_codes c_s_b_list c_s_b_many c_s_p_list c_s_p_weights c_s_p_drawn c_s_p_many c_s_p_all c_s_p_turns) (hS d_fields d_ties d_worth d_forces d_many d_codes d_b_list d_b_many d_p_list d_p_weights d_p_drawn d_p_many d_p_all d_p_turns) (hGS c_picks c_many c_table c_rowNames c_columnNames c_rows c_columns c_scale c_s_fields c_s_ties c_s_worth c_s_forces c_s_many c_s_codes c_s_b_list c_s_b_many c_s_p_list c_s_p_weights c_s_p_drawn c_s_p_many c_s_p_all c_s_p_turns) (hGS c_picks c_many c_table c_rowNames c_columnNames c_rows c_columns c_scale d_fields d_ties d_worth d_forces d_many d_codes d_b_list d_b_many d_p_list d_p_weights d_p_drawn d_p_many d_p_all d_p_turns) 4 := ⟨by show xNd _ 21 = true; decide +kernel, And.intro hGS_15 (And.intro hGS_16 (And.intro hGS_17 (And.intro hGS_18 (And.intro hGS_19 (And.intro hGS_20 (And.intro hGS_21 (And.intro hGS_22 (And.intro hGS_23 (And.intro hGS_24 (And.intro hGS_25 (And.intro hGS_26 (And.intro hGS_27 (And.intro hGS_28 (And.intro hGS_29 (And.intro hGS_30 (And.intro hGS_31 (And.intro hGS_32 (And.intro hGS_33 (And.intro hGS_34 (And.intro hGS_35 (trivial))))))))))))))))))))), And.intro hGS_15 (And.intro hGS_16 (And.intro hGS_17 (And.intro hGS_18 (And.intro hGS_19 (And.intro hGS_20 (And.intro hGS_21 (And.intro hGS_22 (And.intro hGS_23 (And.intro hGS_24 (And.intro hGS_25 (And.intro hGS_26 (And.intro hGS_27 (And.intro hGS_28 (And.intro hGS_29 (And.intro hGS_30 (And.intro hGS_31 (And.intro hGS_32 (And.intro hGS_33 (And.intro hGS_34 (And.intro hGS_35 (trivial))))))))))))))))))))), ⟨[0, 1, 2, 3, 4, 5, 6, 7, 8, 9, 10, 11, 12, 13, 14], And.intro (xeq3 hGS_0 hGS_0 rfl) (And.intro (xeq3 hGS_1 hGS_1 rfl) (And.intro (xeq3 hGS_2 hGS_2 rfl) (And.intro (xeq3 hGS_3 hGS_3 rfl) (And.intro (xeq3 hGS_4 hGS_4 rfl) (And.intro (xeq3 hGS_5 hGS_5 rfl) (And.intro (xeq3 hGS_6 hGS_6 rfl) (And.intro (xeq3 hGS_7 hGS_7 rfl) (And.intro (xeq3 hGS_8 hGS_8 rfl) (And.intro (xeq3 hGS_9 hGS_9 rfl) (And.intro (xeq3 hGS_10 hGS_10 rfl) (And.intro (xeq3 hGS_11 hGS_11 rfl) (And.intro (xeq3 hGS_12 hGS_12 rfl) (And.intro (xeq3 hGS_13 hGS_13 rfl) (And.intro (xeq3 hGS_14 hGS_14 rfl) (trivial))))))))))))))), by show xCov _ 21 _ 36 = true; decide +kernel⟩, rfl, ⟨_, hGS_15⟩⟩
theorem dX1_fill_0 : decode cX1_fill 0 = .ok (.aload_n 0, 1) := by decide +kernel
theorem dX1_fill_1 : decode cX1_fill 1 = .ok (.aload_n 0, 1) := by decide +kernel
theorem dX1_fill_2 : decode cX1_fill 2 = .ok (.getfield 16, 3) := by decide +kernel
theorem dX1_fill_5 : decode cX1_fill 5 = .ok (.iload_n 2, 1) := by decide +kernel
theorem dX1_fill_6 : decode cX1_fill 6 = .ok (.iaload, 1) := by decide +kernel
theorem dX1_fill_7 : decode cX1_fill 7 = .ok (.putfield 60, 3) := by decide +kernel
theorem dX1_fill_10 : decode cX1_fill 10 = .ok (.aload_n 0, 1) := by decide +kernel
theorem dX1_fill_11 : decode cX1_fill 11 = .ok (.aload_n 0, 1) := by decide +kernel
theorem dX1_fill_12 : decode cX1_fill 12 = .ok (.getfield 16, 3) := by decide +kernel
theorem dX1_fill_15 : decode cX1_fill 15 = .ok (.iconst 1, 1) := by decide +kernel
theorem dX1_fill_16 : decode cX1_fill 16 = .ok (.iload_n 2, 1) := by decide +kernel
theorem dX1_fill_17 : decode cX1_fill 17 = .ok (.isub, 1) := by decide +kernel
theorem dX1_fill_18 : decode cX1_fill 18 = .ok (.iaload, 1) := by decide +kernel
theorem dX1_fill_19 : decode cX1_fill 19 = .ok (.putfield 57, 3) := by decide +kernel
theorem dX1_fill_22 : decode cX1_fill 22 = .ok (.aload_n 0, 1) := by decide +kernel
theorem dX1_fill_23 : decode cX1_fill 23 = .ok (.lconst 1, 1) := by decide +kernel
theorem dX1_fill_24 : decode cX1_fill 24 = .ok (.putfield 63, 3) := by decide +kernel
theorem dX1_fill_27 : decode cX1_fill 27 = .ok (.iconst 0, 1) := by decide +kernel
theorem dX1_fill_28 : decode cX1_fill 28 = .ok (.istore_n 3, 1) := by decide +kernel
theorem dX1_fill_29 : decode cX1_fill 29 = .ok (.iload_n 3, 1) := by decide +kernel
theorem dX1_fill_30 : decode cX1_fill 30 = .ok (.aload_n 0, 1) := by decide +kernel
theorem dX1_fill_31 : decode cX1_fill 31 = .ok (.getfield 60, 3) := by decide +kernel
theorem dX1_fill_34 : decode cX1_fill 34 = .ok (.if_icmp .ge 85, 3) := by decide +kernel
theorem dX1_fill_37 : decode cX1_fill 37 = .ok (.aload_n 0, 1) := by decide +kernel
theorem dX1_fill_38 : decode cX1_fill 38 = .ok (.getfield 28, 3) := by decide +kernel
theorem dX1_fill_41 : decode cX1_fill 41 = .ok (.iload_n 3, 1) := by decide +kernel
theorem dX1_fill_42 : decode cX1_fill 42 = .ok (.iload_n 3, 1) := by decide +kernel
theorem dX1_fill_43 : decode cX1_fill 43 = .ok (.iastore, 1) := by decide +kernel
theorem dX1_fill_44 : decode cX1_fill 44 = .ok (.aload_n 0, 1) := by decide +kernel
theorem dX1_fill_45 : decode cX1_fill 45 = .ok (.getfield 22, 3) := by decide +kernel
theorem dX1_fill_48 : decode cX1_fill 48 = .ok (.aload_n 0, 1) := by decide +kernel
theorem dX1_fill_49 : decode cX1_fill 49 = .ok (.getfield 57, 3) := by decide +kernel
theorem dX1_fill_52 : decode cX1_fill 52 = .ok (.aaload, 1) := by decide +kernel
theorem dX1_fill_53 : decode cX1_fill 53 = .ok (.iload_n 3, 1) := by decide +kernel
theorem dX1_fill_54 : decode cX1_fill 54 = .ok (.ldc2_w 70, 3) := by decide +kernel
theorem dX1_fill_57 : decode cX1_fill 57 = .ok (.lastore, 1) := by decide +kernel
theorem dX1_fill_58 : decode cX1_fill 58 = .ok (.iconst 0, 1) := by decide +kernel
theorem dX1_fill_59 : decode cX1_fill 59 = .ok (.istore 4, 2) := by decide +kernel
theorem dX1_fill_61 : decode cX1_fill 61 = .ok (.iload 4, 2) := by decide +kernel
theorem dX1_fill_63 : decode cX1_fill 63 = .ok (.aload_n 0, 1) := by decide +kernel
theorem dX1_fill_64 : decode cX1_fill 64 = .ok (.getfield 57, 3) := by decide +kernel
theorem dX1_fill_67 : decode cX1_fill 67 = .ok (.if_icmp .ge 46, 3) := by decide +kernel
theorem dX1_fill_70 : decode cX1_fill 70 = .ok (.aload_n 0, 1) := by decide +kernel
theorem dX1_fill_71 : decode cX1_fill 71 = .ok (.getfield 22, 3) := by decide +kernel
theorem dX1_fill_74 : decode cX1_fill 74 = .ok (.iload 4, 2) := by decide +kernel
theorem dX1_fill_76 : decode cX1_fill 76 = .ok (.aaload, 1) := by decide +kernel
theorem dX1_fill_77 : decode cX1_fill 77 = .ok (.iload_n 3, 1) := by decide +kernel
theorem dX1_fill_78 : decode cX1_fill 78 = .ok (.bipush 9, 2) := by decide +kernel
theorem dX1_fill_80 : decode cX1_fill 80 = .ok (.aload_n 1, 1) := by decide +kernel
theorem dX1_fill_81 : decode cX1_fill 81 = .ok (.iload_n 2, 1) := by decide +kernel
theorem dX1_fill_82 : decode cX1_fill 82 = .ok (.aload_n 0, 1) := by decide +kernel
theorem dX1_fill_83 : decode cX1_fill 83 = .ok (.getfield 11, 3) := by decide +kernel
theorem dX1_fill_86 : decode cX1_fill 86 = .ok (.iload_n 2, 1) := by decide +kernel
theorem dX1_fill_87 : decode cX1_fill 87 = .ok (.aaload, 1) := by decide +kernel
theorem dX1_fill_88 : decode cX1_fill 88 = .ok (.iload_n 3, 1) := by decide +kernel
theorem dX1_fill_89 : decode cX1_fill 89 = .ok (.iaload, 1) := by decide +kernel
theorem dX1_fill_90 : decode cX1_fill 90 = .ok (.aload_n 0, 1) := by decide +kernel
theorem dX1_fill_91 : decode cX1_fill 91 = .ok (.getfield 11, 3) := by decide +kernel
theorem dX1_fill_94 : decode cX1_fill 94 = .ok (.iconst 1, 1) := by decide +kernel
theorem dX1_fill_95 : decode cX1_fill 95 = .ok (.iload_n 2, 1) := by decide +kernel
theorem dX1_fill_96 : decode cX1_fill 96 = .ok (.isub, 1) := by decide +kernel
theorem dX1_fill_97 : decode cX1_fill 97 = .ok (.aaload, 1) := by decide +kernel
theorem dX1_fill_98 : decode cX1_fill 98 = .ok (.iload 4, 2) := by decide +kernel
theorem dX1_fill_100 : decode cX1_fill 100 = .ok (.iaload, 1) := by decide +kernel
theorem dX1_fill_101 : decode cX1_fill 101 = .ok (.invokevirtual 72, 3) := by decide +kernel
theorem dX1_fill_104 : decode cX1_fill 104 = .ok (.isub, 1) := by decide +kernel
theorem dX1_fill_105 : decode cX1_fill 105 = .ok (.i2l, 1) := by decide +kernel
theorem dX1_fill_106 : decode cX1_fill 106 = .ok (.lastore, 1) := by decide +kernel
theorem dX1_fill_107 : decode cX1_fill 107 = .ok (.iinc 4 1, 3) := by decide +kernel
theorem dX1_fill_110 : decode cX1_fill 110 = .ok (.goto (-49), 3) := by decide +kernel
theorem dX1_fill_113 : decode cX1_fill 113 = .ok (.iinc 3 1, 3) := by decide +kernel
theorem dX1_fill_116 : decode cX1_fill 116 = .ok (.goto (-87), 3) := by decide +kernel
theorem dX1_fill_119 : decode cX1_fill 119 = .ok (.iconst 0, 1) := by decide +kernel
theorem dX1_fill_120 : decode cX1_fill 120 = .ok (.istore_n 3, 1) := by decide +kernel
theorem dX1_fill_121 : decode cX1_fill 121 = .ok (.iload_n 3, 1) := by decide +kernel
theorem dX1_fill_122 : decode cX1_fill 122 = .ok (.aload_n 0, 1) := by decide +kernel
theorem dX1_fill_123 : decode cX1_fill 123 = .ok (.getfield 57, 3) := by decide +kernel
theorem dX1_fill_126 : decode cX1_fill 126 = .ok (.if_icmp .ge 33, 3) := by decide +kernel
theorem dX1_fill_129 : decode cX1_fill 129 = .ok (.aload_n 0, 1) := by decide +kernel
theorem dX1_fill_130 : decode cX1_fill 130 = .ok (.getfield 25, 3) := by decide +kernel
theorem dX1_fill_133 : decode cX1_fill 133 = .ok (.iload_n 3, 1) := by decide +kernel
theorem dX1_fill_134 : decode cX1_fill 134 = .ok (.aload_n 0, 1) := by decide +kernel
theorem dX1_fill_135 : decode cX1_fill 135 = .ok (.getfield 60, 3) := by decide +kernel
theorem dX1_fill_138 : decode cX1_fill 138 = .ok (.iload_n 3, 1) := by decide +kernel
theorem dX1_fill_139 : decode cX1_fill 139 = .ok (.iadd, 1) := by decide +kernel
theorem dX1_fill_140 : decode cX1_fill 140 = .ok (.iastore, 1) := by decide +kernel
theorem dX1_fill_141 : decode cX1_fill 141 = .ok (.aload_n 0, 1) := by decide +kernel
theorem dX1_fill_142 : decode cX1_fill 142 = .ok (.getfield 22, 3) := by decide +kernel
theorem dX1_fill_145 : decode cX1_fill 145 = .ok (.iload_n 3, 1) := by decide +kernel
theorem dX1_fill_146 : decode cX1_fill 146 = .ok (.aaload, 1) := by decide +kernel
theorem dX1_fill_147 : decode cX1_fill 147 = .ok (.aload_n 0, 1) := by decide +kernel
theorem dX1_fill_148 : decode cX1_fill 148 = .ok (.getfield 60, 3) := by decide +kernel
theorem dX1_fill_151 : decode cX1_fill 151 = .ok (.lconst 1, 1) := by decide +kernel
theorem dX1_fill_152 : decode cX1_fill 152 = .ok (.lastore, 1) := by decide +kernel
theorem dX1_fill_153 : decode cX1_fill 153 = .ok (.iinc 3 1, 3) := by decide +kernel
theorem dX1_fill_156 : decode cX1_fill 156 = .ok (.goto (-35), 3) := by decide +kernel
theorem dX1_fill_159 : decode cX1_fill 159 = .ok (.aload_n 0, 1) := by decide +kernel
theorem dX1_fill_160 : decode cX1_fill 160 = .ok (.getfield 22, 3) := by decide +kernel
theorem dX1_fill_163 : decode cX1_fill 163 = .ok (.aload_n 0, 1) := by decide +kernel
theorem dX1_fill_164 : decode cX1_fill 164 = .ok (.getfield 57, 3) := by decide +kernel
theorem dX1_fill_167 : decode cX1_fill 167 = .ok (.aaload, 1) := by decide +kernel
theorem dX1_fill_168 : decode cX1_fill 168 = .ok (.aload_n 0, 1) := by decide +kernel
theorem dX1_fill_169 : decode cX1_fill 169 = .ok (.getfield 60, 3) := by decide +kernel
theorem dX1_fill_172 : decode cX1_fill 172 = .ok (.lconst 0, 1) := by decide +kernel
theorem dX1_fill_173 : decode cX1_fill 173 = .ok (.lastore, 1) := by decide +kernel
theorem dX1_fill_174 : decode cX1_fill 174 = .ok (.return_, 1) := by decide +kernel
abbrev j1_fill : xJ := (cX1_fill, 5, RX1, 3, 0, 0)
def F1_fill_b159 (z : Nat) (c_picks : (Nat → Nat → Int32)) (c_many : (Nat → Int32)) (c_table : (Nat → Nat → Int64)) (c_rowNames : (Nat → Int32)) (c_columnNames : (Nat → Int32)) (c_rows : Int32) (c_columns : Int32) (c_scale : Int64) (c_s_fields : Int32) (c_s_ties : Int32) (c_s_worth : (Nat → Int32)) (c_s_codes : (Nat → Nat → Int32)) : Option ((Nat → Nat → Int64) × (Nat → Int32) × (Nat → Int32) × Int32 × Int32 × Int64) :=
  xg (xin c_rows 7) (xg (xin c_columns 7) (some ((va_up c_table (xn c_rows) (vp_updL (c_table (xn c_rows)) (xn c_columns) (0 : Int64))), c_rowNames, c_columnNames, c_rows, c_columns, c_scale)))
theorem T1_fill_b159 {X : xX} {c_s_forces : (Nat → Int32)} {c_s_many : (Nat → Int32)} {c_s_b_list : (Nat → Nat → Int32)} {c_s_b_many : (Nat → Int32)} {c_s_p_list : (Nat → Nat → Int32)} {c_s_p_weights : (Nat → Nat → Int32)} {c_s_p_drawn : (Nat → Nat → Int32)} {c_s_p_many : (Nat → Int32)} {c_s_p_all : (Nat → Int32)} {c_s_p_turns : (Nat → Int32)} {c_picks : (Nat → Nat → Int32)} {c_many : (Nat → Int32)} {c_table : (Nat → Nat → Int64)} {c_rowNames : (Nat → Int32)} {c_columnNames : (Nat → Int32)} {c_rows : Int32} {c_columns : Int32} {c_scale : Int64} {c_s_fields : Int32} {c_s_ties : Int32} {c_s_worth : (Nat → Int32)} {c_s_codes : (Nat → Nat → Int32)} {z : Nat} {v : (Nat → Nat → Int64) × (Nat → Int32) × (Nat → Int32) × Int32 × Int32 × Int64} (hX : xIs (j1_fill) X none none (hGS c_picks c_many v.1 v.2.1 v.2.2.1 v.2.2.2.1 v.2.2.2.2.1 v.2.2.2.2.2 c_s_fields c_s_ties c_s_worth c_s_forces c_s_many c_s_codes c_s_b_list c_s_b_many c_s_p_list c_s_p_weights c_s_p_drawn c_s_p_many c_s_p_all c_s_p_turns)) (hf : F1_fill_b159 z c_picks c_many c_table c_rowNames c_columnNames c_rows c_columns c_scale c_s_fields c_s_ties c_s_worth c_s_codes = some v) : xV (j1_fill) X 0 0 (hGS c_picks c_many c_table c_rowNames c_columnNames c_rows c_columns c_scale c_s_fields c_s_ties c_s_worth c_s_forces c_s_many c_s_codes c_s_b_list c_s_b_many c_s_p_list c_s_p_weights c_s_p_drawn c_s_p_many c_s_p_all c_s_p_turns) 159 [(0, .ref 0)] [] := by
  unfold F1_fill_b159 at hf
  refine xV_aload_n 160 rfl dX1_fill_159 rfl 0 rfl ?_
  refine xV_get (v := .ref 5) 163 rfl dX1_fill_160 f1_22 rfl rfl ?_
  refine xV_aload_n 164 rfl dX1_fill_163 rfl 0 rfl ?_
  refine xV_get (v := .int c_rows) 167 rfl dX1_fill_164 f1_57 rfl rfl ?_
  obtain ⟨hg167, hf⟩ := xg_s hf
  refine xV_aaload (b := (6 + (xn c_rows))) 168 rfl dX1_fill_167 rfl rfl rfl (xin_ok hg167) (by show ([6, 7, 8, 9, 10, 11, 12] : List Nat)[(xn c_rows)]? = some (6 + (xn c_rows)); have hi := xin_lt hg167; generalize (xn c_rows) = i at hi ⊢; match i, hi with | 0, _ => rfl | 1, _ => rfl | 2, _ => rfl | 3, _ => rfl | 4, _ => rfl | 5, _ => rfl | 6, _ => rfl) ?_
  refine xV_aload_n 169 rfl dX1_fill_168 rfl 0 rfl ?_
  refine xV_get (v := .int c_columns) 172 rfl dX1_fill_169 f1_60 rfl rfl ?_
  refine xV_lconst (v := 0) 173 rfl dX1_fill_172 (by decide) ?_
  obtain ⟨hg173, hf⟩ := xg_s hf
  refine xV_lastore (f := (c_table (xn c_rows))) (z := 7) (h' := (hGS c_picks c_many (va_up c_table (xn c_rows) (vp_updL (c_table (xn c_rows)) (xn c_columns) (0 : Int64))) c_rowNames c_columnNames c_rows c_columns c_scale c_s_fields c_s_ties c_s_worth c_s_forces c_s_many c_s_codes c_s_b_list c_s_b_many c_s_p_list c_s_p_weights c_s_p_drawn c_s_p_many c_s_p_all c_s_p_turns)) (j := (xn c_columns)) 174 rfl dX1_fill_173 (by have hi := (xin_lt hg167); generalize (xn c_rows) = i at hi ⊢; match i, hi with | 0, _ => exact rfl | 1, _ => exact rfl | 2, _ => exact rfl | 3, _ => exact rfl | 4, _ => exact rfl | 5, _ => exact rfl | 6, _ => exact rfl) (xin_ok hg173) rfl (by have hi := (xin_lt hg167); generalize (xn c_rows) = i at hi ⊢; match i, hi with | 0, _ => exact rfl | 1, _ => exact rfl | 2, _ => exact rfl | 3, _ => exact rfl | 4, _ => exact rfl | 5, _ => exact rfl | 6, _ => exact rfl) ?_
  obtain rfl := Option.some.inj hf
  exact xV_vret hX dX1_fill_174 (Nat.zero_le _) (Nat.zero_le _)
def F1_fill_b121 (z : Nat) (w : Nat) (x3 : Int32) (c_picks : (Nat → Nat → Int32)) (c_many : (Nat → Int32)) (c_table : (Nat → Nat → Int64)) (c_rowNames : (Nat → Int32)) (c_columnNames : (Nat → Int32)) (c_rows : Int32) (c_columns : Int32) (c_scale : Int64) (c_s_fields : Int32) (c_s_ties : Int32) (c_s_worth : (Nat → Int32)) (c_s_codes : (Nat → Nat → Int32)) : Option ((Nat → Nat → Int64) × (Nat → Int32) × (Nat → Int32) × Int32 × Int32 × Int64) := match w with
  | 0 => none
  | w + 1 => if c_rows ≤ x3 then (F1_fill_b159 z c_picks c_many c_table c_rowNames c_columnNames c_rows c_columns c_scale c_s_fields c_s_ties c_s_worth c_s_codes) else (xg (xin x3 6) (xg (xin x3 7) (xg (xin c_columns 7) (F1_fill_b121 z w (x3 + (1 : Int32)) c_picks c_many (va_up c_table (xn x3) (vp_updL (c_table (xn x3)) (xn c_columns) (1 : Int64))) (upd c_rowNames (xn x3) (c_columns + x3)) c_columnNames c_rows c_columns c_scale c_s_fields c_s_ties c_s_worth c_s_codes))))
theorem T1_fill_b121 {X : xX} {c_picks : (Nat → Nat → Int32)} {c_many : (Nat → Int32)} {c_s_fields : Int32} {c_s_ties : Int32} {c_s_worth : (Nat → Int32)} {c_s_forces : (Nat → Int32)} {c_s_many : (Nat → Int32)} {c_s_codes : (Nat → Nat → Int32)} {c_s_b_list : (Nat → Nat → Int32)} {c_s_b_many : (Nat → Int32)} {c_s_p_list : (Nat → Nat → Int32)} {c_s_p_weights : (Nat → Nat → Int32)} {c_s_p_drawn : (Nat → Nat → Int32)} {c_s_p_many : (Nat → Int32)} {c_s_p_all : (Nat → Int32)} {c_s_p_turns : (Nat → Int32)} {z : Nat} {v : (Nat → Nat → Int64) × (Nat → Int32) × (Nat → Int32) × Int32 × Int32 × Int64} (hX : xIs (j1_fill) X none none (hGS c_picks c_many v.1 v.2.1 v.2.2.1 v.2.2.2.1 v.2.2.2.2.1 v.2.2.2.2.2 c_s_fields c_s_ties c_s_worth c_s_forces c_s_many c_s_codes c_s_b_list c_s_b_many c_s_p_list c_s_p_weights c_s_p_drawn c_s_p_many c_s_p_all c_s_p_turns)) : ∀ (w : Nat) {x3 : Int32} {c_table : (Nat → Nat → Int64)} {c_rowNames : (Nat → Int32)} {c_columnNames : (Nat → Int32)} {c_rows : Int32} {c_columns : Int32} {c_scale : Int64}, F1_fill_b121 z w x3 c_picks c_many c_table c_rowNames c_columnNames c_rows c_columns c_scale c_s_fields c_s_ties c_s_worth c_s_codes = some v → xV (j1_fill) X 0 0 (hGS c_picks c_many c_table c_rowNames c_columnNames c_rows c_columns c_scale c_s_fields c_s_ties c_s_worth c_s_forces c_s_many c_s_codes c_s_b_list c_s_b_many c_s_p_list c_s_p_weights c_s_p_drawn c_s_p_many c_s_p_all c_s_p_turns) 121 [(0, .ref 0), (3, .int x3)] [] := by
  intro w
  induction w with
  | zero => intro x3 c_table c_rowNames c_columnNames c_rows c_columns c_scale hf; cases hf
  | succ w ih =>
    intro x3 c_table c_rowNames c_columnNames c_rows c_columns c_scale hf
    unfold F1_fill_b121 at hf
    refine xV_iload_n 122 rfl dX1_fill_121 rfl 1 rfl ?_
    refine xV_aload_n 123 rfl dX1_fill_122 rfl 0 rfl ?_
    refine xV_get (v := .int c_rows) 126 rfl dX1_fill_123 f1_57 rfl rfl ?_
    refine xV_icmp_ge (tgt := 159) 129 rfl dX1_fill_126 (by decide) (fun h126 => ?_) (fun h126 => ?_)
    · have hf := xif_t hf h126
      refine xV_sub [0] rfl ?_
      exact T1_fill_b159 hX hf
    · have hf := xif_f hf h126
      refine xV_aload_n 130 rfl dX1_fill_129 rfl 0 rfl ?_
      refine xV_get (v := .ref 13) 133 rfl dX1_fill_130 f1_25 rfl rfl ?_
      refine xV_iload_n 134 rfl dX1_fill_133 rfl 1 rfl ?_
      refine xV_aload_n 135 rfl dX1_fill_134 rfl 0 rfl ?_
      refine xV_get (v := .int c_columns) 138 rfl dX1_fill_135 f1_60 rfl rfl ?_
      refine xV_iload_n 139 rfl dX1_fill_138 rfl 1 rfl ?_
      refine xV_iadd 140 rfl dX1_fill_139 ?_
      obtain ⟨hg140, hf⟩ := xg_s hf
      refine xV_iastore (h' := (hGS c_picks c_many c_table (upd c_rowNames (xn x3) (c_columns + x3)) c_columnNames c_rows c_columns c_scale c_s_fields c_s_ties c_s_worth c_s_forces c_s_many c_s_codes c_s_b_list c_s_b_many c_s_p_list c_s_p_weights c_s_p_drawn c_s_p_many c_s_p_all c_s_p_turns)) (j := (xn x3)) 141 rfl dX1_fill_140 rfl (xin_ok hg140) rfl rfl ?_
      refine xV_aload_n 142 rfl dX1_fill_141 rfl 0 rfl ?_
      refine xV_get (v := .ref 5) 145 rfl dX1_fill_142 f1_22 rfl rfl ?_
      refine xV_iload_n 146 rfl dX1_fill_145 rfl 1 rfl ?_
      obtain ⟨hg146, hf⟩ := xg_s hf
      refine xV_aaload (b := (6 + (xn x3))) 147 rfl dX1_fill_146 rfl rfl rfl (xin_ok hg146) (by show ([6, 7, 8, 9, 10, 11, 12] : List Nat)[(xn x3)]? = some (6 + (xn x3)); have hi := xin_lt hg146; generalize (xn x3) = i at hi ⊢; match i, hi with | 0, _ => rfl | 1, _ => rfl | 2, _ => rfl | 3, _ => rfl | 4, _ => rfl | 5, _ => rfl | 6, _ => rfl) ?_
      refine xV_aload_n 148 rfl dX1_fill_147 rfl 0 rfl ?_
      refine xV_get (v := .int c_columns) 151 rfl dX1_fill_148 f1_60 rfl rfl ?_
      refine xV_lconst (v := 1) 152 rfl dX1_fill_151 (by decide) ?_
      obtain ⟨hg152, hf⟩ := xg_s hf
      refine xV_lastore (f := (c_table (xn x3))) (z := 7) (h' := (hGS c_picks c_many (va_up c_table (xn x3) (vp_updL (c_table (xn x3)) (xn c_columns) (1 : Int64))) (upd c_rowNames (xn x3) (c_columns + x3)) c_columnNames c_rows c_columns c_scale c_s_fields c_s_ties c_s_worth c_s_forces c_s_many c_s_codes c_s_b_list c_s_b_many c_s_p_list c_s_p_weights c_s_p_drawn c_s_p_many c_s_p_all c_s_p_turns)) (j := (xn c_columns)) 153 rfl dX1_fill_152 (by have hi := (xin_lt hg146); generalize (xn x3) = i at hi ⊢; match i, hi with | 0, _ => exact rfl | 1, _ => exact rfl | 2, _ => exact rfl | 3, _ => exact rfl | 4, _ => exact rfl | 5, _ => exact rfl | 6, _ => exact rfl) (xin_ok hg152) rfl (by have hi := (xin_lt hg146); generalize (xn x3) = i at hi ⊢; match i, hi with | 0, _ => exact rfl | 1, _ => exact rfl | 2, _ => exact rfl | 3, _ => exact rfl | 4, _ => exact rfl | 5, _ => exact rfl | 6, _ => exact rfl) ?_
      refine xV_iinc (L' := [(3, .int (x3 + (1 : Int32))), (0, .ref 0)]) 156 rfl dX1_fill_153 1 rfl (xk_inc xy_i1) (xlt rfl) rfl ?_
      refine xV_goto (tgt := 121) dX1_fill_156 (by decide) ?_
      refine xV_sub [1, 0] rfl ?_
      exact ih hf
def F1_fill_b119 (z : Nat) (c_picks : (Nat → Nat → Int32)) (c_many : (Nat → Int32)) (c_table : (Nat → Nat → Int64)) (c_rowNames : (Nat → Int32)) (c_columnNames : (Nat → Int32)) (c_rows : Int32) (c_columns : Int32) (c_scale : Int64) (c_s_fields : Int32) (c_s_ties : Int32) (c_s_worth : (Nat → Int32)) (c_s_codes : (Nat → Nat → Int32)) : Option ((Nat → Nat → Int64) × (Nat → Int32) × (Nat → Int32) × Int32 × Int32 × Int64) :=
  F1_fill_b121 z z (0 : Int32) c_picks c_many c_table c_rowNames c_columnNames c_rows c_columns c_scale c_s_fields c_s_ties c_s_worth c_s_codes
theorem T1_fill_b119 {X : xX} {c_s_forces : (Nat → Int32)} {c_s_many : (Nat → Int32)} {c_s_b_list : (Nat → Nat → Int32)} {c_s_b_many : (Nat → Int32)} {c_s_p_list : (Nat → Nat → Int32)} {c_s_p_weights : (Nat → Nat → Int32)} {c_s_p_drawn : (Nat → Nat → Int32)} {c_s_p_many : (Nat → Int32)} {c_s_p_all : (Nat → Int32)} {c_s_p_turns : (Nat → Int32)} {c_picks : (Nat → Nat → Int32)} {c_many : (Nat → Int32)} {c_table : (Nat → Nat → Int64)} {c_rowNames : (Nat → Int32)} {c_columnNames : (Nat → Int32)} {c_rows : Int32} {c_columns : Int32} {c_scale : Int64} {c_s_fields : Int32} {c_s_ties : Int32} {c_s_worth : (Nat → Int32)} {c_s_codes : (Nat → Nat → Int32)} {z : Nat} {v : (Nat → Nat → Int64) × (Nat → Int32) × (Nat → Int32) × Int32 × Int32 × Int64} (hX : xIs (j1_fill) X none none (hGS c_picks c_many v.1 v.2.1 v.2.2.1 v.2.2.2.1 v.2.2.2.2.1 v.2.2.2.2.2 c_s_fields c_s_ties c_s_worth c_s_forces c_s_many c_s_codes c_s_b_list c_s_b_many c_s_p_list c_s_p_weights c_s_p_drawn c_s_p_many c_s_p_all c_s_p_turns)) (hf : F1_fill_b119 z c_picks c_many c_table c_rowNames c_columnNames c_rows c_columns c_scale c_s_fields c_s_ties c_s_worth c_s_codes = some v) : xV (j1_fill) X 0 0 (hGS c_picks c_many c_table c_rowNames c_columnNames c_rows c_columns c_scale c_s_fields c_s_ties c_s_worth c_s_forces c_s_many c_s_codes c_s_b_list c_s_b_many c_s_p_list c_s_p_weights c_s_p_drawn c_s_p_many c_s_p_all c_s_p_turns) 119 [(0, .ref 0)] [] := by
  unfold F1_fill_b119 at hf
  refine xV_iconst 120 rfl dX1_fill_119 xy_i0 ?_
  refine xV_istore_n (L' := [(3, .int (0 : Int32)), (0, .ref 0)]) 121 rfl dX1_fill_120 rfl (xlt rfl) rfl ?_
  refine xV_sub [1, 0] rfl ?_
  exact T1_fill_b121 hX _ hf
def F1_fill_b113 (z : Nat) (x2 : Int32) (x3 : Int32) (c_picks : (Nat → Nat → Int32)) (c_many : (Nat → Int32)) (c_table : (Nat → Nat → Int64)) (c_rowNames : (Nat → Int32)) (c_columnNames : (Nat → Int32)) (c_rows : Int32) (c_columns : Int32) (c_scale : Int64) (c_s_fields : Int32) (c_s_ties : Int32) (c_s_worth : (Nat → Int32)) (c_s_codes : (Nat → Nat → Int32)) (k29 : Int32 → Int32 → (Nat → Nat → Int32) → (Nat → Int32) → (Nat → Nat → Int64) → (Nat → Int32) → (Nat → Int32) → Int32 → Int32 → Int64 → Int32 → Int32 → (Nat → Int32) → (Nat → Nat → Int32) → Option ((Nat → Nat → Int64) × (Nat → Int32) × (Nat → Int32) × Int32 × Int32 × Int64)) : Option ((Nat → Nat → Int64) × (Nat → Int32) × (Nat → Int32) × Int32 × Int32 × Int64) :=
  k29 x2 (x3 + (1 : Int32)) c_picks c_many c_table c_rowNames c_columnNames c_rows c_columns c_scale c_s_fields c_s_ties c_s_worth c_s_codes
theorem T1_fill_b113 {X : xX} {c_s_forces : (Nat → Int32)} {c_s_many : (Nat → Int32)} {c_s_b_list : (Nat → Nat → Int32)} {c_s_b_many : (Nat → Int32)} {c_s_p_list : (Nat → Nat → Int32)} {c_s_p_weights : (Nat → Nat → Int32)} {c_s_p_drawn : (Nat → Nat → Int32)} {c_s_p_many : (Nat → Int32)} {c_s_p_all : (Nat → Int32)} {c_s_p_turns : (Nat → Int32)} {x2 : Int32} {x3 : Int32} {c_picks : (Nat → Nat → Int32)} {c_many : (Nat → Int32)} {c_table : (Nat → Nat → Int64)} {c_rowNames : (Nat → Int32)} {c_columnNames : (Nat → Int32)} {c_rows : Int32} {c_columns : Int32} {c_scale : Int64} {c_s_fields : Int32} {c_s_ties : Int32} {c_s_worth : (Nat → Int32)} {c_s_codes : (Nat → Nat → Int32)} {z : Nat} {v : (Nat → Nat → Int64) × (Nat → Int32) × (Nat → Int32) × Int32 × Int32 × Int64} {k29 : Int32 → Int32 → (Nat → Nat → Int32) → (Nat → Int32) → (Nat → Nat → Int64) → (Nat → Int32) → (Nat → Int32) → Int32 → Int32 → Int64 → Int32 → Int32 → (Nat → Int32) → (Nat → Nat → Int32) → Option ((Nat → Nat → Int64) × (Nat → Int32) × (Nat → Int32) × Int32 × Int32 × Int64)} (hX : xIs (j1_fill) X none none (hGS c_picks c_many v.1 v.2.1 v.2.2.1 v.2.2.2.1 v.2.2.2.2.1 v.2.2.2.2.2 c_s_fields c_s_ties c_s_worth c_s_forces c_s_many c_s_codes c_s_b_list c_s_b_many c_s_p_list c_s_p_weights c_s_p_drawn c_s_p_many c_s_p_all c_s_p_turns)) (hk29 : ∀ {x2 : Int32} {x3 : Int32} {c_table : (Nat → Nat → Int64)} {c_rowNames : (Nat → Int32)} {c_columnNames : (Nat → Int32)} {c_rows : Int32} {c_columns : Int32} {c_scale : Int64}, k29 x2 x3 c_picks c_many c_table c_rowNames c_columnNames c_rows c_columns c_scale c_s_fields c_s_ties c_s_worth c_s_codes = some v → xV (j1_fill) X 0 0 (hGS c_picks c_many c_table c_rowNames c_columnNames c_rows c_columns c_scale c_s_fields c_s_ties c_s_worth c_s_forces c_s_many c_s_codes c_s_b_list c_s_b_many c_s_p_list c_s_p_weights c_s_p_drawn c_s_p_many c_s_p_all c_s_p_turns) 29 [(0, .ref 0), (1, .ref 15), (2, .int x2), (3, .int x3)] []) (hf : F1_fill_b113 z x2 x3 c_picks c_many c_table c_rowNames c_columnNames c_rows c_columns c_scale c_s_fields c_s_ties c_s_worth c_s_codes k29 = some v) : xV (j1_fill) X 0 0 (hGS c_picks c_many c_table c_rowNames c_columnNames c_rows c_columns c_scale c_s_fields c_s_ties c_s_worth c_s_forces c_s_many c_s_codes c_s_b_list c_s_b_many c_s_p_list c_s_p_weights c_s_p_drawn c_s_p_many c_s_p_all c_s_p_turns) 113 [(0, .ref 0), (1, .ref 15), (2, .int x2), (3, .int x3)] [] := by
  unfold F1_fill_b113 at hf
  refine xV_iinc (L' := [(3, .int (x3 + (1 : Int32))), (0, .ref 0), (1, .ref 15), (2, .int x2)]) 116 rfl dX1_fill_113 3 rfl (xk_inc xy_i1) (xlt rfl) rfl ?_
  refine xV_goto (tgt := 29) dX1_fill_116 (by decide) ?_
  refine xV_sub [1, 2, 3, 0] rfl ?_
  exact hk29 hf
def F1_fill_b61 (z : Nat) (w : Nat) (x2 : Int32) (x3 : Int32) (x4 : Int32) (c_picks : (Nat → Nat → Int32)) (c_many : (Nat → Int32)) (c_table : (Nat → Nat → Int64)) (c_rowNames : (Nat → Int32)) (c_columnNames : (Nat → Int32)) (c_rows : Int32) (c_columns : Int32) (c_scale : Int64) (c_s_fields : Int32) (c_s_ties : Int32) (c_s_worth : (Nat → Int32)) (c_s_codes : (Nat → Nat → Int32)) (k29 : Int32 → Int32 → (Nat → Nat → Int32) → (Nat → Int32) → (Nat → Nat → Int64) → (Nat → Int32) → (Nat → Int32) → Int32 → Int32 → Int64 → Int32 → Int32 → (Nat → Int32) → (Nat → Nat → Int32) → Option ((Nat → Nat → Int64) × (Nat → Int32) × (Nat → Int32) × Int32 × Int32 × Int64)) : Option ((Nat → Nat → Int64) × (Nat → Int32) × (Nat → Int32) × Int32 × Int32 × Int64) := match w with
  | 0 => none
  | w + 1 => if c_rows ≤ x4 then (F1_fill_b113 z x2 x3 c_picks c_many c_table c_rowNames c_columnNames c_rows c_columns c_scale c_s_fields c_s_ties c_s_worth c_s_codes k29) else (xg (xin x4 7) (xg (xin x2 2) (xg (xin x3 6) (xg (xin ((1 : Int32) - x2) 2) (xg (xin x4 6) ((F4_gainFor z x2 ((c_picks (xn x2)) (xn x3)) ((c_picks (xn ((1 : Int32) - x2))) (xn x4)) c_s_fields c_s_ties c_s_worth c_s_codes).bind (fun v101 => xg (xin x3 7) (F1_fill_b61 z w x2 x3 (x4 + (1 : Int32)) c_picks c_many (va_up c_table (xn x4) (vp_updL (c_table (xn x4)) (xn x3) (((9 : Int32) - v101)).toInt64)) c_rowNames c_columnNames c_rows c_columns c_scale c_s_fields c_s_ties c_s_worth c_s_codes k29))))))))
theorem T1_fill_b61 {X : xX} {c_picks : (Nat → Nat → Int32)} {c_many : (Nat → Int32)} {c_s_fields : Int32} {c_s_ties : Int32} {c_s_worth : (Nat → Int32)} {c_s_forces : (Nat → Int32)} {c_s_many : (Nat → Int32)} {c_s_codes : (Nat → Nat → Int32)} {c_s_b_list : (Nat → Nat → Int32)} {c_s_b_many : (Nat → Int32)} {c_s_p_list : (Nat → Nat → Int32)} {c_s_p_weights : (Nat → Nat → Int32)} {c_s_p_drawn : (Nat → Nat → Int32)} {c_s_p_many : (Nat → Int32)} {c_s_p_all : (Nat → Int32)} {c_s_p_turns : (Nat → Int32)} {z : Nat} {v : (Nat → Nat → Int64) × (Nat → Int32) × (Nat → Int32) × Int32 × Int32 × Int64} {k29 : Int32 → Int32 → (Nat → Nat → Int32) → (Nat → Int32) → (Nat → Nat → Int64) → (Nat → Int32) → (Nat → Int32) → Int32 → Int32 → Int64 → Int32 → Int32 → (Nat → Int32) → (Nat → Nat → Int32) → Option ((Nat → Nat → Int64) × (Nat → Int32) × (Nat → Int32) × Int32 × Int32 × Int64)} (hX : xIs (j1_fill) X none none (hGS c_picks c_many v.1 v.2.1 v.2.2.1 v.2.2.2.1 v.2.2.2.2.1 v.2.2.2.2.2 c_s_fields c_s_ties c_s_worth c_s_forces c_s_many c_s_codes c_s_b_list c_s_b_many c_s_p_list c_s_p_weights c_s_p_drawn c_s_p_many c_s_p_all c_s_p_turns)) (hk29 : ∀ {x2 : Int32} {x3 : Int32} {c_table : (Nat → Nat → Int64)} {c_rowNames : (Nat → Int32)} {c_columnNames : (Nat → Int32)} {c_rows : Int32} {c_columns : Int32} {c_scale : Int64}, k29 x2 x3 c_picks c_many c_table c_rowNames c_columnNames c_rows c_columns c_scale c_s_fields c_s_ties c_s_worth c_s_codes = some v → xV (j1_fill) X 0 0 (hGS c_picks c_many c_table c_rowNames c_columnNames c_rows c_columns c_scale c_s_fields c_s_ties c_s_worth c_s_forces c_s_many c_s_codes c_s_b_list c_s_b_many c_s_p_list c_s_p_weights c_s_p_drawn c_s_p_many c_s_p_all c_s_p_turns) 29 [(0, .ref 0), (1, .ref 15), (2, .int x2), (3, .int x3)] []) : ∀ (w : Nat) {x2 : Int32} {x3 : Int32} {x4 : Int32} {c_table : (Nat → Nat → Int64)} {c_rowNames : (Nat → Int32)} {c_columnNames : (Nat → Int32)} {c_rows : Int32} {c_columns : Int32} {c_scale : Int64}, F1_fill_b61 z w x2 x3 x4 c_picks c_many c_table c_rowNames c_columnNames c_rows c_columns c_scale c_s_fields c_s_ties c_s_worth c_s_codes k29 = some v → xV (j1_fill) X 0 0 (hGS c_picks c_many c_table c_rowNames c_columnNames c_rows c_columns c_scale c_s_fields c_s_ties c_s_worth c_s_forces c_s_many c_s_codes c_s_b_list c_s_b_many c_s_p_list c_s_p_weights c_s_p_drawn c_s_p_many c_s_p_all c_s_p_turns) 61 [(0, .ref 0), (1, .ref 15), (2, .int x2), (3, .int x3), (4, .int x4)] [] := by
  intro w
  induction w with
  | zero => intro x2 x3 x4 c_table c_rowNames c_columnNames c_rows c_columns c_scale hf; cases hf
  | succ w ih =>
    intro x2 x3 x4 c_table c_rowNames c_columnNames c_rows c_columns c_scale hf
    unfold F1_fill_b61 at hf
    refine xV_iload 63 rfl dX1_fill_61 4 rfl ?_
    refine xV_aload_n 64 rfl dX1_fill_63 rfl 0 rfl ?_
    refine xV_get (v := .int c_rows) 67 rfl dX1_fill_64 f1_57 rfl rfl ?_
    refine xV_icmp_ge (tgt := 113) 70 rfl dX1_fill_67 (by decide) (fun h67 => ?_) (fun h67 => ?_)
    · have hf := xif_t hf h67
      refine xV_sub [0, 1, 2, 3] rfl ?_
      exact T1_fill_b113 hX hk29 hf
    · have hf := xif_f hf h67
      refine xV_aload_n 71 rfl dX1_fill_70 rfl 0 rfl ?_
      refine xV_get (v := .ref 5) 74 rfl dX1_fill_71 f1_22 rfl rfl ?_
      refine xV_iload 76 rfl dX1_fill_74 4 rfl ?_
      obtain ⟨hg76, hf⟩ := xg_s hf
      refine xV_aaload (b := (6 + (xn x4))) 77 rfl dX1_fill_76 rfl rfl rfl (xin_ok hg76) (by show ([6, 7, 8, 9, 10, 11, 12] : List Nat)[(xn x4)]? = some (6 + (xn x4)); have hi := xin_lt hg76; generalize (xn x4) = i at hi ⊢; match i, hi with | 0, _ => rfl | 1, _ => rfl | 2, _ => rfl | 3, _ => rfl | 4, _ => rfl | 5, _ => rfl | 6, _ => rfl) ?_
      refine xV_iload_n 78 rfl dX1_fill_77 rfl 3 rfl ?_
      refine xV_bipush 80 rfl dX1_fill_78 xy_b9 ?_
      refine xV_aload_n 81 rfl dX1_fill_80 rfl 1 rfl ?_
      refine xV_iload_n 82 rfl dX1_fill_81 rfl 2 rfl ?_
      refine xV_aload_n 83 rfl dX1_fill_82 rfl 0 rfl ?_
      refine xV_get (v := .ref 1) 86 rfl dX1_fill_83 f1_11 rfl rfl ?_
      refine xV_iload_n 87 rfl dX1_fill_86 rfl 2 rfl ?_
      obtain ⟨hg87, hf⟩ := xg_s hf
      refine xV_aaload (b := (2 + (xn x2))) 88 rfl dX1_fill_87 rfl rfl rfl (xin_ok hg87) (by show ([2, 3] : List Nat)[(xn x2)]? = some (2 + (xn x2)); have hi := xin_lt hg87; generalize (xn x2) = i at hi ⊢; match i, hi with | 0, _ => rfl | 1, _ => rfl) ?_
      refine xV_iload_n 89 rfl dX1_fill_88 rfl 3 rfl ?_
      obtain ⟨hg89, hf⟩ := xg_s hf
      refine xV_iaload (f := (c_picks (xn x2))) (z := 6) 90 rfl dX1_fill_89 (by have hi := (xin_lt hg87); generalize (xn x2) = i at hi ⊢; match i, hi with | 0, _ => exact rfl | 1, _ => exact rfl) (xin_ok hg89) rfl ?_
      refine xV_aload_n 91 rfl dX1_fill_90 rfl 0 rfl ?_
      refine xV_get (v := .ref 1) 94 rfl dX1_fill_91 f1_11 rfl rfl ?_
      refine xV_iconst 95 rfl dX1_fill_94 xy_i1 ?_
      refine xV_iload_n 96 rfl dX1_fill_95 rfl 2 rfl ?_
      refine xV_isub 97 rfl dX1_fill_96 ?_
      obtain ⟨hg97, hf⟩ := xg_s hf
      refine xV_aaload (b := (2 + (xn ((1 : Int32) - x2)))) 98 rfl dX1_fill_97 rfl rfl rfl (xin_ok hg97) (by show ([2, 3] : List Nat)[(xn ((1 : Int32) - x2))]? = some (2 + (xn ((1 : Int32) - x2))); have hi := xin_lt hg97; generalize (xn ((1 : Int32) - x2)) = i at hi ⊢; match i, hi with | 0, _ => rfl | 1, _ => rfl) ?_
      refine xV_iload 100 rfl dX1_fill_98 4 rfl ?_
      obtain ⟨hg100, hf⟩ := xg_s hf
      refine xV_iaload (f := (c_picks (xn ((1 : Int32) - x2)))) (z := 6) 101 rfl dX1_fill_100 (by have hi := (xin_lt hg97); generalize (xn ((1 : Int32) - x2)) = i at hi ⊢; match i, hi with | 0, _ => exact rfl | 1, _ => exact rfl) (xin_ok hg100) rfl ?_
      obtain ⟨v101, hv101, hf⟩ := xb_s hf
      refine xV_vir2 (g := (fun j => 15 + j)) (hl := (hS c_s_fields c_s_ties c_s_worth c_s_forces c_s_many c_s_codes c_s_b_list c_s_b_many c_s_p_list c_s_p_weights c_s_p_drawn c_s_p_many c_s_p_all c_s_p_turns)) (hl' := (hS c_s_fields c_s_ties c_s_worth c_s_forces c_s_many c_s_codes c_s_b_list c_s_b_many c_s_p_list c_s_p_weights c_s_p_drawn c_s_p_many c_s_p_all c_s_p_turns)) (h' := (hGS c_picks c_many c_table c_rowNames c_columnNames c_rows c_columns c_scale c_s_fields c_s_ties c_s_worth c_s_forces c_s_many c_s_codes c_s_b_list c_s_b_many c_s_p_list c_s_p_weights c_s_p_drawn c_s_p_many c_s_p_all c_s_p_turns)) (rest := [.int (9 : Int32), .int x3, .ref (6 + (xn x4))]) (ci := 4) 104 rfl dX1_fill_101 rfl (C4_gainFor X.1.2.1 hv101) m4_gainFor v4_gainFor k1_72 rfl rfl rfl (e_GS_S_L15) rfl (Nat.le_of_ble_eq_true rfl) (Nat.le_of_ble_eq_true rfl) (Nat.le_of_ble_eq_true rfl) ⟨Nat.le_refl _, Nat.le_refl _⟩ ?_
      show xV (j1_fill) X 0 0 (hGS c_picks c_many c_table c_rowNames c_columnNames c_rows c_columns c_scale c_s_fields c_s_ties c_s_worth c_s_forces c_s_many c_s_codes c_s_b_list c_s_b_many c_s_p_list c_s_p_weights c_s_p_drawn c_s_p_many c_s_p_all c_s_p_turns) 104 [(0, .ref 0), (1, .ref 15), (2, .int x2), (3, .int x3), (4, .int x4)] [.int v101, .int (9 : Int32), .int x3, .ref (6 + (xn x4))]
      refine xV_isub 105 rfl dX1_fill_104 ?_
      refine xV_i2l 106 rfl dX1_fill_105 ?_
      obtain ⟨hg106, hf⟩ := xg_s hf
      refine xV_lastore (f := (c_table (xn x4))) (z := 7) (h' := (hGS c_picks c_many (va_up c_table (xn x4) (vp_updL (c_table (xn x4)) (xn x3) (((9 : Int32) - v101)).toInt64)) c_rowNames c_columnNames c_rows c_columns c_scale c_s_fields c_s_ties c_s_worth c_s_forces c_s_many c_s_codes c_s_b_list c_s_b_many c_s_p_list c_s_p_weights c_s_p_drawn c_s_p_many c_s_p_all c_s_p_turns)) (j := (xn x3)) 107 rfl dX1_fill_106 (by have hi := (xin_lt hg76); generalize (xn x4) = i at hi ⊢; match i, hi with | 0, _ => exact rfl | 1, _ => exact rfl | 2, _ => exact rfl | 3, _ => exact rfl | 4, _ => exact rfl | 5, _ => exact rfl | 6, _ => exact rfl) (xin_ok hg106) rfl (by have hi := (xin_lt hg76); generalize (xn x4) = i at hi ⊢; match i, hi with | 0, _ => exact rfl | 1, _ => exact rfl | 2, _ => exact rfl | 3, _ => exact rfl | 4, _ => exact rfl | 5, _ => exact rfl | 6, _ => exact rfl) ?_
      refine xV_iinc (L' := [(4, .int (x4 + (1 : Int32))), (0, .ref 0), (1, .ref 15), (2, .int x2), (3, .int x3)]) 110 rfl dX1_fill_107 4 rfl (xk_inc xy_i1) (xlt rfl) rfl ?_
      refine xV_goto (tgt := 61) dX1_fill_110 (by decide) ?_
      refine xV_sub [1, 2, 3, 4, 0] rfl ?_
      exact ih hf
def F1_fill_b29 (z : Nat) (w : Nat) (x2 : Int32) (x3 : Int32) (c_picks : (Nat → Nat → Int32)) (c_many : (Nat → Int32)) (c_table : (Nat → Nat → Int64)) (c_rowNames : (Nat → Int32)) (c_columnNames : (Nat → Int32)) (c_rows : Int32) (c_columns : Int32) (c_scale : Int64) (c_s_fields : Int32) (c_s_ties : Int32) (c_s_worth : (Nat → Int32)) (c_s_codes : (Nat → Nat → Int32)) : Option ((Nat → Nat → Int64) × (Nat → Int32) × (Nat → Int32) × Int32 × Int32 × Int64) := match w with
  | 0 => none
  | w + 1 => if c_columns ≤ x3 then (F1_fill_b119 z c_picks c_many c_table c_rowNames c_columnNames c_rows c_columns c_scale c_s_fields c_s_ties c_s_worth c_s_codes) else (xg (xin x3 6) (xg (xin c_rows 7) (xg (xin x3 7) (F1_fill_b61 z z x2 x3 (0 : Int32) c_picks c_many (va_up c_table (xn c_rows) (vp_updL (c_table (xn c_rows)) (xn x3) (-1 : Int64))) c_rowNames (upd c_columnNames (xn x3) x3) c_rows c_columns c_scale c_s_fields c_s_ties c_s_worth c_s_codes (fun q0 q1 q2 q3 q4 q5 q6 q7 q8 q9 q10 q11 q12 q13 => F1_fill_b29 z w q0 q1 q2 q3 q4 q5 q6 q7 q8 q9 q10 q11 q12 q13)))))
theorem T1_fill_b29 {X : xX} {c_picks : (Nat → Nat → Int32)} {c_many : (Nat → Int32)} {c_s_fields : Int32} {c_s_ties : Int32} {c_s_worth : (Nat → Int32)} {c_s_forces : (Nat → Int32)} {c_s_many : (Nat → Int32)} {c_s_codes : (Nat → Nat → Int32)} {c_s_b_list : (Nat → Nat → Int32)} {c_s_b_many : (Nat → Int32)} {c_s_p_list : (Nat → Nat → Int32)} {c_s_p_weights : (Nat → Nat → Int32)} {c_s_p_drawn : (Nat → Nat → Int32)} {c_s_p_many : (Nat → Int32)} {c_s_p_all : (Nat → Int32)} {c_s_p_turns : (Nat → Int32)} {z : Nat} {v : (Nat → Nat → Int64) × (Nat → Int32) × (Nat → Int32) × Int32 × Int32 × Int64} (hX : xIs (j1_fill) X none none (hGS c_picks c_many v.1 v.2.1 v.2.2.1 v.2.2.2.1 v.2.2.2.2.1 v.2.2.2.2.2 c_s_fields c_s_ties c_s_worth c_s_forces c_s_many c_s_codes c_s_b_list c_s_b_many c_s_p_list c_s_p_weights c_s_p_drawn c_s_p_many c_s_p_all c_s_p_turns)) : ∀ (w : Nat) {x2 : Int32} {x3 : Int32} {c_table : (Nat → Nat → Int64)} {c_rowNames : (Nat → Int32)} {c_columnNames : (Nat → Int32)} {c_rows : Int32} {c_columns : Int32} {c_scale : Int64}, F1_fill_b29 z w x2 x3 c_picks c_many c_table c_rowNames c_columnNames c_rows c_columns c_scale c_s_fields c_s_ties c_s_worth c_s_codes = some v → xV (j1_fill) X 0 0 (hGS c_picks c_many c_table c_rowNames c_columnNames c_rows c_columns c_scale c_s_fields c_s_ties c_s_worth c_s_forces c_s_many c_s_codes c_s_b_list c_s_b_many c_s_p_list c_s_p_weights c_s_p_drawn c_s_p_many c_s_p_all c_s_p_turns) 29 [(0, .ref 0), (1, .ref 15), (2, .int x2), (3, .int x3)] [] := by
  intro w
  induction w with
  | zero => intro x2 x3 c_table c_rowNames c_columnNames c_rows c_columns c_scale hf; cases hf
  | succ w ih =>
    intro x2 x3 c_table c_rowNames c_columnNames c_rows c_columns c_scale hf
    unfold F1_fill_b29 at hf
    refine xV_iload_n 30 rfl dX1_fill_29 rfl 3 rfl ?_
    refine xV_aload_n 31 rfl dX1_fill_30 rfl 0 rfl ?_
    refine xV_get (v := .int c_columns) 34 rfl dX1_fill_31 f1_60 rfl rfl ?_
    refine xV_icmp_ge (tgt := 119) 37 rfl dX1_fill_34 (by decide) (fun h34 => ?_) (fun h34 => ?_)
    · have hf := xif_t hf h34
      refine xV_sub [0] rfl ?_
      exact T1_fill_b119 hX hf
    · have hf := xif_f hf h34
      refine xV_aload_n 38 rfl dX1_fill_37 rfl 0 rfl ?_
      refine xV_get (v := .ref 14) 41 rfl dX1_fill_38 f1_28 rfl rfl ?_
      refine xV_iload_n 42 rfl dX1_fill_41 rfl 3 rfl ?_
      refine xV_iload_n 43 rfl dX1_fill_42 rfl 3 rfl ?_
      obtain ⟨hg43, hf⟩ := xg_s hf
      refine xV_iastore (h' := (hGS c_picks c_many c_table c_rowNames (upd c_columnNames (xn x3) x3) c_rows c_columns c_scale c_s_fields c_s_ties c_s_worth c_s_forces c_s_many c_s_codes c_s_b_list c_s_b_many c_s_p_list c_s_p_weights c_s_p_drawn c_s_p_many c_s_p_all c_s_p_turns)) (j := (xn x3)) 44 rfl dX1_fill_43 rfl (xin_ok hg43) rfl rfl ?_
      refine xV_aload_n 45 rfl dX1_fill_44 rfl 0 rfl ?_
      refine xV_get (v := .ref 5) 48 rfl dX1_fill_45 f1_22 rfl rfl ?_
      refine xV_aload_n 49 rfl dX1_fill_48 rfl 0 rfl ?_
      refine xV_get (v := .int c_rows) 52 rfl dX1_fill_49 f1_57 rfl rfl ?_
      obtain ⟨hg52, hf⟩ := xg_s hf
      refine xV_aaload (b := (6 + (xn c_rows))) 53 rfl dX1_fill_52 rfl rfl rfl (xin_ok hg52) (by show ([6, 7, 8, 9, 10, 11, 12] : List Nat)[(xn c_rows)]? = some (6 + (xn c_rows)); have hi := xin_lt hg52; generalize (xn c_rows) = i at hi ⊢; match i, hi with | 0, _ => rfl | 1, _ => rfl | 2, _ => rfl | 3, _ => rfl | 4, _ => rfl | 5, _ => rfl | 6, _ => rfl) ?_
      refine xV_iload_n 54 rfl dX1_fill_53 rfl 3 rfl ?_
      refine xV_ldc2 57 rfl dX1_fill_54 q1_70 ?_
      obtain ⟨hg57, hf⟩ := xg_s hf
      refine xV_lastore (f := (c_table (xn c_rows))) (z := 7) (h' := (hGS c_picks c_many (va_up c_table (xn c_rows) (vp_updL (c_table (xn c_rows)) (xn x3) (-1 : Int64))) c_rowNames (upd c_columnNames (xn x3) x3) c_rows c_columns c_scale c_s_fields c_s_ties c_s_worth c_s_forces c_s_many c_s_codes c_s_b_list c_s_b_many c_s_p_list c_s_p_weights c_s_p_drawn c_s_p_many c_s_p_all c_s_p_turns)) (j := (xn x3)) 58 rfl dX1_fill_57 (by have hi := (xin_lt hg52); generalize (xn c_rows) = i at hi ⊢; match i, hi with | 0, _ => exact rfl | 1, _ => exact rfl | 2, _ => exact rfl | 3, _ => exact rfl | 4, _ => exact rfl | 5, _ => exact rfl | 6, _ => exact rfl) (xin_ok hg57) rfl (by have hi := (xin_lt hg52); generalize (xn c_rows) = i at hi ⊢; match i, hi with | 0, _ => exact rfl | 1, _ => exact rfl | 2, _ => exact rfl | 3, _ => exact rfl | 4, _ => exact rfl | 5, _ => exact rfl | 6, _ => exact rfl) ?_
      refine xV_iconst 59 rfl dX1_fill_58 xy_i0 ?_
      refine xV_istore (L' := [(4, .int (0 : Int32)), (0, .ref 0), (1, .ref 15), (2, .int x2), (3, .int x3)]) 61 rfl dX1_fill_59 (xlt rfl) rfl ?_
      refine xV_sub [1, 2, 3, 4, 0] rfl ?_
      exact T1_fill_b61 hX (fun {_ _ _ _ _ _ _ _} hq => ih hq) _ hf
def F1_fill (z : Nat) (x2 : Int32) (c_picks : (Nat → Nat → Int32)) (c_many : (Nat → Int32)) (c_table : (Nat → Nat → Int64)) (c_rowNames : (Nat → Int32)) (c_columnNames : (Nat → Int32)) (c_rows : Int32) (c_columns : Int32) (c_scale : Int64) (c_s_fields : Int32) (c_s_ties : Int32) (c_s_worth : (Nat → Int32)) (c_s_codes : (Nat → Nat → Int32)) : Option ((Nat → Nat → Int64) × (Nat → Int32) × (Nat → Int32) × Int32 × Int32 × Int64) :=
  xg (xin x2 2) (xg (xin ((1 : Int32) - x2) 2) (F1_fill_b29 z z x2 (0 : Int32) c_picks c_many c_table c_rowNames c_columnNames (c_many (xn ((1 : Int32) - x2))) (c_many (xn x2)) (1 : Int64) c_s_fields c_s_ties c_s_worth c_s_codes))
theorem T1_fill {X : xX} {z : Nat} {x2 : Int32} {c_picks : (Nat → Nat → Int32)} {c_many : (Nat → Int32)} {c_table : (Nat → Nat → Int64)} {c_rowNames : (Nat → Int32)} {c_columnNames : (Nat → Int32)} {c_rows : Int32} {c_columns : Int32} {c_scale : Int64} {c_s_fields : Int32} {c_s_ties : Int32} {c_s_worth : (Nat → Int32)} {c_s_codes : (Nat → Nat → Int32)} {c_s_forces : (Nat → Int32)} {c_s_many : (Nat → Int32)} {c_s_b_list : (Nat → Nat → Int32)} {c_s_b_many : (Nat → Int32)} {c_s_p_list : (Nat → Nat → Int32)} {c_s_p_weights : (Nat → Nat → Int32)} {c_s_p_drawn : (Nat → Nat → Int32)} {c_s_p_many : (Nat → Int32)} {c_s_p_all : (Nat → Int32)} {c_s_p_turns : (Nat → Int32)} {v : (Nat → Nat → Int64) × (Nat → Int32) × (Nat → Int32) × Int32 × Int32 × Int64} (hX : xIs (j1_fill) X none none (hGS c_picks c_many v.1 v.2.1 v.2.2.1 v.2.2.2.1 v.2.2.2.2.1 v.2.2.2.2.2 c_s_fields c_s_ties c_s_worth c_s_forces c_s_many c_s_codes c_s_b_list c_s_b_many c_s_p_list c_s_p_weights c_s_p_drawn c_s_p_many c_s_p_all c_s_p_turns)) (hf : F1_fill z x2 c_picks c_many c_table c_rowNames c_columnNames c_rows c_columns c_scale c_s_fields c_s_ties c_s_worth c_s_codes = some v) : xV (j1_fill) X 0 0 (hGS c_picks c_many c_table c_rowNames c_columnNames c_rows c_columns c_scale c_s_fields c_s_ties c_s_worth c_s_forces c_s_many c_s_codes c_s_b_list c_s_b_many c_s_p_list c_s_p_weights c_s_p_drawn c_s_p_many c_s_p_all c_s_p_turns) 0 [(0, .ref 0), (1, .ref 15), (2, .int x2)] [] := by
  unfold F1_fill at hf
  refine xV_aload_n 1 rfl dX1_fill_0 rfl 0 rfl ?_
  refine xV_aload_n 2 rfl dX1_fill_1 rfl 0 rfl ?_
  refine xV_get (v := .ref 4) 5 rfl dX1_fill_2 f1_16 rfl rfl ?_
  refine xV_iload_n 6 rfl dX1_fill_5 rfl 2 rfl ?_
  obtain ⟨hg6, hf⟩ := xg_s hf
  refine xV_iaload 7 rfl dX1_fill_6 rfl (xin_ok hg6) rfl ?_
  refine xV_put (h' := (hGS c_picks c_many c_table c_rowNames c_columnNames c_rows (c_many (xn x2)) c_scale c_s_fields c_s_ties c_s_worth c_s_forces c_s_many c_s_codes c_s_b_list c_s_b_many c_s_p_list c_s_p_weights c_s_p_drawn c_s_p_many c_s_p_all c_s_p_turns)) 10 rfl dX1_fill_7 f1_60 rfl nf1_6 (fun _ => rfl) (fun _ => rfl) (Nat.le_of_ble_eq_true rfl) rfl ?_
  refine xV_aload_n 11 rfl dX1_fill_10 rfl 0 rfl ?_
  refine xV_aload_n 12 rfl dX1_fill_11 rfl 0 rfl ?_
  refine xV_get (v := .ref 4) 15 rfl dX1_fill_12 f1_16 rfl rfl ?_
  refine xV_iconst 16 rfl dX1_fill_15 xy_i1 ?_
  refine xV_iload_n 17 rfl dX1_fill_16 rfl 2 rfl ?_
  refine xV_isub 18 rfl dX1_fill_17 ?_
  obtain ⟨hg18, hf⟩ := xg_s hf
  refine xV_iaload 19 rfl dX1_fill_18 rfl (xin_ok hg18) rfl ?_
  refine xV_put (h' := (hGS c_picks c_many c_table c_rowNames c_columnNames (c_many (xn ((1 : Int32) - x2))) (c_many (xn x2)) c_scale c_s_fields c_s_ties c_s_worth c_s_forces c_s_many c_s_codes c_s_b_list c_s_b_many c_s_p_list c_s_p_weights c_s_p_drawn c_s_p_many c_s_p_all c_s_p_turns)) 22 rfl dX1_fill_19 f1_57 rfl nf1_5 (fun _ => rfl) (fun _ => rfl) (Nat.le_of_ble_eq_true rfl) rfl ?_
  refine xV_aload_n 23 rfl dX1_fill_22 rfl 0 rfl ?_
  refine xV_lconst (v := 1) 24 rfl dX1_fill_23 (by decide) ?_
  refine xV_put (h' := (hGS c_picks c_many c_table c_rowNames c_columnNames (c_many (xn ((1 : Int32) - x2))) (c_many (xn x2)) (1 : Int64) c_s_fields c_s_ties c_s_worth c_s_forces c_s_many c_s_codes c_s_b_list c_s_b_many c_s_p_list c_s_p_weights c_s_p_drawn c_s_p_many c_s_p_all c_s_p_turns)) 27 rfl dX1_fill_24 f1_63 rfl nf1_7 (fun _ => rfl) (fun _ => rfl) (Nat.le_of_ble_eq_true rfl) rfl ?_
  refine xV_iconst 28 rfl dX1_fill_27 xy_i0 ?_
  refine xV_istore_n (L' := [(3, .int (0 : Int32)), (0, .ref 0), (1, .ref 15), (2, .int x2)]) 29 rfl dX1_fill_28 rfl (xlt rfl) rfl ?_
  refine xV_sub [1, 2, 3, 0] rfl ?_
  exact T1_fill_b29 hX _ hf
theorem C1_fill (l : Launch) {z : Nat} {x2 : Int32} {c_picks : (Nat → Nat → Int32)} {c_many : (Nat → Int32)} {c_table : (Nat → Nat → Int64)} {c_rowNames : (Nat → Int32)} {c_columnNames : (Nat → Int32)} {c_rows : Int32} {c_columns : Int32} {c_scale : Int64} {c_s_fields : Int32} {c_s_ties : Int32} {c_s_worth : (Nat → Int32)} {c_s_codes : (Nat → Nat → Int32)} {c_s_forces : (Nat → Int32)} {c_s_many : (Nat → Int32)} {c_s_b_list : (Nat → Nat → Int32)} {c_s_b_many : (Nat → Int32)} {c_s_p_list : (Nat → Nat → Int32)} {c_s_p_weights : (Nat → Nat → Int32)} {c_s_p_drawn : (Nat → Nat → Int32)} {c_s_p_many : (Nat → Int32)} {c_s_p_all : (Nat → Int32)} {c_s_p_turns : (Nat → Int32)} {v : (Nat → Nat → Int64) × (Nat → Int32) × (Nat → Int32) × Int32 × Int32 × Int64} (hf : F1_fill z x2 c_picks c_many c_table c_rowNames c_columnNames c_rows c_columns c_scale c_s_fields c_s_ties c_s_worth c_s_codes = some v) : xCt l yX1_fill none j1_fill [.ref 0, .ref 15, .int x2] (hGS c_picks c_many c_table c_rowNames c_columnNames c_rows c_columns c_scale c_s_fields c_s_ties c_s_worth c_s_forces c_s_many c_s_codes c_s_b_list c_s_b_many c_s_p_list c_s_p_weights c_s_p_drawn c_s_p_many c_s_p_all c_s_p_turns) none (hGS c_picks c_many v.1 v.2.1 v.2.2.1 v.2.2.2.1 v.2.2.2.2.1 v.2.2.2.2.2 c_s_fields c_s_ties c_s_worth c_s_forces c_s_many c_s_codes c_s_b_list c_s_b_many c_s_p_list c_s_p_weights c_s_p_drawn c_s_p_many c_s_p_all c_s_p_turns) := xCt_of (by decide) rfl (Nat.le_of_ble_eq_true rfl) (fun _ hX => T1_fill hX hf)
theorem m1_fill : xMd yX1_fill RX1 none j1_fill 2 := ⟨List.mem_of_getElem? (i := 874) (by decide +kernel), List.mem_of_getElem? (i := 37) (by decide +kernel), rfl, by decide +kernel⟩
theorem v1_fill : xMv yX1_fill RX1 := ⟨List.mem_of_getElem? (i := 872) (by decide +kernel), List.mem_of_getElem? (i := 873) (by decide +kernel)⟩
theorem dX1_rowOf_0 : decode cX1_rowOf 0 = .ok (.iconst 0, 1) := by decide +kernel
theorem dX1_rowOf_1 : decode cX1_rowOf 1 = .ok (.istore_n 2, 1) := by decide +kernel
theorem dX1_rowOf_2 : decode cX1_rowOf 2 = .ok (.iload_n 2, 1) := by decide +kernel
theorem dX1_rowOf_3 : decode cX1_rowOf 3 = .ok (.aload_n 0, 1) := by decide +kernel
theorem dX1_rowOf_4 : decode cX1_rowOf 4 = .ok (.getfield 57, 3) := by decide +kernel
theorem dX1_rowOf_7 : decode cX1_rowOf 7 = .ok (.if_icmp .ge 21, 3) := by decide +kernel
theorem dX1_rowOf_10 : decode cX1_rowOf 10 = .ok (.aload_n 0, 1) := by decide +kernel
theorem dX1_rowOf_11 : decode cX1_rowOf 11 = .ok (.getfield 25, 3) := by decide +kernel
theorem dX1_rowOf_14 : decode cX1_rowOf 14 = .ok (.iload_n 2, 1) := by decide +kernel
theorem dX1_rowOf_15 : decode cX1_rowOf 15 = .ok (.iaload, 1) := by decide +kernel
theorem dX1_rowOf_16 : decode cX1_rowOf 16 = .ok (.iload_n 1, 1) := by decide +kernel
theorem dX1_rowOf_17 : decode cX1_rowOf 17 = .ok (.if_icmp .ne 5, 3) := by decide +kernel
theorem dX1_rowOf_20 : decode cX1_rowOf 20 = .ok (.iload_n 2, 1) := by decide +kernel
theorem dX1_rowOf_21 : decode cX1_rowOf 21 = .ok (.ireturn, 1) := by decide +kernel
theorem dX1_rowOf_22 : decode cX1_rowOf 22 = .ok (.iinc 2 1, 3) := by decide +kernel
theorem dX1_rowOf_25 : decode cX1_rowOf 25 = .ok (.goto (-23), 3) := by decide +kernel
theorem dX1_rowOf_28 : decode cX1_rowOf 28 = .ok (.iconst (-1), 1) := by decide +kernel
theorem dX1_rowOf_29 : decode cX1_rowOf 29 = .ok (.ireturn, 1) := by decide +kernel
abbrev j1_rowOf : xJ := (cX1_rowOf, 3, RX1, 1, 0, 0)
def F1_rowOf_b2 (z : Nat) (w : Nat) (x1 : Int32) (x2 : Int32) (c_rowNames : (Nat → Int32)) (c_rows : Int32) : Option (Int32) := match w with
  | 0 => none
  | w + 1 => if c_rows ≤ x2 then (some ((-1 : Int32))) else (xg (xin x2 6) (if (c_rowNames (xn x2)) = x1 then (some (x2)) else (F1_rowOf_b2 z w x1 (x2 + (1 : Int32)) c_rowNames c_rows)))
theorem T1_rowOf_b2 {X : xX} {c_picks : (Nat → Nat → Int32)} {c_many : (Nat → Int32)} {c_table : (Nat → Nat → Int64)} {c_rowNames : (Nat → Int32)} {c_columnNames : (Nat → Int32)} {c_rows : Int32} {c_columns : Int32} {c_scale : Int64} {z : Nat} {v : Int32} (hX : xIs (j1_rowOf) X ((some .int)) (some (.int v)) (hG c_picks c_many c_table c_rowNames c_columnNames c_rows c_columns c_scale)) : ∀ (w : Nat) {x1 : Int32} {x2 : Int32}, F1_rowOf_b2 z w x1 x2 c_rowNames c_rows = some v → xV (j1_rowOf) X 0 0 (hG c_picks c_many c_table c_rowNames c_columnNames c_rows c_columns c_scale) 2 [(0, .ref 0), (1, .int x1), (2, .int x2)] [] := by
  intro w
  induction w with
  | zero => intro x1 x2 hf; cases hf
  | succ w ih =>
    intro x1 x2 hf
    unfold F1_rowOf_b2 at hf
    refine xV_iload_n 3 rfl dX1_rowOf_2 rfl 2 rfl ?_
    refine xV_aload_n 4 rfl dX1_rowOf_3 rfl 0 rfl ?_
    refine xV_get (v := .int c_rows) 7 rfl dX1_rowOf_4 f1_57 rfl rfl ?_
    refine xV_icmp_ge (tgt := 28) 10 rfl dX1_rowOf_7 (by decide) (fun h7 => ?_) (fun h7 => ?_)
    · have hf := xif_t hf h7
      refine xV_iconst 29 rfl dX1_rowOf_28 xy_im1 ?_
      obtain rfl := Option.some.inj hf
      exact xV_iret hX dX1_rowOf_29 rfl (Nat.zero_le _) (Nat.zero_le _)
    · have hf := xif_f hf h7
      refine xV_aload_n 11 rfl dX1_rowOf_10 rfl 0 rfl ?_
      refine xV_get (v := .ref 13) 14 rfl dX1_rowOf_11 f1_25 rfl rfl ?_
      refine xV_iload_n 15 rfl dX1_rowOf_14 rfl 2 rfl ?_
      obtain ⟨hg15, hf⟩ := xg_s hf
      refine xV_iaload 16 rfl dX1_rowOf_15 rfl (xin_ok hg15) rfl ?_
      refine xV_iload_n 17 rfl dX1_rowOf_16 rfl 1 rfl ?_
      refine xV_icmp_ne (tgt := 22) 20 rfl dX1_rowOf_17 (by decide) (fun h17 => ?_) (fun h17 => ?_)
      · have hf := xif_f hf h17
        refine xV_iinc (L' := [(2, .int (x2 + (1 : Int32))), (0, .ref 0), (1, .int x1)]) 25 rfl dX1_rowOf_22 2 rfl (xk_inc xy_i1) (xlt rfl) rfl ?_
        refine xV_goto (tgt := 2) dX1_rowOf_25 (by decide) ?_
        refine xV_sub [1, 2, 0] rfl ?_
        exact ih hf
      · have hf := xif_t hf h17
        refine xV_iload_n 21 rfl dX1_rowOf_20 rfl 2 rfl ?_
        obtain rfl := Option.some.inj hf
        exact xV_iret hX dX1_rowOf_21 rfl (Nat.zero_le _) (Nat.zero_le _)
def F1_rowOf (z : Nat) (x1 : Int32) (c_rowNames : (Nat → Int32)) (c_rows : Int32) : Option (Int32) :=
  F1_rowOf_b2 z z x1 (0 : Int32) c_rowNames c_rows
theorem T1_rowOf {X : xX} {z : Nat} {x1 : Int32} {c_rowNames : (Nat → Int32)} {c_rows : Int32} {c_picks : (Nat → Nat → Int32)} {c_many : (Nat → Int32)} {c_table : (Nat → Nat → Int64)} {c_columnNames : (Nat → Int32)} {c_columns : Int32} {c_scale : Int64} {v : Int32} (hX : xIs (j1_rowOf) X ((some .int)) (some (.int v)) (hG c_picks c_many c_table c_rowNames c_columnNames c_rows c_columns c_scale)) (hf : F1_rowOf z x1 c_rowNames c_rows = some v) : xV (j1_rowOf) X 0 0 (hG c_picks c_many c_table c_rowNames c_columnNames c_rows c_columns c_scale) 0 [(0, .ref 0), (1, .int x1)] [] := by
  unfold F1_rowOf at hf
  refine xV_iconst 1 rfl dX1_rowOf_0 xy_i0 ?_
  refine xV_istore_n (L' := [(2, .int (0 : Int32)), (0, .ref 0), (1, .int x1)]) 2 rfl dX1_rowOf_1 rfl (xlt rfl) rfl ?_
  refine xV_sub [1, 2, 0] rfl ?_
  exact T1_rowOf_b2 hX _ hf
theorem C1_rowOf (l : Launch) {z : Nat} {x1 : Int32} {c_rowNames : (Nat → Int32)} {c_rows : Int32} {c_picks : (Nat → Nat → Int32)} {c_many : (Nat → Int32)} {c_table : (Nat → Nat → Int64)} {c_columnNames : (Nat → Int32)} {c_columns : Int32} {c_scale : Int64} {v : Int32} (hf : F1_rowOf z x1 c_rowNames c_rows = some v) : xCt l yX1_rowOf ((some .int)) j1_rowOf [.ref 0, .int x1] (hG c_picks c_many c_table c_rowNames c_columnNames c_rows c_columns c_scale) (some (.int v)) (hG c_picks c_many c_table c_rowNames c_columnNames c_rows c_columns c_scale) := xCt_of (by decide) rfl (Nat.le_of_ble_eq_true rfl) (fun _ hX => T1_rowOf hX hf)
theorem m1_rowOf : xMd yX1_rowOf RX1 ((some .int)) j1_rowOf 1 := ⟨List.mem_of_getElem? (i := 891) (by decide +kernel), List.mem_of_getElem? (i := 37) (by decide +kernel), rfl, by decide +kernel⟩
theorem v1_rowOf : xMv yX1_rowOf RX1 := ⟨List.mem_of_getElem? (i := 889) (by decide +kernel), List.mem_of_getElem? (i := 890) (by decide +kernel)⟩
theorem k1_67 : Cond.methodLink RX1 67 yX1_rowOf ∈ wsL_law0 := List.mem_of_getElem? (i := 888) (by decide +kernel)
theorem dX1_isBetter_0 : decode cX1_isBetter 0 = .ok (.aload_n 0, 1) := by decide +kernel
theorem dX1_isBetter_1 : decode cX1_isBetter 1 = .ok (.getfield 22, 3) := by decide +kernel
theorem dX1_isBetter_4 : decode cX1_isBetter 4 = .ok (.aload_n 0, 1) := by decide +kernel
theorem dX1_isBetter_5 : decode cX1_isBetter 5 = .ok (.getfield 57, 3) := by decide +kernel
theorem dX1_isBetter_8 : decode cX1_isBetter 8 = .ok (.aaload, 1) := by decide +kernel
theorem dX1_isBetter_9 : decode cX1_isBetter 9 = .ok (.iload_n 1, 1) := by decide +kernel
theorem dX1_isBetter_10 : decode cX1_isBetter 10 = .ok (.laload, 1) := by decide +kernel
theorem dX1_isBetter_11 : decode cX1_isBetter 11 = .ok (.lstore_n 2, 1) := by decide +kernel
theorem dX1_isBetter_12 : decode cX1_isBetter 12 = .ok (.iconst 0, 1) := by decide +kernel
theorem dX1_isBetter_13 : decode cX1_isBetter 13 = .ok (.istore 4, 2) := by decide +kernel
theorem dX1_isBetter_15 : decode cX1_isBetter 15 = .ok (.iload 4, 2) := by decide +kernel
theorem dX1_isBetter_17 : decode cX1_isBetter 17 = .ok (.aload_n 0, 1) := by decide +kernel
theorem dX1_isBetter_18 : decode cX1_isBetter 18 = .ok (.getfield 60, 3) := by decide +kernel
theorem dX1_isBetter_21 : decode cX1_isBetter 21 = .ok (.if_icmp .ge 56, 3) := by decide +kernel
theorem dX1_isBetter_24 : decode cX1_isBetter 24 = .ok (.lload_n 2, 1) := by decide +kernel
theorem dX1_isBetter_25 : decode cX1_isBetter 25 = .ok (.lconst 0, 1) := by decide +kernel
theorem dX1_isBetter_26 : decode cX1_isBetter 26 = .ok (.lcmp, 1) := by decide +kernel
theorem dX1_isBetter_27 : decode cX1_isBetter 27 = .ok (.ifCond .ne 50, 3) := by decide +kernel
theorem dX1_isBetter_30 : decode cX1_isBetter 30 = .ok (.aload_n 0, 1) := by decide +kernel
theorem dX1_isBetter_31 : decode cX1_isBetter 31 = .ok (.getfield 28, 3) := by decide +kernel
theorem dX1_isBetter_34 : decode cX1_isBetter 34 = .ok (.iload_n 1, 1) := by decide +kernel
theorem dX1_isBetter_35 : decode cX1_isBetter 35 = .ok (.iaload, 1) := by decide +kernel
theorem dX1_isBetter_36 : decode cX1_isBetter 36 = .ok (.iload 4, 2) := by decide +kernel
theorem dX1_isBetter_38 : decode cX1_isBetter 38 = .ok (.if_icmp .ne 5, 3) := by decide +kernel
theorem dX1_isBetter_41 : decode cX1_isBetter 41 = .ok (.iconst 1, 1) := by decide +kernel
theorem dX1_isBetter_42 : decode cX1_isBetter 42 = .ok (.ireturn, 1) := by decide +kernel
theorem dX1_isBetter_43 : decode cX1_isBetter 43 = .ok (.aload_n 0, 1) := by decide +kernel
theorem dX1_isBetter_44 : decode cX1_isBetter 44 = .ok (.iload 4, 2) := by decide +kernel
theorem dX1_isBetter_46 : decode cX1_isBetter 46 = .ok (.invokevirtual 67, 3) := by decide +kernel
theorem dX1_isBetter_49 : decode cX1_isBetter 49 = .ok (.istore 5, 2) := by decide +kernel
theorem dX1_isBetter_51 : decode cX1_isBetter 51 = .ok (.iload 5, 2) := by decide +kernel
theorem dX1_isBetter_53 : decode cX1_isBetter 53 = .ok (.iconst (-1), 1) := by decide +kernel
theorem dX1_isBetter_54 : decode cX1_isBetter 54 = .ok (.if_icmp .ne 7, 3) := by decide +kernel
theorem dX1_isBetter_57 : decode cX1_isBetter 57 = .ok (.lconst 0, 1) := by decide +kernel
theorem dX1_isBetter_58 : decode cX1_isBetter 58 = .ok (.goto 12, 3) := by decide +kernel
theorem dX1_isBetter_61 : decode cX1_isBetter 61 = .ok (.aload_n 0, 1) := by decide +kernel
theorem dX1_isBetter_62 : decode cX1_isBetter 62 = .ok (.getfield 22, 3) := by decide +kernel
theorem dX1_isBetter_65 : decode cX1_isBetter 65 = .ok (.iload 5, 2) := by decide +kernel
theorem dX1_isBetter_67 : decode cX1_isBetter 67 = .ok (.aaload, 1) := by decide +kernel
theorem dX1_isBetter_68 : decode cX1_isBetter 68 = .ok (.iload_n 1, 1) := by decide +kernel
theorem dX1_isBetter_69 : decode cX1_isBetter 69 = .ok (.laload, 1) := by decide +kernel
theorem dX1_isBetter_70 : decode cX1_isBetter 70 = .ok (.lstore_n 2, 1) := by decide +kernel
theorem dX1_isBetter_71 : decode cX1_isBetter 71 = .ok (.iinc 4 1, 3) := by decide +kernel
theorem dX1_isBetter_74 : decode cX1_isBetter 74 = .ok (.goto (-59), 3) := by decide +kernel
theorem dX1_isBetter_77 : decode cX1_isBetter 77 = .ok (.lload_n 2, 1) := by decide +kernel
theorem dX1_isBetter_78 : decode cX1_isBetter 78 = .ok (.lconst 0, 1) := by decide +kernel
theorem dX1_isBetter_79 : decode cX1_isBetter 79 = .ok (.lcmp, 1) := by decide +kernel
theorem dX1_isBetter_80 : decode cX1_isBetter 80 = .ok (.ifCond .ge 7, 3) := by decide +kernel
theorem dX1_isBetter_83 : decode cX1_isBetter 83 = .ok (.iconst 1, 1) := by decide +kernel
theorem dX1_isBetter_84 : decode cX1_isBetter 84 = .ok (.goto 4, 3) := by decide +kernel
theorem dX1_isBetter_87 : decode cX1_isBetter 87 = .ok (.iconst 0, 1) := by decide +kernel
theorem dX1_isBetter_88 : decode cX1_isBetter 88 = .ok (.ireturn, 1) := by decide +kernel
abbrev j1_isBetter : xJ := (cX1_isBetter, 6, RX1, 2, 0, 0)
def F1_isBetter_b77 (z : Nat) (x2 : Int64) (c_table : (Nat → Nat → Int64)) (c_rowNames : (Nat → Int32)) (c_columnNames : (Nat → Int32)) (c_rows : Int32) (c_columns : Int32) : Option (Int32) :=
  if 0 ≤ (lg_cmp x2 (0 : Int64)) then (some ((0 : Int32))) else (some ((1 : Int32)))
theorem T1_isBetter_b77 {X : xX} {c_picks : (Nat → Nat → Int32)} {c_many : (Nat → Int32)} {c_scale : Int64} {x2 : Int64} {c_table : (Nat → Nat → Int64)} {c_rowNames : (Nat → Int32)} {c_columnNames : (Nat → Int32)} {c_rows : Int32} {c_columns : Int32} {z : Nat} {v : Int32} (hX : xIs (j1_isBetter) X ((some .boolean)) (some (.int v)) (hG c_picks c_many c_table c_rowNames c_columnNames c_rows c_columns c_scale)) (hf : F1_isBetter_b77 z x2 c_table c_rowNames c_columnNames c_rows c_columns = some v) : xV (j1_isBetter) X 0 0 (hG c_picks c_many c_table c_rowNames c_columnNames c_rows c_columns c_scale) 77 [(2, .long x2)] [] := by
  unfold F1_isBetter_b77 at hf
  refine xV_lload_n 78 rfl dX1_isBetter_77 rfl 0 rfl ?_
  refine xV_lconst (v := 0) 79 rfl dX1_isBetter_78 (by decide) ?_
  refine xV_lcmp 80 rfl dX1_isBetter_79 ?_
  refine xV_if_ge (tgt := 87) 83 rfl dX1_isBetter_80 (by decide) (fun h80 => ?_) (fun h80 => ?_)
  · have hf := xif_t hf h80
    refine xV_iconst 88 rfl dX1_isBetter_87 xy_i0 ?_
    obtain rfl := Option.some.inj hf
    exact xV_iret hX dX1_isBetter_88 (xbo_ok rfl) (Nat.zero_le _) (Nat.zero_le _)
  · have hf := xif_f hf h80
    refine xV_iconst 84 rfl dX1_isBetter_83 xy_i1 ?_
    refine xV_goto (tgt := 88) dX1_isBetter_84 (by decide) ?_
    obtain rfl := Option.some.inj hf
    exact xV_iret hX dX1_isBetter_88 (xbo_ok rfl) (Nat.zero_le _) (Nat.zero_le _)
def F1_isBetter_b70 (z : Nat) (x1 : Int32) (x4 : Int32) (s0 : Int64) (c_table : (Nat → Nat → Int64)) (c_rowNames : (Nat → Int32)) (c_columnNames : (Nat → Int32)) (c_rows : Int32) (c_columns : Int32) (k15 : Int32 → Int64 → Int32 → (Nat → Nat → Int64) → (Nat → Int32) → (Nat → Int32) → Int32 → Int32 → Option (Int32)) : Option (Int32) :=
  k15 x1 s0 (x4 + (1 : Int32)) c_table c_rowNames c_columnNames c_rows c_columns
theorem T1_isBetter_b70 {X : xX} {c_picks : (Nat → Nat → Int32)} {c_many : (Nat → Int32)} {c_scale : Int64} {x1 : Int32} {x4 : Int32} {s0 : Int64} {c_table : (Nat → Nat → Int64)} {c_rowNames : (Nat → Int32)} {c_columnNames : (Nat → Int32)} {c_rows : Int32} {c_columns : Int32} {z : Nat} {v : Int32} {k15 : Int32 → Int64 → Int32 → (Nat → Nat → Int64) → (Nat → Int32) → (Nat → Int32) → Int32 → Int32 → Option (Int32)} (hX : xIs (j1_isBetter) X ((some .boolean)) (some (.int v)) (hG c_picks c_many c_table c_rowNames c_columnNames c_rows c_columns c_scale)) (hk15 : ∀ {x1 : Int32} {x2 : Int64} {x4 : Int32}, k15 x1 x2 x4 c_table c_rowNames c_columnNames c_rows c_columns = some v → xV (j1_isBetter) X 0 0 (hG c_picks c_many c_table c_rowNames c_columnNames c_rows c_columns c_scale) 15 [(0, .ref 0), (1, .int x1), (2, .long x2), (4, .int x4)] []) (hf : F1_isBetter_b70 z x1 x4 s0 c_table c_rowNames c_columnNames c_rows c_columns k15 = some v) : xV (j1_isBetter) X 0 0 (hG c_picks c_many c_table c_rowNames c_columnNames c_rows c_columns c_scale) 70 [(0, .ref 0), (1, .int x1), (4, .int x4)] [.long s0] := by
  unfold F1_isBetter_b70 at hf
  refine xV_lstore_n (L' := [(2, .long s0), (0, .ref 0), (1, .int x1), (4, .int x4)]) 71 rfl dX1_isBetter_70 rfl (xlt rfl) rfl ?_
  refine xV_iinc (L' := [(4, .int (x4 + (1 : Int32))), (2, .long s0), (0, .ref 0), (1, .int x1)]) 74 rfl dX1_isBetter_71 3 rfl (xk_inc xy_i1) (xlt rfl) rfl ?_
  refine xV_goto (tgt := 15) dX1_isBetter_74 (by decide) ?_
  refine xV_sub [2, 3, 1, 0] rfl ?_
  exact hk15 hf
def F1_isBetter_b15 (z : Nat) (w : Nat) (x1 : Int32) (x2 : Int64) (x4 : Int32) (c_table : (Nat → Nat → Int64)) (c_rowNames : (Nat → Int32)) (c_columnNames : (Nat → Int32)) (c_rows : Int32) (c_columns : Int32) : Option (Int32) := match w with
  | 0 => none
  | w + 1 => if c_columns ≤ x4 then (F1_isBetter_b77 z x2 c_table c_rowNames c_columnNames c_rows c_columns) else (if (lg_cmp x2 (0 : Int64)) = 0 then (xg (xin x1 6) (if (c_columnNames (xn x1)) = x4 then (some ((1 : Int32))) else ((F1_rowOf z x4 c_rowNames c_rows).bind (fun v46 => if v46 = (-1 : Int32) then (F1_isBetter_b70 z x1 x4 (0 : Int64) c_table c_rowNames c_columnNames c_rows c_columns (fun q0 q1 q2 q3 q4 q5 q6 q7 => F1_isBetter_b15 z w q0 q1 q2 q3 q4 q5 q6 q7)) else (xg (xin v46 7) (xg (xin x1 7) (F1_isBetter_b70 z x1 x4 ((c_table (xn v46)) (xn x1)) c_table c_rowNames c_columnNames c_rows c_columns (fun q0 q1 q2 q3 q4 q5 q6 q7 => F1_isBetter_b15 z w q0 q1 q2 q3 q4 q5 q6 q7)))))))) else (F1_isBetter_b77 z x2 c_table c_rowNames c_columnNames c_rows c_columns))
theorem T1_isBetter_b15 {X : xX} {c_picks : (Nat → Nat → Int32)} {c_many : (Nat → Int32)} {c_table : (Nat → Nat → Int64)} {c_rowNames : (Nat → Int32)} {c_columnNames : (Nat → Int32)} {c_rows : Int32} {c_columns : Int32} {c_scale : Int64} {z : Nat} {v : Int32} (hX : xIs (j1_isBetter) X ((some .boolean)) (some (.int v)) (hG c_picks c_many c_table c_rowNames c_columnNames c_rows c_columns c_scale)) : ∀ (w : Nat) {x1 : Int32} {x2 : Int64} {x4 : Int32}, F1_isBetter_b15 z w x1 x2 x4 c_table c_rowNames c_columnNames c_rows c_columns = some v → xV (j1_isBetter) X 0 0 (hG c_picks c_many c_table c_rowNames c_columnNames c_rows c_columns c_scale) 15 [(0, .ref 0), (1, .int x1), (2, .long x2), (4, .int x4)] [] := by
  intro w
  induction w with
  | zero => intro x1 x2 x4 hf; cases hf
  | succ w ih =>
    intro x1 x2 x4 hf
    unfold F1_isBetter_b15 at hf
    refine xV_iload 17 rfl dX1_isBetter_15 3 rfl ?_
    refine xV_aload_n 18 rfl dX1_isBetter_17 rfl 0 rfl ?_
    refine xV_get (v := .int c_columns) 21 rfl dX1_isBetter_18 f1_60 rfl rfl ?_
    refine xV_icmp_ge (tgt := 77) 24 rfl dX1_isBetter_21 (by decide) (fun h21 => ?_) (fun h21 => ?_)
    · have hf := xif_t hf h21
      refine xV_sub [2] rfl ?_
      exact T1_isBetter_b77 hX hf
    · have hf := xif_f hf h21
      refine xV_lload_n 25 rfl dX1_isBetter_24 rfl 2 rfl ?_
      refine xV_lconst (v := 0) 26 rfl dX1_isBetter_25 (by decide) ?_
      refine xV_lcmp 27 rfl dX1_isBetter_26 ?_
      refine xV_if_ne (tgt := 77) 30 rfl dX1_isBetter_27 (by decide) (fun h27 => ?_) (fun h27 => ?_)
      · have hf := xif_f hf h27
        refine xV_sub [2] rfl ?_
        exact T1_isBetter_b77 hX hf
      · have hf := xif_t hf h27
        refine xV_aload_n 31 rfl dX1_isBetter_30 rfl 0 rfl ?_
        refine xV_get (v := .ref 14) 34 rfl dX1_isBetter_31 f1_28 rfl rfl ?_
        refine xV_iload_n 35 rfl dX1_isBetter_34 rfl 1 rfl ?_
        obtain ⟨hg35, hf⟩ := xg_s hf
        refine xV_iaload 36 rfl dX1_isBetter_35 rfl (xin_ok hg35) rfl ?_
        refine xV_iload 38 rfl dX1_isBetter_36 3 rfl ?_
        refine xV_icmp_ne (tgt := 43) 41 rfl dX1_isBetter_38 (by decide) (fun h38 => ?_) (fun h38 => ?_)
        · have hf := xif_f hf h38
          refine xV_aload_n 44 rfl dX1_isBetter_43 rfl 0 rfl ?_
          refine xV_iload 46 rfl dX1_isBetter_44 3 rfl ?_
          obtain ⟨v46, hv46, hf⟩ := xb_s hf
          refine xV_same (rest := []) 49 rfl dX1_isBetter_46 rfl (C1_rowOf X.1.2.1 hv46) m1_rowOf v1_rowOf k1_67 rfl rfl rfl rfl rfl (Nat.le_of_ble_eq_true rfl) (Nat.le_of_ble_eq_true rfl) (Nat.le_of_ble_eq_true rfl) ⟨Nat.le_refl _, Nat.le_refl _⟩ ?_
          show xV (j1_isBetter) X 0 0 (hG c_picks c_many c_table c_rowNames c_columnNames c_rows c_columns c_scale) 49 [(0, .ref 0), (1, .int x1), (2, .long x2), (4, .int x4)] [.int v46]
          refine xV_istore (L' := [(5, .int v46), (0, .ref 0), (1, .int x1), (2, .long x2), (4, .int x4)]) 51 rfl dX1_isBetter_49 (xlt rfl) rfl ?_
          refine xV_iload 53 rfl dX1_isBetter_51 0 rfl ?_
          refine xV_iconst 54 rfl dX1_isBetter_53 xy_im1 ?_
          refine xV_icmp_ne (tgt := 61) 57 rfl dX1_isBetter_54 (by decide) (fun h54 => ?_) (fun h54 => ?_)
          · have hf := xif_f hf h54
            refine xV_aload_n 62 rfl dX1_isBetter_61 rfl 1 rfl ?_
            refine xV_get (v := .ref 5) 65 rfl dX1_isBetter_62 f1_22 rfl rfl ?_
            refine xV_iload 67 rfl dX1_isBetter_65 0 rfl ?_
            obtain ⟨hg67, hf⟩ := xg_s hf
            refine xV_aaload (b := (6 + (xn v46))) 68 rfl dX1_isBetter_67 rfl rfl rfl (xin_ok hg67) (by show ([6, 7, 8, 9, 10, 11, 12] : List Nat)[(xn v46)]? = some (6 + (xn v46)); have hi := xin_lt hg67; generalize (xn v46) = i at hi ⊢; match i, hi with | 0, _ => rfl | 1, _ => rfl | 2, _ => rfl | 3, _ => rfl | 4, _ => rfl | 5, _ => rfl | 6, _ => rfl) ?_
            refine xV_iload_n 69 rfl dX1_isBetter_68 rfl 2 rfl ?_
            obtain ⟨hg69, hf⟩ := xg_s hf
            refine xV_laload (f := (c_table (xn v46))) (z := 7) 70 rfl dX1_isBetter_69 (by have hi := (xin_lt hg67); generalize (xn v46) = i at hi ⊢; match i, hi with | 0, _ => exact rfl | 1, _ => exact rfl | 2, _ => exact rfl | 3, _ => exact rfl | 4, _ => exact rfl | 5, _ => exact rfl | 6, _ => exact rfl) (xin_ok hg69) rfl ?_
            refine xV_sub [1, 2, 4] rfl ?_
            exact T1_isBetter_b70 hX (fun {_ _ _} hq => ih hq) hf
          · have hf := xif_t hf h54
            refine xV_lconst (v := 0) 58 rfl dX1_isBetter_57 (by decide) ?_
            refine xV_goto (tgt := 70) dX1_isBetter_58 (by decide) ?_
            refine xV_sub [1, 2, 4] rfl ?_
            exact T1_isBetter_b70 hX (fun {_ _ _} hq => ih hq) hf
        · have hf := xif_t hf h38
          refine xV_iconst 42 rfl dX1_isBetter_41 xy_i1 ?_
          obtain rfl := Option.some.inj hf
          exact xV_iret hX dX1_isBetter_42 (xbo_ok rfl) (Nat.zero_le _) (Nat.zero_le _)
def F1_isBetter (z : Nat) (x1 : Int32) (c_table : (Nat → Nat → Int64)) (c_rowNames : (Nat → Int32)) (c_columnNames : (Nat → Int32)) (c_rows : Int32) (c_columns : Int32) : Option (Int32) :=
  xg (xin c_rows 7) (xg (xin x1 7) (F1_isBetter_b15 z z x1 ((c_table (xn c_rows)) (xn x1)) (0 : Int32) c_table c_rowNames c_columnNames c_rows c_columns))
theorem T1_isBetter {X : xX} {z : Nat} {x1 : Int32} {c_table : (Nat → Nat → Int64)} {c_rowNames : (Nat → Int32)} {c_columnNames : (Nat → Int32)} {c_rows : Int32} {c_columns : Int32} {c_picks : (Nat → Nat → Int32)} {c_many : (Nat → Int32)} {c_scale : Int64} {v : Int32} (hX : xIs (j1_isBetter) X ((some .boolean)) (some (.int v)) (hG c_picks c_many c_table c_rowNames c_columnNames c_rows c_columns c_scale)) (hf : F1_isBetter z x1 c_table c_rowNames c_columnNames c_rows c_columns = some v) : xV (j1_isBetter) X 0 0 (hG c_picks c_many c_table c_rowNames c_columnNames c_rows c_columns c_scale) 0 [(0, .ref 0), (1, .int x1)] [] := by
  unfold F1_isBetter at hf
  refine xV_aload_n 1 rfl dX1_isBetter_0 rfl 0 rfl ?_
  refine xV_get (v := .ref 5) 4 rfl dX1_isBetter_1 f1_22 rfl rfl ?_
  refine xV_aload_n 5 rfl dX1_isBetter_4 rfl 0 rfl ?_
  refine xV_get (v := .int c_rows) 8 rfl dX1_isBetter_5 f1_57 rfl rfl ?_
  obtain ⟨hg8, hf⟩ := xg_s hf
  refine xV_aaload (b := (6 + (xn c_rows))) 9 rfl dX1_isBetter_8 rfl rfl rfl (xin_ok hg8) (by show ([6, 7, 8, 9, 10, 11, 12] : List Nat)[(xn c_rows)]? = some (6 + (xn c_rows)); have hi := xin_lt hg8; generalize (xn c_rows) = i at hi ⊢; match i, hi with | 0, _ => rfl | 1, _ => rfl | 2, _ => rfl | 3, _ => rfl | 4, _ => rfl | 5, _ => rfl | 6, _ => rfl) ?_
  refine xV_iload_n 10 rfl dX1_isBetter_9 rfl 1 rfl ?_
  obtain ⟨hg10, hf⟩ := xg_s hf
  refine xV_laload (f := (c_table (xn c_rows))) (z := 7) 11 rfl dX1_isBetter_10 (by have hi := (xin_lt hg8); generalize (xn c_rows) = i at hi ⊢; match i, hi with | 0, _ => exact rfl | 1, _ => exact rfl | 2, _ => exact rfl | 3, _ => exact rfl | 4, _ => exact rfl | 5, _ => exact rfl | 6, _ => exact rfl) (xin_ok hg10) rfl ?_
  refine xV_lstore_n (L' := [(2, .long ((c_table (xn c_rows)) (xn x1))), (0, .ref 0), (1, .int x1)]) 12 rfl dX1_isBetter_11 rfl (xlt rfl) rfl ?_
  refine xV_iconst 13 rfl dX1_isBetter_12 xy_i0 ?_
  refine xV_istore (L' := [(4, .int (0 : Int32)), (2, .long ((c_table (xn c_rows)) (xn x1))), (0, .ref 0), (1, .int x1)]) 15 rfl dX1_isBetter_13 (xlt rfl) rfl ?_
  refine xV_sub [2, 3, 1, 0] rfl ?_
  exact T1_isBetter_b15 hX _ hf
theorem C1_isBetter (l : Launch) {z : Nat} {x1 : Int32} {c_table : (Nat → Nat → Int64)} {c_rowNames : (Nat → Int32)} {c_columnNames : (Nat → Int32)} {c_rows : Int32} {c_columns : Int32} {c_picks : (Nat → Nat → Int32)} {c_many : (Nat → Int32)} {c_scale : Int64} {v : Int32} (hf : F1_isBetter z x1 c_table c_rowNames c_columnNames c_rows c_columns = some v) : xCt l yX1_isBetter ((some .boolean)) j1_isBetter [.ref 0, .int x1] (hG c_picks c_many c_table c_rowNames c_columnNames c_rows c_columns c_scale) (some (.int v)) (hG c_picks c_many c_table c_rowNames c_columnNames c_rows c_columns c_scale) := xCt_of (by decide) rfl (Nat.le_of_ble_eq_true rfl) (fun _ hX => T1_isBetter hX hf)
theorem m1_isBetter : xMd yX1_isBetter RX1 ((some .boolean)) j1_isBetter 1 := ⟨List.mem_of_getElem? (i := 887) (by decide +kernel), List.mem_of_getElem? (i := 37) (by decide +kernel), rfl, by decide +kernel⟩
theorem v1_isBetter : xMv yX1_isBetter RX1 := ⟨List.mem_of_getElem? (i := 885) (by decide +kernel), List.mem_of_getElem? (i := 886) (by decide +kernel)⟩
theorem k1_78 : Cond.methodLink RX1 78 yX1_isBetter ∈ wsL_law0 := List.mem_of_getElem? (i := 884) (by decide +kernel)
theorem dX1_entering_0 : decode cX1_entering 0 = .ok (.iconst (-1), 1) := by decide +kernel
theorem dX1_entering_1 : decode cX1_entering 1 = .ok (.istore_n 1, 1) := by decide +kernel
theorem dX1_entering_2 : decode cX1_entering 2 = .ok (.iconst 0, 1) := by decide +kernel
theorem dX1_entering_3 : decode cX1_entering 3 = .ok (.istore_n 2, 1) := by decide +kernel
theorem dX1_entering_4 : decode cX1_entering 4 = .ok (.iload_n 2, 1) := by decide +kernel
theorem dX1_entering_5 : decode cX1_entering 5 = .ok (.aload_n 0, 1) := by decide +kernel
theorem dX1_entering_6 : decode cX1_entering 6 = .ok (.getfield 60, 3) := by decide +kernel
theorem dX1_entering_9 : decode cX1_entering 9 = .ok (.if_icmp .ge 49, 3) := by decide +kernel
theorem dX1_entering_12 : decode cX1_entering 12 = .ok (.iload_n 1, 1) := by decide +kernel
theorem dX1_entering_13 : decode cX1_entering 13 = .ok (.iconst (-1), 1) := by decide +kernel
theorem dX1_entering_14 : decode cX1_entering 14 = .ok (.if_icmp .eq 18, 3) := by decide +kernel
theorem dX1_entering_17 : decode cX1_entering 17 = .ok (.aload_n 0, 1) := by decide +kernel
theorem dX1_entering_18 : decode cX1_entering 18 = .ok (.getfield 28, 3) := by decide +kernel
theorem dX1_entering_21 : decode cX1_entering 21 = .ok (.iload_n 2, 1) := by decide +kernel
theorem dX1_entering_22 : decode cX1_entering 22 = .ok (.iaload, 1) := by decide +kernel
theorem dX1_entering_23 : decode cX1_entering 23 = .ok (.aload_n 0, 1) := by decide +kernel
theorem dX1_entering_24 : decode cX1_entering 24 = .ok (.getfield 28, 3) := by decide +kernel
theorem dX1_entering_27 : decode cX1_entering 27 = .ok (.iload_n 1, 1) := by decide +kernel
theorem dX1_entering_28 : decode cX1_entering 28 = .ok (.iaload, 1) := by decide +kernel
theorem dX1_entering_29 : decode cX1_entering 29 = .ok (.if_icmp .ge 7, 3) := by decide +kernel
theorem dX1_entering_32 : decode cX1_entering 32 = .ok (.iconst 1, 1) := by decide +kernel
theorem dX1_entering_33 : decode cX1_entering 33 = .ok (.goto 4, 3) := by decide +kernel
theorem dX1_entering_36 : decode cX1_entering 36 = .ok (.iconst 0, 1) := by decide +kernel
theorem dX1_entering_37 : decode cX1_entering 37 = .ok (.istore_n 3, 1) := by decide +kernel
theorem dX1_entering_38 : decode cX1_entering 38 = .ok (.iload_n 3, 1) := by decide +kernel
theorem dX1_entering_39 : decode cX1_entering 39 = .ok (.ifCond .eq 13, 3) := by decide +kernel
theorem dX1_entering_42 : decode cX1_entering 42 = .ok (.aload_n 0, 1) := by decide +kernel
theorem dX1_entering_43 : decode cX1_entering 43 = .ok (.iload_n 2, 1) := by decide +kernel
theorem dX1_entering_44 : decode cX1_entering 44 = .ok (.invokevirtual 78, 3) := by decide +kernel
theorem dX1_entering_47 : decode cX1_entering 47 = .ok (.ifCond .eq 5, 3) := by decide +kernel
theorem dX1_entering_50 : decode cX1_entering 50 = .ok (.iload_n 2, 1) := by decide +kernel
theorem dX1_entering_51 : decode cX1_entering 51 = .ok (.istore_n 1, 1) := by decide +kernel
theorem dX1_entering_52 : decode cX1_entering 52 = .ok (.iinc 2 1, 3) := by decide +kernel
theorem dX1_entering_55 : decode cX1_entering 55 = .ok (.goto (-51), 3) := by decide +kernel
theorem dX1_entering_58 : decode cX1_entering 58 = .ok (.iload_n 1, 1) := by decide +kernel
theorem dX1_entering_59 : decode cX1_entering 59 = .ok (.ireturn, 1) := by decide +kernel
abbrev j1_entering : xJ := (cX1_entering, 4, RX1, 3, 0, 0)
def F1_entering_b52 (z : Nat) (x1 : Int32) (x2 : Int32) (c_table : (Nat → Nat → Int64)) (c_rowNames : (Nat → Int32)) (c_columnNames : (Nat → Int32)) (c_rows : Int32) (c_columns : Int32) (k4 : Int32 → Int32 → (Nat → Nat → Int64) → (Nat → Int32) → (Nat → Int32) → Int32 → Int32 → Option (Int32)) : Option (Int32) :=
  k4 x1 (x2 + (1 : Int32)) c_table c_rowNames c_columnNames c_rows c_columns
theorem T1_entering_b52 {X : xX} {c_picks : (Nat → Nat → Int32)} {c_many : (Nat → Int32)} {c_scale : Int64} {x1 : Int32} {x2 : Int32} {c_table : (Nat → Nat → Int64)} {c_rowNames : (Nat → Int32)} {c_columnNames : (Nat → Int32)} {c_rows : Int32} {c_columns : Int32} {z : Nat} {v : Int32} {k4 : Int32 → Int32 → (Nat → Nat → Int64) → (Nat → Int32) → (Nat → Int32) → Int32 → Int32 → Option (Int32)} (hX : xIs (j1_entering) X ((some .int)) (some (.int v)) (hG c_picks c_many c_table c_rowNames c_columnNames c_rows c_columns c_scale)) (hk4 : ∀ {x1 : Int32} {x2 : Int32}, k4 x1 x2 c_table c_rowNames c_columnNames c_rows c_columns = some v → xV (j1_entering) X 0 0 (hG c_picks c_many c_table c_rowNames c_columnNames c_rows c_columns c_scale) 4 [(0, .ref 0), (1, .int x1), (2, .int x2)] []) (hf : F1_entering_b52 z x1 x2 c_table c_rowNames c_columnNames c_rows c_columns k4 = some v) : xV (j1_entering) X 0 0 (hG c_picks c_many c_table c_rowNames c_columnNames c_rows c_columns c_scale) 52 [(0, .ref 0), (1, .int x1), (2, .int x2)] [] := by
  unfold F1_entering_b52 at hf
  refine xV_iinc (L' := [(2, .int (x2 + (1 : Int32))), (0, .ref 0), (1, .int x1)]) 55 rfl dX1_entering_52 2 rfl (xk_inc xy_i1) (xlt rfl) rfl ?_
  refine xV_goto (tgt := 4) dX1_entering_55 (by decide) ?_
  refine xV_sub [1, 2, 0] rfl ?_
  exact hk4 hf
def F1_entering_b37 (z : Nat) (x1 : Int32) (x2 : Int32) (s0 : Int32) (c_table : (Nat → Nat → Int64)) (c_rowNames : (Nat → Int32)) (c_columnNames : (Nat → Int32)) (c_rows : Int32) (c_columns : Int32) (k4 : Int32 → Int32 → (Nat → Nat → Int64) → (Nat → Int32) → (Nat → Int32) → Int32 → Int32 → Option (Int32)) : Option (Int32) :=
  if s0 = 0 then (F1_entering_b52 z x1 x2 c_table c_rowNames c_columnNames c_rows c_columns k4) else ((F1_isBetter z x2 c_table c_rowNames c_columnNames c_rows c_columns).bind (fun v44 => if v44 = 0 then (F1_entering_b52 z x1 x2 c_table c_rowNames c_columnNames c_rows c_columns k4) else (F1_entering_b52 z x2 x2 c_table c_rowNames c_columnNames c_rows c_columns k4)))
theorem T1_entering_b37 {X : xX} {c_picks : (Nat → Nat → Int32)} {c_many : (Nat → Int32)} {c_scale : Int64} {x1 : Int32} {x2 : Int32} {s0 : Int32} {c_table : (Nat → Nat → Int64)} {c_rowNames : (Nat → Int32)} {c_columnNames : (Nat → Int32)} {c_rows : Int32} {c_columns : Int32} {z : Nat} {v : Int32} {k4 : Int32 → Int32 → (Nat → Nat → Int64) → (Nat → Int32) → (Nat → Int32) → Int32 → Int32 → Option (Int32)} (hX : xIs (j1_entering) X ((some .int)) (some (.int v)) (hG c_picks c_many c_table c_rowNames c_columnNames c_rows c_columns c_scale)) (hk4 : ∀ {x1 : Int32} {x2 : Int32}, k4 x1 x2 c_table c_rowNames c_columnNames c_rows c_columns = some v → xV (j1_entering) X 0 0 (hG c_picks c_many c_table c_rowNames c_columnNames c_rows c_columns c_scale) 4 [(0, .ref 0), (1, .int x1), (2, .int x2)] []) (hf : F1_entering_b37 z x1 x2 s0 c_table c_rowNames c_columnNames c_rows c_columns k4 = some v) : xV (j1_entering) X 0 0 (hG c_picks c_many c_table c_rowNames c_columnNames c_rows c_columns c_scale) 37 [(0, .ref 0), (1, .int x1), (2, .int x2)] [.int s0] := by
  unfold F1_entering_b37 at hf
  refine xV_istore_n (L' := [(3, .int s0), (0, .ref 0), (1, .int x1), (2, .int x2)]) 38 rfl dX1_entering_37 rfl (xlt rfl) rfl ?_
  refine xV_iload_n 39 rfl dX1_entering_38 rfl 0 rfl ?_
  refine xV_if_eq (tgt := 52) 42 rfl dX1_entering_39 (by decide) (fun h39 => ?_) (fun h39 => ?_)
  · have hf := xif_t hf h39
    refine xV_sub [1, 2, 3] rfl ?_
    exact T1_entering_b52 hX hk4 hf
  · have hf := xif_f hf h39
    refine xV_aload_n 43 rfl dX1_entering_42 rfl 1 rfl ?_
    refine xV_iload_n 44 rfl dX1_entering_43 rfl 3 rfl ?_
    obtain ⟨v44, hv44, hf⟩ := xb_s hf
    refine xV_same (rest := []) 47 rfl dX1_entering_44 rfl (C1_isBetter X.1.2.1 hv44) m1_isBetter v1_isBetter k1_78 rfl rfl rfl rfl rfl (Nat.le_of_ble_eq_true rfl) (Nat.le_of_ble_eq_true rfl) (Nat.le_of_ble_eq_true rfl) ⟨Nat.le_refl _, Nat.le_refl _⟩ ?_
    show xV (j1_entering) X 0 0 (hG c_picks c_many c_table c_rowNames c_columnNames c_rows c_columns c_scale) 47 [(3, .int s0), (0, .ref 0), (1, .int x1), (2, .int x2)] [.int v44]
    refine xV_if_eq (tgt := 52) 50 rfl dX1_entering_47 (by decide) (fun h47 => ?_) (fun h47 => ?_)
    · have hf := xif_t hf h47
      refine xV_sub [1, 2, 3] rfl ?_
      exact T1_entering_b52 hX hk4 hf
    · have hf := xif_f hf h47
      refine xV_iload_n 51 rfl dX1_entering_50 rfl 3 rfl ?_
      refine xV_istore_n (L' := [(1, .int x2), (3, .int s0), (0, .ref 0), (2, .int x2)]) 52 rfl dX1_entering_51 rfl (xlt rfl) rfl ?_
      refine xV_sub [2, 0, 3] rfl ?_
      exact T1_entering_b52 hX hk4 hf
def F1_entering_b4 (z : Nat) (w : Nat) (x1 : Int32) (x2 : Int32) (c_table : (Nat → Nat → Int64)) (c_rowNames : (Nat → Int32)) (c_columnNames : (Nat → Int32)) (c_rows : Int32) (c_columns : Int32) : Option (Int32) := match w with
  | 0 => none
  | w + 1 => if c_columns ≤ x2 then (some (x1)) else (if x1 = (-1 : Int32) then (F1_entering_b37 z x1 x2 (1 : Int32) c_table c_rowNames c_columnNames c_rows c_columns (fun q0 q1 q2 q3 q4 q5 q6 => F1_entering_b4 z w q0 q1 q2 q3 q4 q5 q6)) else (xg (xin x2 6) (xg (xin x1 6) (if (c_columnNames (xn x1)) ≤ (c_columnNames (xn x2)) then (F1_entering_b37 z x1 x2 (0 : Int32) c_table c_rowNames c_columnNames c_rows c_columns (fun q0 q1 q2 q3 q4 q5 q6 => F1_entering_b4 z w q0 q1 q2 q3 q4 q5 q6)) else (F1_entering_b37 z x1 x2 (1 : Int32) c_table c_rowNames c_columnNames c_rows c_columns (fun q0 q1 q2 q3 q4 q5 q6 => F1_entering_b4 z w q0 q1 q2 q3 q4 q5 q6))))))
theorem T1_entering_b4 {X : xX} {c_picks : (Nat → Nat → Int32)} {c_many : (Nat → Int32)} {c_table : (Nat → Nat → Int64)} {c_rowNames : (Nat → Int32)} {c_columnNames : (Nat → Int32)} {c_rows : Int32} {c_columns : Int32} {c_scale : Int64} {z : Nat} {v : Int32} (hX : xIs (j1_entering) X ((some .int)) (some (.int v)) (hG c_picks c_many c_table c_rowNames c_columnNames c_rows c_columns c_scale)) : ∀ (w : Nat) {x1 : Int32} {x2 : Int32}, F1_entering_b4 z w x1 x2 c_table c_rowNames c_columnNames c_rows c_columns = some v → xV (j1_entering) X 0 0 (hG c_picks c_many c_table c_rowNames c_columnNames c_rows c_columns c_scale) 4 [(0, .ref 0), (1, .int x1), (2, .int x2)] [] := by
  intro w
  induction w with
  | zero => intro x1 x2 hf; cases hf
  | succ w ih =>
    intro x1 x2 hf
    unfold F1_entering_b4 at hf
    refine xV_iload_n 5 rfl dX1_entering_4 rfl 2 rfl ?_
    refine xV_aload_n 6 rfl dX1_entering_5 rfl 0 rfl ?_
    refine xV_get (v := .int c_columns) 9 rfl dX1_entering_6 f1_60 rfl rfl ?_
    refine xV_icmp_ge (tgt := 58) 12 rfl dX1_entering_9 (by decide) (fun h9 => ?_) (fun h9 => ?_)
    · have hf := xif_t hf h9
      refine xV_iload_n 59 rfl dX1_entering_58 rfl 1 rfl ?_
      obtain rfl := Option.some.inj hf
      exact xV_iret hX dX1_entering_59 rfl (Nat.zero_le _) (Nat.zero_le _)
    · have hf := xif_f hf h9
      refine xV_iload_n 13 rfl dX1_entering_12 rfl 1 rfl ?_
      refine xV_iconst 14 rfl dX1_entering_13 xy_im1 ?_
      refine xV_icmp_eq (tgt := 32) 17 rfl dX1_entering_14 (by decide) (fun h14 => ?_) (fun h14 => ?_)
      · have hf := xif_t hf h14
        refine xV_iconst 33 rfl dX1_entering_32 xy_i1 ?_
        refine xV_goto (tgt := 37) dX1_entering_33 (by decide) ?_
        exact T1_entering_b37 hX (fun {_ _} hq => ih hq) hf
      · have hf := xif_f hf h14
        refine xV_aload_n 18 rfl dX1_entering_17 rfl 0 rfl ?_
        refine xV_get (v := .ref 14) 21 rfl dX1_entering_18 f1_28 rfl rfl ?_
        refine xV_iload_n 22 rfl dX1_entering_21 rfl 2 rfl ?_
        obtain ⟨hg22, hf⟩ := xg_s hf
        refine xV_iaload 23 rfl dX1_entering_22 rfl (xin_ok hg22) rfl ?_
        refine xV_aload_n 24 rfl dX1_entering_23 rfl 0 rfl ?_
        refine xV_get (v := .ref 14) 27 rfl dX1_entering_24 f1_28 rfl rfl ?_
        refine xV_iload_n 28 rfl dX1_entering_27 rfl 1 rfl ?_
        obtain ⟨hg28, hf⟩ := xg_s hf
        refine xV_iaload 29 rfl dX1_entering_28 rfl (xin_ok hg28) rfl ?_
        refine xV_icmp_ge (tgt := 36) 32 rfl dX1_entering_29 (by decide) (fun h29 => ?_) (fun h29 => ?_)
        · have hf := xif_t hf h29
          refine xV_iconst 37 rfl dX1_entering_36 xy_i0 ?_
          exact T1_entering_b37 hX (fun {_ _} hq => ih hq) hf
        · have hf := xif_f hf h29
          refine xV_iconst 33 rfl dX1_entering_32 xy_i1 ?_
          refine xV_goto (tgt := 37) dX1_entering_33 (by decide) ?_
          exact T1_entering_b37 hX (fun {_ _} hq => ih hq) hf
def F1_entering (z : Nat) (c_table : (Nat → Nat → Int64)) (c_rowNames : (Nat → Int32)) (c_columnNames : (Nat → Int32)) (c_rows : Int32) (c_columns : Int32) : Option (Int32) :=
  F1_entering_b4 z z (-1 : Int32) (0 : Int32) c_table c_rowNames c_columnNames c_rows c_columns
theorem T1_entering {X : xX} {z : Nat} {c_table : (Nat → Nat → Int64)} {c_rowNames : (Nat → Int32)} {c_columnNames : (Nat → Int32)} {c_rows : Int32} {c_columns : Int32} {c_picks : (Nat → Nat → Int32)} {c_many : (Nat → Int32)} {c_scale : Int64} {v : Int32} (hX : xIs (j1_entering) X ((some .int)) (some (.int v)) (hG c_picks c_many c_table c_rowNames c_columnNames c_rows c_columns c_scale)) (hf : F1_entering z c_table c_rowNames c_columnNames c_rows c_columns = some v) : xV (j1_entering) X 0 0 (hG c_picks c_many c_table c_rowNames c_columnNames c_rows c_columns c_scale) 0 [(0, .ref 0)] [] := by
  unfold F1_entering at hf
  refine xV_iconst 1 rfl dX1_entering_0 xy_im1 ?_
  refine xV_istore_n (L' := [(1, .int (-1 : Int32)), (0, .ref 0)]) 2 rfl dX1_entering_1 rfl (xlt rfl) rfl ?_
  refine xV_iconst 3 rfl dX1_entering_2 xy_i0 ?_
  refine xV_istore_n (L' := [(2, .int (0 : Int32)), (1, .int (-1 : Int32)), (0, .ref 0)]) 4 rfl dX1_entering_3 rfl (xlt rfl) rfl ?_
  refine xV_sub [2, 1, 0] rfl ?_
  exact T1_entering_b4 hX _ hf
theorem C1_entering (l : Launch) {z : Nat} {c_table : (Nat → Nat → Int64)} {c_rowNames : (Nat → Int32)} {c_columnNames : (Nat → Int32)} {c_rows : Int32} {c_columns : Int32} {c_picks : (Nat → Nat → Int32)} {c_many : (Nat → Int32)} {c_scale : Int64} {v : Int32} (hf : F1_entering z c_table c_rowNames c_columnNames c_rows c_columns = some v) : xCt l yX1_entering ((some .int)) j1_entering [.ref 0] (hG c_picks c_many c_table c_rowNames c_columnNames c_rows c_columns c_scale) (some (.int v)) (hG c_picks c_many c_table c_rowNames c_columnNames c_rows c_columns c_scale) := xCt_of (by decide) rfl (Nat.le_of_ble_eq_true rfl) (fun _ hX => T1_entering hX hf)
theorem m1_entering : xMd yX1_entering RX1 ((some .int)) j1_entering 0 := ⟨List.mem_of_getElem? (i := 883) (by decide +kernel), List.mem_of_getElem? (i := 37) (by decide +kernel), rfl, by decide +kernel⟩
theorem v1_entering : xMv yX1_entering RX1 := ⟨List.mem_of_getElem? (i := 881) (by decide +kernel), List.mem_of_getElem? (i := 882) (by decide +kernel)⟩
theorem dX1_isSooner_0 : decode cX1_isSooner 0 = .ok (.aload_n 0, 1) := by decide +kernel
theorem dX1_isSooner_1 : decode cX1_isSooner 1 = .ok (.getfield 22, 3) := by decide +kernel
theorem dX1_isSooner_4 : decode cX1_isSooner 4 = .ok (.iload_n 1, 1) := by decide +kernel
theorem dX1_isSooner_5 : decode cX1_isSooner 5 = .ok (.aaload, 1) := by decide +kernel
theorem dX1_isSooner_6 : decode cX1_isSooner 6 = .ok (.aload_n 0, 1) := by decide +kernel
theorem dX1_isSooner_7 : decode cX1_isSooner 7 = .ok (.getfield 60, 3) := by decide +kernel
theorem dX1_isSooner_10 : decode cX1_isSooner 10 = .ok (.laload, 1) := by decide +kernel
theorem dX1_isSooner_11 : decode cX1_isSooner 11 = .ok (.aload_n 0, 1) := by decide +kernel
theorem dX1_isSooner_12 : decode cX1_isSooner 12 = .ok (.getfield 22, 3) := by decide +kernel
theorem dX1_isSooner_15 : decode cX1_isSooner 15 = .ok (.iload_n 2, 1) := by decide +kernel
theorem dX1_isSooner_16 : decode cX1_isSooner 16 = .ok (.aaload, 1) := by decide +kernel
theorem dX1_isSooner_17 : decode cX1_isSooner 17 = .ok (.iload_n 3, 1) := by decide +kernel
theorem dX1_isSooner_18 : decode cX1_isSooner 18 = .ok (.laload, 1) := by decide +kernel
theorem dX1_isSooner_19 : decode cX1_isSooner 19 = .ok (.lmul, 1) := by decide +kernel
theorem dX1_isSooner_20 : decode cX1_isSooner 20 = .ok (.lstore 4, 2) := by decide +kernel
theorem dX1_isSooner_22 : decode cX1_isSooner 22 = .ok (.aload_n 0, 1) := by decide +kernel
theorem dX1_isSooner_23 : decode cX1_isSooner 23 = .ok (.getfield 22, 3) := by decide +kernel
theorem dX1_isSooner_26 : decode cX1_isSooner 26 = .ok (.iload_n 2, 1) := by decide +kernel
theorem dX1_isSooner_27 : decode cX1_isSooner 27 = .ok (.aaload, 1) := by decide +kernel
theorem dX1_isSooner_28 : decode cX1_isSooner 28 = .ok (.aload_n 0, 1) := by decide +kernel
theorem dX1_isSooner_29 : decode cX1_isSooner 29 = .ok (.getfield 60, 3) := by decide +kernel
theorem dX1_isSooner_32 : decode cX1_isSooner 32 = .ok (.laload, 1) := by decide +kernel
theorem dX1_isSooner_33 : decode cX1_isSooner 33 = .ok (.aload_n 0, 1) := by decide +kernel
theorem dX1_isSooner_34 : decode cX1_isSooner 34 = .ok (.getfield 22, 3) := by decide +kernel
theorem dX1_isSooner_37 : decode cX1_isSooner 37 = .ok (.iload_n 1, 1) := by decide +kernel
theorem dX1_isSooner_38 : decode cX1_isSooner 38 = .ok (.aaload, 1) := by decide +kernel
theorem dX1_isSooner_39 : decode cX1_isSooner 39 = .ok (.iload_n 3, 1) := by decide +kernel
theorem dX1_isSooner_40 : decode cX1_isSooner 40 = .ok (.laload, 1) := by decide +kernel
theorem dX1_isSooner_41 : decode cX1_isSooner 41 = .ok (.lmul, 1) := by decide +kernel
theorem dX1_isSooner_42 : decode cX1_isSooner 42 = .ok (.lstore 6, 2) := by decide +kernel
theorem dX1_isSooner_44 : decode cX1_isSooner 44 = .ok (.lload 4, 2) := by decide +kernel
theorem dX1_isSooner_46 : decode cX1_isSooner 46 = .ok (.lload 6, 2) := by decide +kernel
theorem dX1_isSooner_48 : decode cX1_isSooner 48 = .ok (.lcmp, 1) := by decide +kernel
theorem dX1_isSooner_49 : decode cX1_isSooner 49 = .ok (.ifCond .eq 19, 3) := by decide +kernel
theorem dX1_isSooner_52 : decode cX1_isSooner 52 = .ok (.lload 4, 2) := by decide +kernel
theorem dX1_isSooner_54 : decode cX1_isSooner 54 = .ok (.lload 6, 2) := by decide +kernel
theorem dX1_isSooner_56 : decode cX1_isSooner 56 = .ok (.lcmp, 1) := by decide +kernel
theorem dX1_isSooner_57 : decode cX1_isSooner 57 = .ok (.ifCond .ge 7, 3) := by decide +kernel
theorem dX1_isSooner_60 : decode cX1_isSooner 60 = .ok (.iconst 1, 1) := by decide +kernel
theorem dX1_isSooner_61 : decode cX1_isSooner 61 = .ok (.goto 27, 3) := by decide +kernel
theorem dX1_isSooner_64 : decode cX1_isSooner 64 = .ok (.iconst 0, 1) := by decide +kernel
theorem dX1_isSooner_65 : decode cX1_isSooner 65 = .ok (.goto 23, 3) := by decide +kernel
theorem dX1_isSooner_68 : decode cX1_isSooner 68 = .ok (.aload_n 0, 1) := by decide +kernel
theorem dX1_isSooner_69 : decode cX1_isSooner 69 = .ok (.getfield 25, 3) := by decide +kernel
theorem dX1_isSooner_72 : decode cX1_isSooner 72 = .ok (.iload_n 1, 1) := by decide +kernel
theorem dX1_isSooner_73 : decode cX1_isSooner 73 = .ok (.iaload, 1) := by decide +kernel
theorem dX1_isSooner_74 : decode cX1_isSooner 74 = .ok (.aload_n 0, 1) := by decide +kernel
theorem dX1_isSooner_75 : decode cX1_isSooner 75 = .ok (.getfield 25, 3) := by decide +kernel
theorem dX1_isSooner_78 : decode cX1_isSooner 78 = .ok (.iload_n 2, 1) := by decide +kernel
theorem dX1_isSooner_79 : decode cX1_isSooner 79 = .ok (.iaload, 1) := by decide +kernel
theorem dX1_isSooner_80 : decode cX1_isSooner 80 = .ok (.if_icmp .ge 7, 3) := by decide +kernel
theorem dX1_isSooner_83 : decode cX1_isSooner 83 = .ok (.iconst 1, 1) := by decide +kernel
theorem dX1_isSooner_84 : decode cX1_isSooner 84 = .ok (.goto 4, 3) := by decide +kernel
theorem dX1_isSooner_87 : decode cX1_isSooner 87 = .ok (.iconst 0, 1) := by decide +kernel
theorem dX1_isSooner_88 : decode cX1_isSooner 88 = .ok (.ireturn, 1) := by decide +kernel
abbrev j1_isSooner : xJ := (cX1_isSooner, 8, RX1, 1, 0, 0)
def F1_isSooner (x1 : Int32) (x2 : Int32) (x3 : Int32) (c_table : (Nat → Nat → Int64)) (c_rowNames : (Nat → Int32)) (c_columns : Int32) : Option (Int32) :=
  xg (xin x1 7) (xg (xin c_columns 7) (xg (xin x2 7) (xg (xin x3 7) (xg (xin x2 7) (xg (xin c_columns 7) (xg (xin x1 7) (xg (xin x3 7) (if (lg_cmp (((c_table (xn x1)) (xn c_columns)) * ((c_table (xn x2)) (xn x3))) (((c_table (xn x2)) (xn c_columns)) * ((c_table (xn x1)) (xn x3)))) = 0 then (xg (xin x1 6) (xg (xin x2 6) (if (c_rowNames (xn x2)) ≤ (c_rowNames (xn x1)) then (some ((0 : Int32))) else (some ((1 : Int32)))))) else (if 0 ≤ (lg_cmp (((c_table (xn x1)) (xn c_columns)) * ((c_table (xn x2)) (xn x3))) (((c_table (xn x2)) (xn c_columns)) * ((c_table (xn x1)) (xn x3)))) then (some ((0 : Int32))) else (some ((1 : Int32))))))))))))
theorem T1_isSooner {X : xX} {x1 : Int32} {x2 : Int32} {x3 : Int32} {c_table : (Nat → Nat → Int64)} {c_rowNames : (Nat → Int32)} {c_columns : Int32} {c_picks : (Nat → Nat → Int32)} {c_many : (Nat → Int32)} {c_columnNames : (Nat → Int32)} {c_rows : Int32} {c_scale : Int64} {v : Int32} (hX : xIs (j1_isSooner) X ((some .boolean)) (some (.int v)) (hG c_picks c_many c_table c_rowNames c_columnNames c_rows c_columns c_scale)) (hf : F1_isSooner x1 x2 x3 c_table c_rowNames c_columns = some v) : xV (j1_isSooner) X 0 0 (hG c_picks c_many c_table c_rowNames c_columnNames c_rows c_columns c_scale) 0 [(0, .ref 0), (1, .int x1), (2, .int x2), (3, .int x3)] [] := by
  unfold F1_isSooner at hf
  refine xV_aload_n 1 rfl dX1_isSooner_0 rfl 0 rfl ?_
  refine xV_get (v := .ref 5) 4 rfl dX1_isSooner_1 f1_22 rfl rfl ?_
  refine xV_iload_n 5 rfl dX1_isSooner_4 rfl 1 rfl ?_
  obtain ⟨hg5, hf⟩ := xg_s hf
  refine xV_aaload (b := (6 + (xn x1))) 6 rfl dX1_isSooner_5 rfl rfl rfl (xin_ok hg5) (by show ([6, 7, 8, 9, 10, 11, 12] : List Nat)[(xn x1)]? = some (6 + (xn x1)); have hi := xin_lt hg5; generalize (xn x1) = i at hi ⊢; match i, hi with | 0, _ => rfl | 1, _ => rfl | 2, _ => rfl | 3, _ => rfl | 4, _ => rfl | 5, _ => rfl | 6, _ => rfl) ?_
  refine xV_aload_n 7 rfl dX1_isSooner_6 rfl 0 rfl ?_
  refine xV_get (v := .int c_columns) 10 rfl dX1_isSooner_7 f1_60 rfl rfl ?_
  obtain ⟨hg10, hf⟩ := xg_s hf
  refine xV_laload (f := (c_table (xn x1))) (z := 7) 11 rfl dX1_isSooner_10 (by have hi := (xin_lt hg5); generalize (xn x1) = i at hi ⊢; match i, hi with | 0, _ => exact rfl | 1, _ => exact rfl | 2, _ => exact rfl | 3, _ => exact rfl | 4, _ => exact rfl | 5, _ => exact rfl | 6, _ => exact rfl) (xin_ok hg10) rfl ?_
  refine xV_aload_n 12 rfl dX1_isSooner_11 rfl 0 rfl ?_
  refine xV_get (v := .ref 5) 15 rfl dX1_isSooner_12 f1_22 rfl rfl ?_
  refine xV_iload_n 16 rfl dX1_isSooner_15 rfl 2 rfl ?_
  obtain ⟨hg16, hf⟩ := xg_s hf
  refine xV_aaload (b := (6 + (xn x2))) 17 rfl dX1_isSooner_16 rfl rfl rfl (xin_ok hg16) (by show ([6, 7, 8, 9, 10, 11, 12] : List Nat)[(xn x2)]? = some (6 + (xn x2)); have hi := xin_lt hg16; generalize (xn x2) = i at hi ⊢; match i, hi with | 0, _ => rfl | 1, _ => rfl | 2, _ => rfl | 3, _ => rfl | 4, _ => rfl | 5, _ => rfl | 6, _ => rfl) ?_
  refine xV_iload_n 18 rfl dX1_isSooner_17 rfl 3 rfl ?_
  obtain ⟨hg18, hf⟩ := xg_s hf
  refine xV_laload (f := (c_table (xn x2))) (z := 7) 19 rfl dX1_isSooner_18 (by have hi := (xin_lt hg16); generalize (xn x2) = i at hi ⊢; match i, hi with | 0, _ => exact rfl | 1, _ => exact rfl | 2, _ => exact rfl | 3, _ => exact rfl | 4, _ => exact rfl | 5, _ => exact rfl | 6, _ => exact rfl) (xin_ok hg18) rfl ?_
  refine xV_lmul 20 rfl dX1_isSooner_19 ?_
  refine xV_lstore (L' := [(4, .long (((c_table (xn x1)) (xn c_columns)) * ((c_table (xn x2)) (xn x3)))), (0, .ref 0), (1, .int x1), (2, .int x2), (3, .int x3)]) 22 rfl dX1_isSooner_20 (xlt rfl) rfl ?_
  refine xV_aload_n 23 rfl dX1_isSooner_22 rfl 1 rfl ?_
  refine xV_get (v := .ref 5) 26 rfl dX1_isSooner_23 f1_22 rfl rfl ?_
  refine xV_iload_n 27 rfl dX1_isSooner_26 rfl 3 rfl ?_
  obtain ⟨hg27, hf⟩ := xg_s hf
  refine xV_aaload (b := (6 + (xn x2))) 28 rfl dX1_isSooner_27 rfl rfl rfl (xin_ok hg27) (by show ([6, 7, 8, 9, 10, 11, 12] : List Nat)[(xn x2)]? = some (6 + (xn x2)); have hi := xin_lt hg27; generalize (xn x2) = i at hi ⊢; match i, hi with | 0, _ => rfl | 1, _ => rfl | 2, _ => rfl | 3, _ => rfl | 4, _ => rfl | 5, _ => rfl | 6, _ => rfl) ?_
  refine xV_aload_n 29 rfl dX1_isSooner_28 rfl 1 rfl ?_
  refine xV_get (v := .int c_columns) 32 rfl dX1_isSooner_29 f1_60 rfl rfl ?_
  obtain ⟨hg32, hf⟩ := xg_s hf
  refine xV_laload (f := (c_table (xn x2))) (z := 7) 33 rfl dX1_isSooner_32 (by have hi := (xin_lt hg27); generalize (xn x2) = i at hi ⊢; match i, hi with | 0, _ => exact rfl | 1, _ => exact rfl | 2, _ => exact rfl | 3, _ => exact rfl | 4, _ => exact rfl | 5, _ => exact rfl | 6, _ => exact rfl) (xin_ok hg32) rfl ?_
  refine xV_aload_n 34 rfl dX1_isSooner_33 rfl 1 rfl ?_
  refine xV_get (v := .ref 5) 37 rfl dX1_isSooner_34 f1_22 rfl rfl ?_
  refine xV_iload_n 38 rfl dX1_isSooner_37 rfl 2 rfl ?_
  obtain ⟨hg38, hf⟩ := xg_s hf
  refine xV_aaload (b := (6 + (xn x1))) 39 rfl dX1_isSooner_38 rfl rfl rfl (xin_ok hg38) (by show ([6, 7, 8, 9, 10, 11, 12] : List Nat)[(xn x1)]? = some (6 + (xn x1)); have hi := xin_lt hg38; generalize (xn x1) = i at hi ⊢; match i, hi with | 0, _ => rfl | 1, _ => rfl | 2, _ => rfl | 3, _ => rfl | 4, _ => rfl | 5, _ => rfl | 6, _ => rfl) ?_
  refine xV_iload_n 40 rfl dX1_isSooner_39 rfl 4 rfl ?_
  obtain ⟨hg40, hf⟩ := xg_s hf
  refine xV_laload (f := (c_table (xn x1))) (z := 7) 41 rfl dX1_isSooner_40 (by have hi := (xin_lt hg38); generalize (xn x1) = i at hi ⊢; match i, hi with | 0, _ => exact rfl | 1, _ => exact rfl | 2, _ => exact rfl | 3, _ => exact rfl | 4, _ => exact rfl | 5, _ => exact rfl | 6, _ => exact rfl) (xin_ok hg40) rfl ?_
  refine xV_lmul 42 rfl dX1_isSooner_41 ?_
  refine xV_lstore (L' := [(6, .long (((c_table (xn x2)) (xn c_columns)) * ((c_table (xn x1)) (xn x3)))), (4, .long (((c_table (xn x1)) (xn c_columns)) * ((c_table (xn x2)) (xn x3)))), (0, .ref 0), (1, .int x1), (2, .int x2), (3, .int x3)]) 44 rfl dX1_isSooner_42 (xlt rfl) rfl ?_
  refine xV_lload 46 rfl dX1_isSooner_44 1 rfl ?_
  refine xV_lload 48 rfl dX1_isSooner_46 0 rfl ?_
  refine xV_lcmp 49 rfl dX1_isSooner_48 ?_
  refine xV_if_eq (tgt := 68) 52 rfl dX1_isSooner_49 (by decide) (fun h49 => ?_) (fun h49 => ?_)
  · have hf := xif_t hf h49
    refine xV_aload_n 69 rfl dX1_isSooner_68 rfl 2 rfl ?_
    refine xV_get (v := .ref 13) 72 rfl dX1_isSooner_69 f1_25 rfl rfl ?_
    refine xV_iload_n 73 rfl dX1_isSooner_72 rfl 3 rfl ?_
    obtain ⟨hg73, hf⟩ := xg_s hf
    refine xV_iaload 74 rfl dX1_isSooner_73 rfl (xin_ok hg73) rfl ?_
    refine xV_aload_n 75 rfl dX1_isSooner_74 rfl 2 rfl ?_
    refine xV_get (v := .ref 13) 78 rfl dX1_isSooner_75 f1_25 rfl rfl ?_
    refine xV_iload_n 79 rfl dX1_isSooner_78 rfl 4 rfl ?_
    obtain ⟨hg79, hf⟩ := xg_s hf
    refine xV_iaload 80 rfl dX1_isSooner_79 rfl (xin_ok hg79) rfl ?_
    refine xV_icmp_ge (tgt := 87) 83 rfl dX1_isSooner_80 (by decide) (fun h80 => ?_) (fun h80 => ?_)
    · have hf := xif_t hf h80
      refine xV_iconst 88 rfl dX1_isSooner_87 xy_i0 ?_
      obtain rfl := Option.some.inj hf
      exact xV_iret hX dX1_isSooner_88 (xbo_ok rfl) (Nat.zero_le _) (Nat.zero_le _)
    · have hf := xif_f hf h80
      refine xV_iconst 84 rfl dX1_isSooner_83 xy_i1 ?_
      refine xV_goto (tgt := 88) dX1_isSooner_84 (by decide) ?_
      obtain rfl := Option.some.inj hf
      exact xV_iret hX dX1_isSooner_88 (xbo_ok rfl) (Nat.zero_le _) (Nat.zero_le _)
  · have hf := xif_f hf h49
    refine xV_lload 54 rfl dX1_isSooner_52 1 rfl ?_
    refine xV_lload 56 rfl dX1_isSooner_54 0 rfl ?_
    refine xV_lcmp 57 rfl dX1_isSooner_56 ?_
    refine xV_if_ge (tgt := 64) 60 rfl dX1_isSooner_57 (by decide) (fun h57 => ?_) (fun h57 => ?_)
    · have hf := xif_t hf h57
      refine xV_iconst 65 rfl dX1_isSooner_64 xy_i0 ?_
      refine xV_goto (tgt := 88) dX1_isSooner_65 (by decide) ?_
      obtain rfl := Option.some.inj hf
      exact xV_iret hX dX1_isSooner_88 (xbo_ok rfl) (Nat.zero_le _) (Nat.zero_le _)
    · have hf := xif_f hf h57
      refine xV_iconst 61 rfl dX1_isSooner_60 xy_i1 ?_
      refine xV_goto (tgt := 88) dX1_isSooner_61 (by decide) ?_
      obtain rfl := Option.some.inj hf
      exact xV_iret hX dX1_isSooner_88 (xbo_ok rfl) (Nat.zero_le _) (Nat.zero_le _)
theorem C1_isSooner (l : Launch) {x1 : Int32} {x2 : Int32} {x3 : Int32} {c_table : (Nat → Nat → Int64)} {c_rowNames : (Nat → Int32)} {c_columns : Int32} {c_picks : (Nat → Nat → Int32)} {c_many : (Nat → Int32)} {c_columnNames : (Nat → Int32)} {c_rows : Int32} {c_scale : Int64} {v : Int32} (hf : F1_isSooner x1 x2 x3 c_table c_rowNames c_columns = some v) : xCt l yX1_isSooner ((some .boolean)) j1_isSooner [.ref 0, .int x1, .int x2, .int x3] (hG c_picks c_many c_table c_rowNames c_columnNames c_rows c_columns c_scale) (some (.int v)) (hG c_picks c_many c_table c_rowNames c_columnNames c_rows c_columns c_scale) := xCt_of (by decide) rfl (Nat.le_of_ble_eq_true rfl) (fun _ hX => T1_isSooner hX hf)
theorem m1_isSooner : xMd yX1_isSooner RX1 ((some .boolean)) j1_isSooner 3 := ⟨List.mem_of_getElem? (i := 899) (by decide +kernel), List.mem_of_getElem? (i := 37) (by decide +kernel), rfl, by decide +kernel⟩
theorem v1_isSooner : xMv yX1_isSooner RX1 := ⟨List.mem_of_getElem? (i := 897) (by decide +kernel), List.mem_of_getElem? (i := 898) (by decide +kernel)⟩
theorem k1_82 : Cond.methodLink RX1 82 yX1_isSooner ∈ wsL_law0 := List.mem_of_getElem? (i := 896) (by decide +kernel)
theorem dX1_leaving_0 : decode cX1_leaving 0 = .ok (.iconst (-1), 1) := by decide +kernel
theorem dX1_leaving_1 : decode cX1_leaving 1 = .ok (.istore_n 2, 1) := by decide +kernel
theorem dX1_leaving_2 : decode cX1_leaving 2 = .ok (.iconst 0, 1) := by decide +kernel
theorem dX1_leaving_3 : decode cX1_leaving 3 = .ok (.istore_n 3, 1) := by decide +kernel
theorem dX1_leaving_4 : decode cX1_leaving 4 = .ok (.iload_n 3, 1) := by decide +kernel
theorem dX1_leaving_5 : decode cX1_leaving 5 = .ok (.aload_n 0, 1) := by decide +kernel
theorem dX1_leaving_6 : decode cX1_leaving 6 = .ok (.getfield 57, 3) := by decide +kernel
theorem dX1_leaving_9 : decode cX1_leaving 9 = .ok (.if_icmp .ge 39, 3) := by decide +kernel
theorem dX1_leaving_12 : decode cX1_leaving 12 = .ok (.aload_n 0, 1) := by decide +kernel
theorem dX1_leaving_13 : decode cX1_leaving 13 = .ok (.getfield 22, 3) := by decide +kernel
theorem dX1_leaving_16 : decode cX1_leaving 16 = .ok (.iload_n 3, 1) := by decide +kernel
theorem dX1_leaving_17 : decode cX1_leaving 17 = .ok (.aaload, 1) := by decide +kernel
theorem dX1_leaving_18 : decode cX1_leaving 18 = .ok (.iload_n 1, 1) := by decide +kernel
theorem dX1_leaving_19 : decode cX1_leaving 19 = .ok (.laload, 1) := by decide +kernel
theorem dX1_leaving_20 : decode cX1_leaving 20 = .ok (.lconst 0, 1) := by decide +kernel
theorem dX1_leaving_21 : decode cX1_leaving 21 = .ok (.lcmp, 1) := by decide +kernel
theorem dX1_leaving_22 : decode cX1_leaving 22 = .ok (.ifCond .le 20, 3) := by decide +kernel
theorem dX1_leaving_25 : decode cX1_leaving 25 = .ok (.iload_n 2, 1) := by decide +kernel
theorem dX1_leaving_26 : decode cX1_leaving 26 = .ok (.iconst (-1), 1) := by decide +kernel
theorem dX1_leaving_27 : decode cX1_leaving 27 = .ok (.if_icmp .eq 13, 3) := by decide +kernel
theorem dX1_leaving_30 : decode cX1_leaving 30 = .ok (.aload_n 0, 1) := by decide +kernel
theorem dX1_leaving_31 : decode cX1_leaving 31 = .ok (.iload_n 3, 1) := by decide +kernel
theorem dX1_leaving_32 : decode cX1_leaving 32 = .ok (.iload_n 2, 1) := by decide +kernel
theorem dX1_leaving_33 : decode cX1_leaving 33 = .ok (.iload_n 1, 1) := by decide +kernel
theorem dX1_leaving_34 : decode cX1_leaving 34 = .ok (.invokevirtual 82, 3) := by decide +kernel
theorem dX1_leaving_37 : decode cX1_leaving 37 = .ok (.ifCond .eq 5, 3) := by decide +kernel
theorem dX1_leaving_40 : decode cX1_leaving 40 = .ok (.iload_n 3, 1) := by decide +kernel
theorem dX1_leaving_41 : decode cX1_leaving 41 = .ok (.istore_n 2, 1) := by decide +kernel
theorem dX1_leaving_42 : decode cX1_leaving 42 = .ok (.iinc 3 1, 3) := by decide +kernel
theorem dX1_leaving_45 : decode cX1_leaving 45 = .ok (.goto (-41), 3) := by decide +kernel
theorem dX1_leaving_48 : decode cX1_leaving 48 = .ok (.iload_n 2, 1) := by decide +kernel
theorem dX1_leaving_49 : decode cX1_leaving 49 = .ok (.ireturn, 1) := by decide +kernel
abbrev j1_leaving : xJ := (cX1_leaving, 4, RX1, 2, 0, 0)
def F1_leaving_b42 (z : Nat) (x1 : Int32) (x2 : Int32) (x3 : Int32) (c_table : (Nat → Nat → Int64)) (c_rowNames : (Nat → Int32)) (c_rows : Int32) (c_columns : Int32) (k4 : Int32 → Int32 → Int32 → (Nat → Nat → Int64) → (Nat → Int32) → Int32 → Int32 → Option (Int32)) : Option (Int32) :=
  k4 x1 x2 (x3 + (1 : Int32)) c_table c_rowNames c_rows c_columns
theorem T1_leaving_b42 {X : xX} {c_picks : (Nat → Nat → Int32)} {c_many : (Nat → Int32)} {c_columnNames : (Nat → Int32)} {c_scale : Int64} {x1 : Int32} {x2 : Int32} {x3 : Int32} {c_table : (Nat → Nat → Int64)} {c_rowNames : (Nat → Int32)} {c_rows : Int32} {c_columns : Int32} {z : Nat} {v : Int32} {k4 : Int32 → Int32 → Int32 → (Nat → Nat → Int64) → (Nat → Int32) → Int32 → Int32 → Option (Int32)} (hX : xIs (j1_leaving) X ((some .int)) (some (.int v)) (hG c_picks c_many c_table c_rowNames c_columnNames c_rows c_columns c_scale)) (hk4 : ∀ {x1 : Int32} {x2 : Int32} {x3 : Int32}, k4 x1 x2 x3 c_table c_rowNames c_rows c_columns = some v → xV (j1_leaving) X 0 0 (hG c_picks c_many c_table c_rowNames c_columnNames c_rows c_columns c_scale) 4 [(0, .ref 0), (1, .int x1), (2, .int x2), (3, .int x3)] []) (hf : F1_leaving_b42 z x1 x2 x3 c_table c_rowNames c_rows c_columns k4 = some v) : xV (j1_leaving) X 0 0 (hG c_picks c_many c_table c_rowNames c_columnNames c_rows c_columns c_scale) 42 [(0, .ref 0), (1, .int x1), (2, .int x2), (3, .int x3)] [] := by
  unfold F1_leaving_b42 at hf
  refine xV_iinc (L' := [(3, .int (x3 + (1 : Int32))), (0, .ref 0), (1, .int x1), (2, .int x2)]) 45 rfl dX1_leaving_42 3 rfl (xk_inc xy_i1) (xlt rfl) rfl ?_
  refine xV_goto (tgt := 4) dX1_leaving_45 (by decide) ?_
  refine xV_sub [1, 2, 3, 0] rfl ?_
  exact hk4 hf
def F1_leaving_b40 (z : Nat) (x1 : Int32) (x3 : Int32) (c_table : (Nat → Nat → Int64)) (c_rowNames : (Nat → Int32)) (c_rows : Int32) (c_columns : Int32) (k4 : Int32 → Int32 → Int32 → (Nat → Nat → Int64) → (Nat → Int32) → Int32 → Int32 → Option (Int32)) : Option (Int32) :=
  F1_leaving_b42 z x1 x3 x3 c_table c_rowNames c_rows c_columns k4
theorem T1_leaving_b40 {X : xX} {c_picks : (Nat → Nat → Int32)} {c_many : (Nat → Int32)} {c_columnNames : (Nat → Int32)} {c_scale : Int64} {x1 : Int32} {x3 : Int32} {c_table : (Nat → Nat → Int64)} {c_rowNames : (Nat → Int32)} {c_rows : Int32} {c_columns : Int32} {z : Nat} {v : Int32} {k4 : Int32 → Int32 → Int32 → (Nat → Nat → Int64) → (Nat → Int32) → Int32 → Int32 → Option (Int32)} (hX : xIs (j1_leaving) X ((some .int)) (some (.int v)) (hG c_picks c_many c_table c_rowNames c_columnNames c_rows c_columns c_scale)) (hk4 : ∀ {x1 : Int32} {x2 : Int32} {x3 : Int32}, k4 x1 x2 x3 c_table c_rowNames c_rows c_columns = some v → xV (j1_leaving) X 0 0 (hG c_picks c_many c_table c_rowNames c_columnNames c_rows c_columns c_scale) 4 [(0, .ref 0), (1, .int x1), (2, .int x2), (3, .int x3)] []) (hf : F1_leaving_b40 z x1 x3 c_table c_rowNames c_rows c_columns k4 = some v) : xV (j1_leaving) X 0 0 (hG c_picks c_many c_table c_rowNames c_columnNames c_rows c_columns c_scale) 40 [(0, .ref 0), (1, .int x1), (3, .int x3)] [] := by
  unfold F1_leaving_b40 at hf
  refine xV_iload_n 41 rfl dX1_leaving_40 rfl 2 rfl ?_
  refine xV_istore_n (L' := [(2, .int x3), (0, .ref 0), (1, .int x1), (3, .int x3)]) 42 rfl dX1_leaving_41 rfl (xlt rfl) rfl ?_
  refine xV_sub [1, 2, 0, 3] rfl ?_
  exact T1_leaving_b42 hX hk4 hf
def F1_leaving_b4 (z : Nat) (w : Nat) (x1 : Int32) (x2 : Int32) (x3 : Int32) (c_table : (Nat → Nat → Int64)) (c_rowNames : (Nat → Int32)) (c_rows : Int32) (c_columns : Int32) : Option (Int32) := match w with
  | 0 => none
  | w + 1 => if c_rows ≤ x3 then (some (x2)) else (xg (xin x3 7) (xg (xin x1 7) (if (lg_cmp ((c_table (xn x3)) (xn x1)) (0 : Int64)) ≤ 0 then (F1_leaving_b42 z x1 x2 x3 c_table c_rowNames c_rows c_columns (fun q0 q1 q2 q3 q4 q5 q6 => F1_leaving_b4 z w q0 q1 q2 q3 q4 q5 q6)) else (if x2 = (-1 : Int32) then (F1_leaving_b40 z x1 x3 c_table c_rowNames c_rows c_columns (fun q0 q1 q2 q3 q4 q5 q6 => F1_leaving_b4 z w q0 q1 q2 q3 q4 q5 q6)) else ((F1_isSooner x3 x2 x1 c_table c_rowNames c_columns).bind (fun v34 => if v34 = 0 then (F1_leaving_b42 z x1 x2 x3 c_table c_rowNames c_rows c_columns (fun q0 q1 q2 q3 q4 q5 q6 => F1_leaving_b4 z w q0 q1 q2 q3 q4 q5 q6)) else (F1_leaving_b40 z x1 x3 c_table c_rowNames c_rows c_columns (fun q0 q1 q2 q3 q4 q5 q6 => F1_leaving_b4 z w q0 q1 q2 q3 q4 q5 q6))))))))
theorem T1_leaving_b4 {X : xX} {c_picks : (Nat → Nat → Int32)} {c_many : (Nat → Int32)} {c_table : (Nat → Nat → Int64)} {c_rowNames : (Nat → Int32)} {c_columnNames : (Nat → Int32)} {c_rows : Int32} {c_columns : Int32} {c_scale : Int64} {z : Nat} {v : Int32} (hX : xIs (j1_leaving) X ((some .int)) (some (.int v)) (hG c_picks c_many c_table c_rowNames c_columnNames c_rows c_columns c_scale)) : ∀ (w : Nat) {x1 : Int32} {x2 : Int32} {x3 : Int32}, F1_leaving_b4 z w x1 x2 x3 c_table c_rowNames c_rows c_columns = some v → xV (j1_leaving) X 0 0 (hG c_picks c_many c_table c_rowNames c_columnNames c_rows c_columns c_scale) 4 [(0, .ref 0), (1, .int x1), (2, .int x2), (3, .int x3)] [] := by
  intro w
  induction w with
  | zero => intro x1 x2 x3 hf; cases hf
  | succ w ih =>
    intro x1 x2 x3 hf
    unfold F1_leaving_b4 at hf
    refine xV_iload_n 5 rfl dX1_leaving_4 rfl 3 rfl ?_
    refine xV_aload_n 6 rfl dX1_leaving_5 rfl 0 rfl ?_
    refine xV_get (v := .int c_rows) 9 rfl dX1_leaving_6 f1_57 rfl rfl ?_
    refine xV_icmp_ge (tgt := 48) 12 rfl dX1_leaving_9 (by decide) (fun h9 => ?_) (fun h9 => ?_)
    · have hf := xif_t hf h9
      refine xV_iload_n 49 rfl dX1_leaving_48 rfl 2 rfl ?_
      obtain rfl := Option.some.inj hf
      exact xV_iret hX dX1_leaving_49 rfl (Nat.zero_le _) (Nat.zero_le _)
    · have hf := xif_f hf h9
      refine xV_aload_n 13 rfl dX1_leaving_12 rfl 0 rfl ?_
      refine xV_get (v := .ref 5) 16 rfl dX1_leaving_13 f1_22 rfl rfl ?_
      refine xV_iload_n 17 rfl dX1_leaving_16 rfl 3 rfl ?_
      obtain ⟨hg17, hf⟩ := xg_s hf
      refine xV_aaload (b := (6 + (xn x3))) 18 rfl dX1_leaving_17 rfl rfl rfl (xin_ok hg17) (by show ([6, 7, 8, 9, 10, 11, 12] : List Nat)[(xn x3)]? = some (6 + (xn x3)); have hi := xin_lt hg17; generalize (xn x3) = i at hi ⊢; match i, hi with | 0, _ => rfl | 1, _ => rfl | 2, _ => rfl | 3, _ => rfl | 4, _ => rfl | 5, _ => rfl | 6, _ => rfl) ?_
      refine xV_iload_n 19 rfl dX1_leaving_18 rfl 1 rfl ?_
      obtain ⟨hg19, hf⟩ := xg_s hf
      refine xV_laload (f := (c_table (xn x3))) (z := 7) 20 rfl dX1_leaving_19 (by have hi := (xin_lt hg17); generalize (xn x3) = i at hi ⊢; match i, hi with | 0, _ => exact rfl | 1, _ => exact rfl | 2, _ => exact rfl | 3, _ => exact rfl | 4, _ => exact rfl | 5, _ => exact rfl | 6, _ => exact rfl) (xin_ok hg19) rfl ?_
      refine xV_lconst (v := 0) 21 rfl dX1_leaving_20 (by decide) ?_
      refine xV_lcmp 22 rfl dX1_leaving_21 ?_
      refine xV_if_le (tgt := 42) 25 rfl dX1_leaving_22 (by decide) (fun h22 => ?_) (fun h22 => ?_)
      · have hf := xif_t hf h22
        exact T1_leaving_b42 hX (fun {_ _ _} hq => ih hq) hf
      · have hf := xif_f hf h22
        refine xV_iload_n 26 rfl dX1_leaving_25 rfl 2 rfl ?_
        refine xV_iconst 27 rfl dX1_leaving_26 xy_im1 ?_
        refine xV_icmp_eq (tgt := 40) 30 rfl dX1_leaving_27 (by decide) (fun h27 => ?_) (fun h27 => ?_)
        · have hf := xif_t hf h27
          refine xV_sub [0, 1, 3] rfl ?_
          exact T1_leaving_b40 hX (fun {_ _ _} hq => ih hq) hf
        · have hf := xif_f hf h27
          refine xV_aload_n 31 rfl dX1_leaving_30 rfl 0 rfl ?_
          refine xV_iload_n 32 rfl dX1_leaving_31 rfl 3 rfl ?_
          refine xV_iload_n 33 rfl dX1_leaving_32 rfl 2 rfl ?_
          refine xV_iload_n 34 rfl dX1_leaving_33 rfl 1 rfl ?_
          obtain ⟨v34, hv34, hf⟩ := xb_s hf
          refine xV_same (rest := []) 37 rfl dX1_leaving_34 rfl (C1_isSooner X.1.2.1 hv34) m1_isSooner v1_isSooner k1_82 rfl rfl rfl rfl rfl (Nat.le_of_ble_eq_true rfl) (Nat.le_of_ble_eq_true rfl) (Nat.le_of_ble_eq_true rfl) ⟨Nat.le_refl _, Nat.le_refl _⟩ ?_
          show xV (j1_leaving) X 0 0 (hG c_picks c_many c_table c_rowNames c_columnNames c_rows c_columns c_scale) 37 [(0, .ref 0), (1, .int x1), (2, .int x2), (3, .int x3)] [.int v34]
          refine xV_if_eq (tgt := 42) 40 rfl dX1_leaving_37 (by decide) (fun h37 => ?_) (fun h37 => ?_)
          · have hf := xif_t hf h37
            exact T1_leaving_b42 hX (fun {_ _ _} hq => ih hq) hf
          · have hf := xif_f hf h37
            refine xV_sub [0, 1, 3] rfl ?_
            exact T1_leaving_b40 hX (fun {_ _ _} hq => ih hq) hf
def F1_leaving (z : Nat) (x1 : Int32) (c_table : (Nat → Nat → Int64)) (c_rowNames : (Nat → Int32)) (c_rows : Int32) (c_columns : Int32) : Option (Int32) :=
  F1_leaving_b4 z z x1 (-1 : Int32) (0 : Int32) c_table c_rowNames c_rows c_columns
theorem T1_leaving {X : xX} {z : Nat} {x1 : Int32} {c_table : (Nat → Nat → Int64)} {c_rowNames : (Nat → Int32)} {c_rows : Int32} {c_columns : Int32} {c_picks : (Nat → Nat → Int32)} {c_many : (Nat → Int32)} {c_columnNames : (Nat → Int32)} {c_scale : Int64} {v : Int32} (hX : xIs (j1_leaving) X ((some .int)) (some (.int v)) (hG c_picks c_many c_table c_rowNames c_columnNames c_rows c_columns c_scale)) (hf : F1_leaving z x1 c_table c_rowNames c_rows c_columns = some v) : xV (j1_leaving) X 0 0 (hG c_picks c_many c_table c_rowNames c_columnNames c_rows c_columns c_scale) 0 [(0, .ref 0), (1, .int x1)] [] := by
  unfold F1_leaving at hf
  refine xV_iconst 1 rfl dX1_leaving_0 xy_im1 ?_
  refine xV_istore_n (L' := [(2, .int (-1 : Int32)), (0, .ref 0), (1, .int x1)]) 2 rfl dX1_leaving_1 rfl (xlt rfl) rfl ?_
  refine xV_iconst 3 rfl dX1_leaving_2 xy_i0 ?_
  refine xV_istore_n (L' := [(3, .int (0 : Int32)), (2, .int (-1 : Int32)), (0, .ref 0), (1, .int x1)]) 4 rfl dX1_leaving_3 rfl (xlt rfl) rfl ?_
  refine xV_sub [2, 3, 1, 0] rfl ?_
  exact T1_leaving_b4 hX _ hf
theorem C1_leaving (l : Launch) {z : Nat} {x1 : Int32} {c_table : (Nat → Nat → Int64)} {c_rowNames : (Nat → Int32)} {c_rows : Int32} {c_columns : Int32} {c_picks : (Nat → Nat → Int32)} {c_many : (Nat → Int32)} {c_columnNames : (Nat → Int32)} {c_scale : Int64} {v : Int32} (hf : F1_leaving z x1 c_table c_rowNames c_rows c_columns = some v) : xCt l yX1_leaving ((some .int)) j1_leaving [.ref 0, .int x1] (hG c_picks c_many c_table c_rowNames c_columnNames c_rows c_columns c_scale) (some (.int v)) (hG c_picks c_many c_table c_rowNames c_columnNames c_rows c_columns c_scale) := xCt_of (by decide) rfl (Nat.le_of_ble_eq_true rfl) (fun _ hX => T1_leaving hX hf)
theorem m1_leaving : xMd yX1_leaving RX1 ((some .int)) j1_leaving 1 := ⟨List.mem_of_getElem? (i := 895) (by decide +kernel), List.mem_of_getElem? (i := 37) (by decide +kernel), rfl, by decide +kernel⟩
theorem v1_leaving : xMv yX1_leaving RX1 := ⟨List.mem_of_getElem? (i := 893) (by decide +kernel), List.mem_of_getElem? (i := 894) (by decide +kernel)⟩
theorem dX1_exchange_0 : decode cX1_exchange 0 = .ok (.aload_n 0, 1) := by decide +kernel
theorem dX1_exchange_1 : decode cX1_exchange 1 = .ok (.getfield 22, 3) := by decide +kernel
theorem dX1_exchange_4 : decode cX1_exchange 4 = .ok (.iload_n 1, 1) := by decide +kernel
theorem dX1_exchange_5 : decode cX1_exchange 5 = .ok (.aaload, 1) := by decide +kernel
theorem dX1_exchange_6 : decode cX1_exchange 6 = .ok (.iload_n 2, 1) := by decide +kernel
theorem dX1_exchange_7 : decode cX1_exchange 7 = .ok (.laload, 1) := by decide +kernel
theorem dX1_exchange_8 : decode cX1_exchange 8 = .ok (.lstore_n 3, 1) := by decide +kernel
theorem dX1_exchange_9 : decode cX1_exchange 9 = .ok (.aload_n 0, 1) := by decide +kernel
theorem dX1_exchange_10 : decode cX1_exchange 10 = .ok (.getfield 63, 3) := by decide +kernel
theorem dX1_exchange_13 : decode cX1_exchange 13 = .ok (.lconst 0, 1) := by decide +kernel
theorem dX1_exchange_14 : decode cX1_exchange 14 = .ok (.lcmp, 1) := by decide +kernel
theorem dX1_exchange_15 : decode cX1_exchange 15 = .ok (.ifCond .ne 4, 3) := by decide +kernel
theorem dX1_exchange_18 : decode cX1_exchange 18 = .ok (.return_, 1) := by decide +kernel
theorem dX1_exchange_19 : decode cX1_exchange 19 = .ok (.iconst 0, 1) := by decide +kernel
theorem dX1_exchange_20 : decode cX1_exchange 20 = .ok (.istore 5, 2) := by decide +kernel
theorem dX1_exchange_22 : decode cX1_exchange 22 = .ok (.iload 5, 2) := by decide +kernel
theorem dX1_exchange_24 : decode cX1_exchange 24 = .ok (.aload_n 0, 1) := by decide +kernel
theorem dX1_exchange_25 : decode cX1_exchange 25 = .ok (.getfield 57, 3) := by decide +kernel
theorem dX1_exchange_28 : decode cX1_exchange 28 = .ok (.if_icmp .gt 86, 3) := by decide +kernel
theorem dX1_exchange_31 : decode cX1_exchange 31 = .ok (.iconst 0, 1) := by decide +kernel
theorem dX1_exchange_32 : decode cX1_exchange 32 = .ok (.istore 6, 2) := by decide +kernel
theorem dX1_exchange_34 : decode cX1_exchange 34 = .ok (.iload 6, 2) := by decide +kernel
theorem dX1_exchange_36 : decode cX1_exchange 36 = .ok (.aload_n 0, 1) := by decide +kernel
theorem dX1_exchange_37 : decode cX1_exchange 37 = .ok (.getfield 60, 3) := by decide +kernel
theorem dX1_exchange_40 : decode cX1_exchange 40 = .ok (.if_icmp .gt 68, 3) := by decide +kernel
theorem dX1_exchange_43 : decode cX1_exchange 43 = .ok (.iload 5, 2) := by decide +kernel
theorem dX1_exchange_45 : decode cX1_exchange 45 = .ok (.iload_n 1, 1) := by decide +kernel
theorem dX1_exchange_46 : decode cX1_exchange 46 = .ok (.if_icmp .eq 62, 3) := by decide +kernel
theorem dX1_exchange_49 : decode cX1_exchange 49 = .ok (.iload 6, 2) := by decide +kernel
theorem dX1_exchange_51 : decode cX1_exchange 51 = .ok (.iload_n 2, 1) := by decide +kernel
theorem dX1_exchange_52 : decode cX1_exchange 52 = .ok (.if_icmp .eq 50, 3) := by decide +kernel
theorem dX1_exchange_55 : decode cX1_exchange 55 = .ok (.aload_n 0, 1) := by decide +kernel
theorem dX1_exchange_56 : decode cX1_exchange 56 = .ok (.getfield 22, 3) := by decide +kernel
theorem dX1_exchange_59 : decode cX1_exchange 59 = .ok (.iload 5, 2) := by decide +kernel
theorem dX1_exchange_61 : decode cX1_exchange 61 = .ok (.aaload, 1) := by decide +kernel
theorem dX1_exchange_62 : decode cX1_exchange 62 = .ok (.iload 6, 2) := by decide +kernel
theorem dX1_exchange_64 : decode cX1_exchange 64 = .ok (.aload_n 0, 1) := by decide +kernel
theorem dX1_exchange_65 : decode cX1_exchange 65 = .ok (.getfield 22, 3) := by decide +kernel
theorem dX1_exchange_68 : decode cX1_exchange 68 = .ok (.iload 5, 2) := by decide +kernel
theorem dX1_exchange_70 : decode cX1_exchange 70 = .ok (.aaload, 1) := by decide +kernel
theorem dX1_exchange_71 : decode cX1_exchange 71 = .ok (.iload 6, 2) := by decide +kernel
theorem dX1_exchange_73 : decode cX1_exchange 73 = .ok (.laload, 1) := by decide +kernel
theorem dX1_exchange_74 : decode cX1_exchange 74 = .ok (.lload_n 3, 1) := by decide +kernel
theorem dX1_exchange_75 : decode cX1_exchange 75 = .ok (.lmul, 1) := by decide +kernel
theorem dX1_exchange_76 : decode cX1_exchange 76 = .ok (.aload_n 0, 1) := by decide +kernel
theorem dX1_exchange_77 : decode cX1_exchange 77 = .ok (.getfield 22, 3) := by decide +kernel
theorem dX1_exchange_80 : decode cX1_exchange 80 = .ok (.iload 5, 2) := by decide +kernel
theorem dX1_exchange_82 : decode cX1_exchange 82 = .ok (.aaload, 1) := by decide +kernel
theorem dX1_exchange_83 : decode cX1_exchange 83 = .ok (.iload_n 2, 1) := by decide +kernel
theorem dX1_exchange_84 : decode cX1_exchange 84 = .ok (.laload, 1) := by decide +kernel
theorem dX1_exchange_85 : decode cX1_exchange 85 = .ok (.aload_n 0, 1) := by decide +kernel
theorem dX1_exchange_86 : decode cX1_exchange 86 = .ok (.getfield 22, 3) := by decide +kernel
theorem dX1_exchange_89 : decode cX1_exchange 89 = .ok (.iload_n 1, 1) := by decide +kernel
theorem dX1_exchange_90 : decode cX1_exchange 90 = .ok (.aaload, 1) := by decide +kernel
theorem dX1_exchange_91 : decode cX1_exchange 91 = .ok (.iload 6, 2) := by decide +kernel
theorem dX1_exchange_93 : decode cX1_exchange 93 = .ok (.laload, 1) := by decide +kernel
theorem dX1_exchange_94 : decode cX1_exchange 94 = .ok (.lmul, 1) := by decide +kernel
theorem dX1_exchange_95 : decode cX1_exchange 95 = .ok (.lsub, 1) := by decide +kernel
theorem dX1_exchange_96 : decode cX1_exchange 96 = .ok (.aload_n 0, 1) := by decide +kernel
theorem dX1_exchange_97 : decode cX1_exchange 97 = .ok (.getfield 63, 3) := by decide +kernel
theorem dX1_exchange_100 : decode cX1_exchange 100 = .ok (.ldiv, 1) := by decide +kernel
theorem dX1_exchange_101 : decode cX1_exchange 101 = .ok (.lastore, 1) := by decide +kernel
theorem dX1_exchange_102 : decode cX1_exchange 102 = .ok (.iinc 6 1, 3) := by decide +kernel
theorem dX1_exchange_105 : decode cX1_exchange 105 = .ok (.goto (-71), 3) := by decide +kernel
theorem dX1_exchange_108 : decode cX1_exchange 108 = .ok (.iinc 5 1, 3) := by decide +kernel
theorem dX1_exchange_111 : decode cX1_exchange 111 = .ok (.goto (-89), 3) := by decide +kernel
theorem dX1_exchange_114 : decode cX1_exchange 114 = .ok (.iconst 0, 1) := by decide +kernel
theorem dX1_exchange_115 : decode cX1_exchange 115 = .ok (.istore 5, 2) := by decide +kernel
theorem dX1_exchange_117 : decode cX1_exchange 117 = .ok (.iload 5, 2) := by decide +kernel
theorem dX1_exchange_119 : decode cX1_exchange 119 = .ok (.aload_n 0, 1) := by decide +kernel
theorem dX1_exchange_120 : decode cX1_exchange 120 = .ok (.getfield 57, 3) := by decide +kernel
theorem dX1_exchange_123 : decode cX1_exchange 123 = .ok (.if_icmp .gt 28, 3) := by decide +kernel
theorem dX1_exchange_126 : decode cX1_exchange 126 = .ok (.aload_n 0, 1) := by decide +kernel
theorem dX1_exchange_127 : decode cX1_exchange 127 = .ok (.getfield 22, 3) := by decide +kernel
theorem dX1_exchange_130 : decode cX1_exchange 130 = .ok (.iload 5, 2) := by decide +kernel
theorem dX1_exchange_132 : decode cX1_exchange 132 = .ok (.aaload, 1) := by decide +kernel
theorem dX1_exchange_133 : decode cX1_exchange 133 = .ok (.iload_n 2, 1) := by decide +kernel
theorem dX1_exchange_134 : decode cX1_exchange 134 = .ok (.aload_n 0, 1) := by decide +kernel
theorem dX1_exchange_135 : decode cX1_exchange 135 = .ok (.getfield 22, 3) := by decide +kernel
theorem dX1_exchange_138 : decode cX1_exchange 138 = .ok (.iload 5, 2) := by decide +kernel
theorem dX1_exchange_140 : decode cX1_exchange 140 = .ok (.aaload, 1) := by decide +kernel
theorem dX1_exchange_141 : decode cX1_exchange 141 = .ok (.iload_n 2, 1) := by decide +kernel
theorem dX1_exchange_142 : decode cX1_exchange 142 = .ok (.laload, 1) := by decide +kernel
theorem dX1_exchange_143 : decode cX1_exchange 143 = .ok (.lneg, 1) := by decide +kernel
theorem dX1_exchange_144 : decode cX1_exchange 144 = .ok (.lastore, 1) := by decide +kernel
theorem dX1_exchange_145 : decode cX1_exchange 145 = .ok (.iinc 5 1, 3) := by decide +kernel
theorem dX1_exchange_148 : decode cX1_exchange 148 = .ok (.goto (-31), 3) := by decide +kernel
theorem dX1_exchange_151 : decode cX1_exchange 151 = .ok (.aload_n 0, 1) := by decide +kernel
theorem dX1_exchange_152 : decode cX1_exchange 152 = .ok (.getfield 22, 3) := by decide +kernel
theorem dX1_exchange_155 : decode cX1_exchange 155 = .ok (.iload_n 1, 1) := by decide +kernel
theorem dX1_exchange_156 : decode cX1_exchange 156 = .ok (.aaload, 1) := by decide +kernel
theorem dX1_exchange_157 : decode cX1_exchange 157 = .ok (.iload_n 2, 1) := by decide +kernel
theorem dX1_exchange_158 : decode cX1_exchange 158 = .ok (.aload_n 0, 1) := by decide +kernel
theorem dX1_exchange_159 : decode cX1_exchange 159 = .ok (.getfield 63, 3) := by decide +kernel
theorem dX1_exchange_162 : decode cX1_exchange 162 = .ok (.lastore, 1) := by decide +kernel
theorem dX1_exchange_163 : decode cX1_exchange 163 = .ok (.aload_n 0, 1) := by decide +kernel
theorem dX1_exchange_164 : decode cX1_exchange 164 = .ok (.lload_n 3, 1) := by decide +kernel
theorem dX1_exchange_165 : decode cX1_exchange 165 = .ok (.putfield 63, 3) := by decide +kernel
theorem dX1_exchange_168 : decode cX1_exchange 168 = .ok (.aload_n 0, 1) := by decide +kernel
theorem dX1_exchange_169 : decode cX1_exchange 169 = .ok (.getfield 25, 3) := by decide +kernel
theorem dX1_exchange_172 : decode cX1_exchange 172 = .ok (.iload_n 1, 1) := by decide +kernel
theorem dX1_exchange_173 : decode cX1_exchange 173 = .ok (.iaload, 1) := by decide +kernel
theorem dX1_exchange_174 : decode cX1_exchange 174 = .ok (.istore 5, 2) := by decide +kernel
theorem dX1_exchange_176 : decode cX1_exchange 176 = .ok (.aload_n 0, 1) := by decide +kernel
theorem dX1_exchange_177 : decode cX1_exchange 177 = .ok (.getfield 25, 3) := by decide +kernel
theorem dX1_exchange_180 : decode cX1_exchange 180 = .ok (.iload_n 1, 1) := by decide +kernel
theorem dX1_exchange_181 : decode cX1_exchange 181 = .ok (.aload_n 0, 1) := by decide +kernel
theorem dX1_exchange_182 : decode cX1_exchange 182 = .ok (.getfield 28, 3) := by decide +kernel
theorem dX1_exchange_185 : decode cX1_exchange 185 = .ok (.iload_n 2, 1) := by decide +kernel
theorem dX1_exchange_186 : decode cX1_exchange 186 = .ok (.iaload, 1) := by decide +kernel
theorem dX1_exchange_187 : decode cX1_exchange 187 = .ok (.iastore, 1) := by decide +kernel
theorem dX1_exchange_188 : decode cX1_exchange 188 = .ok (.aload_n 0, 1) := by decide +kernel
theorem dX1_exchange_189 : decode cX1_exchange 189 = .ok (.getfield 28, 3) := by decide +kernel
theorem dX1_exchange_192 : decode cX1_exchange 192 = .ok (.iload_n 2, 1) := by decide +kernel
theorem dX1_exchange_193 : decode cX1_exchange 193 = .ok (.iload 5, 2) := by decide +kernel
theorem dX1_exchange_195 : decode cX1_exchange 195 = .ok (.iastore, 1) := by decide +kernel
theorem dX1_exchange_196 : decode cX1_exchange 196 = .ok (.return_, 1) := by decide +kernel
abbrev j1_exchange : xJ := (cX1_exchange, 7, RX1, 1, 0, 0)
def F1_exchange_b151 (z : Nat) (x1 : Int32) (x2 : Int32) (x3 : Int64) (c_table : (Nat → Nat → Int64)) (c_rowNames : (Nat → Int32)) (c_columnNames : (Nat → Int32)) (c_rows : Int32) (c_columns : Int32) (c_scale : Int64) : Option ((Nat → Nat → Int64) × (Nat → Int32) × (Nat → Int32) × Int64) :=
  xg (xin x1 7) (xg (xin x2 7) (xg (xin x1 6) (xg (xin x2 6) (xg (xin x1 6) (xg (xin x2 6) (some ((va_up c_table (xn x1) (vp_updL (c_table (xn x1)) (xn x2) c_scale)), (upd c_rowNames (xn x1) (c_columnNames (xn x2))), (upd c_columnNames (xn x2) (c_rowNames (xn x1))), x3)))))))
theorem T1_exchange_b151 {X : xX} {c_picks : (Nat → Nat → Int32)} {c_many : (Nat → Int32)} {x1 : Int32} {x2 : Int32} {x3 : Int64} {c_table : (Nat → Nat → Int64)} {c_rowNames : (Nat → Int32)} {c_columnNames : (Nat → Int32)} {c_rows : Int32} {c_columns : Int32} {c_scale : Int64} {z : Nat} {v : (Nat → Nat → Int64) × (Nat → Int32) × (Nat → Int32) × Int64} (hX : xIs (j1_exchange) X none none (hG c_picks c_many v.1 v.2.1 v.2.2.1 c_rows c_columns v.2.2.2)) (hf : F1_exchange_b151 z x1 x2 x3 c_table c_rowNames c_columnNames c_rows c_columns c_scale = some v) : xV (j1_exchange) X 0 0 (hG c_picks c_many c_table c_rowNames c_columnNames c_rows c_columns c_scale) 151 [(0, .ref 0), (1, .int x1), (2, .int x2), (3, .long x3)] [] := by
  unfold F1_exchange_b151 at hf
  refine xV_aload_n 152 rfl dX1_exchange_151 rfl 0 rfl ?_
  refine xV_get (v := .ref 5) 155 rfl dX1_exchange_152 f1_22 rfl rfl ?_
  refine xV_iload_n 156 rfl dX1_exchange_155 rfl 1 rfl ?_
  obtain ⟨hg156, hf⟩ := xg_s hf
  refine xV_aaload (b := (6 + (xn x1))) 157 rfl dX1_exchange_156 rfl rfl rfl (xin_ok hg156) (by show ([6, 7, 8, 9, 10, 11, 12] : List Nat)[(xn x1)]? = some (6 + (xn x1)); have hi := xin_lt hg156; generalize (xn x1) = i at hi ⊢; match i, hi with | 0, _ => rfl | 1, _ => rfl | 2, _ => rfl | 3, _ => rfl | 4, _ => rfl | 5, _ => rfl | 6, _ => rfl) ?_
  refine xV_iload_n 158 rfl dX1_exchange_157 rfl 2 rfl ?_
  refine xV_aload_n 159 rfl dX1_exchange_158 rfl 0 rfl ?_
  refine xV_get (v := .long c_scale) 162 rfl dX1_exchange_159 f1_63 rfl rfl ?_
  obtain ⟨hg162, hf⟩ := xg_s hf
  refine xV_lastore (f := (c_table (xn x1))) (z := 7) (h' := (hG c_picks c_many (va_up c_table (xn x1) (vp_updL (c_table (xn x1)) (xn x2) c_scale)) c_rowNames c_columnNames c_rows c_columns c_scale)) (j := (xn x2)) 163 rfl dX1_exchange_162 (by have hi := (xin_lt hg156); generalize (xn x1) = i at hi ⊢; match i, hi with | 0, _ => exact rfl | 1, _ => exact rfl | 2, _ => exact rfl | 3, _ => exact rfl | 4, _ => exact rfl | 5, _ => exact rfl | 6, _ => exact rfl) (xin_ok hg162) rfl (by have hi := (xin_lt hg156); generalize (xn x1) = i at hi ⊢; match i, hi with | 0, _ => exact rfl | 1, _ => exact rfl | 2, _ => exact rfl | 3, _ => exact rfl | 4, _ => exact rfl | 5, _ => exact rfl | 6, _ => exact rfl) ?_
  refine xV_aload_n 164 rfl dX1_exchange_163 rfl 0 rfl ?_
  refine xV_lload_n 165 rfl dX1_exchange_164 rfl 3 rfl ?_
  refine xV_put (h' := (hG c_picks c_many (va_up c_table (xn x1) (vp_updL (c_table (xn x1)) (xn x2) c_scale)) c_rowNames c_columnNames c_rows c_columns x3)) 168 rfl dX1_exchange_165 f1_63 rfl nf1_7 (fun _ => rfl) (fun _ => rfl) (Nat.le_of_ble_eq_true rfl) rfl ?_
  refine xV_aload_n 169 rfl dX1_exchange_168 rfl 0 rfl ?_
  refine xV_get (v := .ref 13) 172 rfl dX1_exchange_169 f1_25 rfl rfl ?_
  refine xV_iload_n 173 rfl dX1_exchange_172 rfl 1 rfl ?_
  obtain ⟨hg173, hf⟩ := xg_s hf
  refine xV_iaload 174 rfl dX1_exchange_173 rfl (xin_ok hg173) rfl ?_
  refine xV_istore (L' := [(5, .int (c_rowNames (xn x1))), (0, .ref 0), (1, .int x1), (2, .int x2), (3, .long x3)]) 176 rfl dX1_exchange_174 (xlt rfl) rfl ?_
  refine xV_aload_n 177 rfl dX1_exchange_176 rfl 1 rfl ?_
  refine xV_get (v := .ref 13) 180 rfl dX1_exchange_177 f1_25 rfl rfl ?_
  refine xV_iload_n 181 rfl dX1_exchange_180 rfl 2 rfl ?_
  refine xV_aload_n 182 rfl dX1_exchange_181 rfl 1 rfl ?_
  refine xV_get (v := .ref 14) 185 rfl dX1_exchange_182 f1_28 rfl rfl ?_
  refine xV_iload_n 186 rfl dX1_exchange_185 rfl 3 rfl ?_
  obtain ⟨hg186, hf⟩ := xg_s hf
  refine xV_iaload 187 rfl dX1_exchange_186 rfl (xin_ok hg186) rfl ?_
  obtain ⟨hg187, hf⟩ := xg_s hf
  refine xV_iastore (h' := (hG c_picks c_many (va_up c_table (xn x1) (vp_updL (c_table (xn x1)) (xn x2) c_scale)) (upd c_rowNames (xn x1) (c_columnNames (xn x2))) c_columnNames c_rows c_columns x3)) (j := (xn x1)) 188 rfl dX1_exchange_187 rfl (xin_ok hg187) rfl rfl ?_
  refine xV_aload_n 189 rfl dX1_exchange_188 rfl 1 rfl ?_
  refine xV_get (v := .ref 14) 192 rfl dX1_exchange_189 f1_28 rfl rfl ?_
  refine xV_iload_n 193 rfl dX1_exchange_192 rfl 3 rfl ?_
  refine xV_iload 195 rfl dX1_exchange_193 0 rfl ?_
  obtain ⟨hg195, hf⟩ := xg_s hf
  refine xV_iastore (h' := (hG c_picks c_many (va_up c_table (xn x1) (vp_updL (c_table (xn x1)) (xn x2) c_scale)) (upd c_rowNames (xn x1) (c_columnNames (xn x2))) (upd c_columnNames (xn x2) (c_rowNames (xn x1))) c_rows c_columns x3)) (j := (xn x2)) 196 rfl dX1_exchange_195 rfl (xin_ok hg195) rfl rfl ?_
  obtain rfl := Option.some.inj hf
  exact xV_vret hX dX1_exchange_196 (Nat.zero_le _) (Nat.zero_le _)
def F1_exchange_b117 (z : Nat) (w : Nat) (x1 : Int32) (x2 : Int32) (x3 : Int64) (x5 : Int32) (c_table : (Nat → Nat → Int64)) (c_rowNames : (Nat → Int32)) (c_columnNames : (Nat → Int32)) (c_rows : Int32) (c_columns : Int32) (c_scale : Int64) : Option ((Nat → Nat → Int64) × (Nat → Int32) × (Nat → Int32) × Int64) := match w with
  | 0 => none
  | w + 1 => if c_rows < x5 then (F1_exchange_b151 z x1 x2 x3 c_table c_rowNames c_columnNames c_rows c_columns c_scale) else (xg (xin x5 7) (xg (xin x5 7) (xg (xin x2 7) (xg (xin x2 7) (F1_exchange_b117 z w x1 x2 x3 (x5 + (1 : Int32)) (va_up c_table (xn x5) (vp_updL (c_table (xn x5)) (xn x2) (-((c_table (xn x5)) (xn x2))))) c_rowNames c_columnNames c_rows c_columns c_scale)))))
theorem T1_exchange_b117 {X : xX} {c_picks : (Nat → Nat → Int32)} {c_many : (Nat → Int32)} {c_rows : Int32} {c_columns : Int32} {z : Nat} {v : (Nat → Nat → Int64) × (Nat → Int32) × (Nat → Int32) × Int64} (hX : xIs (j1_exchange) X none none (hG c_picks c_many v.1 v.2.1 v.2.2.1 c_rows c_columns v.2.2.2)) : ∀ (w : Nat) {x1 : Int32} {x2 : Int32} {x3 : Int64} {x5 : Int32} {c_table : (Nat → Nat → Int64)} {c_rowNames : (Nat → Int32)} {c_columnNames : (Nat → Int32)} {c_scale : Int64}, F1_exchange_b117 z w x1 x2 x3 x5 c_table c_rowNames c_columnNames c_rows c_columns c_scale = some v → xV (j1_exchange) X 0 0 (hG c_picks c_many c_table c_rowNames c_columnNames c_rows c_columns c_scale) 117 [(0, .ref 0), (1, .int x1), (2, .int x2), (3, .long x3), (5, .int x5)] [] := by
  intro w
  induction w with
  | zero => intro x1 x2 x3 x5 c_table c_rowNames c_columnNames c_scale hf; cases hf
  | succ w ih =>
    intro x1 x2 x3 x5 c_table c_rowNames c_columnNames c_scale hf
    unfold F1_exchange_b117 at hf
    refine xV_iload 119 rfl dX1_exchange_117 4 rfl ?_
    refine xV_aload_n 120 rfl dX1_exchange_119 rfl 0 rfl ?_
    refine xV_get (v := .int c_rows) 123 rfl dX1_exchange_120 f1_57 rfl rfl ?_
    refine xV_icmp_gt (tgt := 151) 126 rfl dX1_exchange_123 (by decide) (fun h123 => ?_) (fun h123 => ?_)
    · have hf := xif_t hf h123
      refine xV_sub [0, 1, 2, 3] rfl ?_
      exact T1_exchange_b151 hX hf
    · have hf := xif_f hf h123
      refine xV_aload_n 127 rfl dX1_exchange_126 rfl 0 rfl ?_
      refine xV_get (v := .ref 5) 130 rfl dX1_exchange_127 f1_22 rfl rfl ?_
      refine xV_iload 132 rfl dX1_exchange_130 4 rfl ?_
      obtain ⟨hg132, hf⟩ := xg_s hf
      refine xV_aaload (b := (6 + (xn x5))) 133 rfl dX1_exchange_132 rfl rfl rfl (xin_ok hg132) (by show ([6, 7, 8, 9, 10, 11, 12] : List Nat)[(xn x5)]? = some (6 + (xn x5)); have hi := xin_lt hg132; generalize (xn x5) = i at hi ⊢; match i, hi with | 0, _ => rfl | 1, _ => rfl | 2, _ => rfl | 3, _ => rfl | 4, _ => rfl | 5, _ => rfl | 6, _ => rfl) ?_
      refine xV_iload_n 134 rfl dX1_exchange_133 rfl 2 rfl ?_
      refine xV_aload_n 135 rfl dX1_exchange_134 rfl 0 rfl ?_
      refine xV_get (v := .ref 5) 138 rfl dX1_exchange_135 f1_22 rfl rfl ?_
      refine xV_iload 140 rfl dX1_exchange_138 4 rfl ?_
      obtain ⟨hg140, hf⟩ := xg_s hf
      refine xV_aaload (b := (6 + (xn x5))) 141 rfl dX1_exchange_140 rfl rfl rfl (xin_ok hg140) (by show ([6, 7, 8, 9, 10, 11, 12] : List Nat)[(xn x5)]? = some (6 + (xn x5)); have hi := xin_lt hg140; generalize (xn x5) = i at hi ⊢; match i, hi with | 0, _ => rfl | 1, _ => rfl | 2, _ => rfl | 3, _ => rfl | 4, _ => rfl | 5, _ => rfl | 6, _ => rfl) ?_
      refine xV_iload_n 142 rfl dX1_exchange_141 rfl 2 rfl ?_
      obtain ⟨hg142, hf⟩ := xg_s hf
      refine xV_laload (f := (c_table (xn x5))) (z := 7) 143 rfl dX1_exchange_142 (by have hi := (xin_lt hg140); generalize (xn x5) = i at hi ⊢; match i, hi with | 0, _ => exact rfl | 1, _ => exact rfl | 2, _ => exact rfl | 3, _ => exact rfl | 4, _ => exact rfl | 5, _ => exact rfl | 6, _ => exact rfl) (xin_ok hg142) rfl ?_
      refine xV_lneg 144 rfl dX1_exchange_143 ?_
      obtain ⟨hg144, hf⟩ := xg_s hf
      refine xV_lastore (f := (c_table (xn x5))) (z := 7) (h' := (hG c_picks c_many (va_up c_table (xn x5) (vp_updL (c_table (xn x5)) (xn x2) (-((c_table (xn x5)) (xn x2))))) c_rowNames c_columnNames c_rows c_columns c_scale)) (j := (xn x2)) 145 rfl dX1_exchange_144 (by have hi := (xin_lt hg140); generalize (xn x5) = i at hi ⊢; match i, hi with | 0, _ => exact rfl | 1, _ => exact rfl | 2, _ => exact rfl | 3, _ => exact rfl | 4, _ => exact rfl | 5, _ => exact rfl | 6, _ => exact rfl) (xin_ok hg144) rfl (by have hi := (xin_lt hg140); generalize (xn x5) = i at hi ⊢; match i, hi with | 0, _ => exact rfl | 1, _ => exact rfl | 2, _ => exact rfl | 3, _ => exact rfl | 4, _ => exact rfl | 5, _ => exact rfl | 6, _ => exact rfl) ?_
      refine xV_iinc (L' := [(5, .int (x5 + (1 : Int32))), (0, .ref 0), (1, .int x1), (2, .int x2), (3, .long x3)]) 148 rfl dX1_exchange_145 4 rfl (xk_inc xy_i1) (xlt rfl) rfl ?_
      refine xV_goto (tgt := 117) dX1_exchange_148 (by decide) ?_
      refine xV_sub [1, 2, 3, 4, 0] rfl ?_
      exact ih hf
def F1_exchange_b114 (z : Nat) (x1 : Int32) (x2 : Int32) (x3 : Int64) (c_table : (Nat → Nat → Int64)) (c_rowNames : (Nat → Int32)) (c_columnNames : (Nat → Int32)) (c_rows : Int32) (c_columns : Int32) (c_scale : Int64) : Option ((Nat → Nat → Int64) × (Nat → Int32) × (Nat → Int32) × Int64) :=
  F1_exchange_b117 z z x1 x2 x3 (0 : Int32) c_table c_rowNames c_columnNames c_rows c_columns c_scale
theorem T1_exchange_b114 {X : xX} {c_picks : (Nat → Nat → Int32)} {c_many : (Nat → Int32)} {x1 : Int32} {x2 : Int32} {x3 : Int64} {c_table : (Nat → Nat → Int64)} {c_rowNames : (Nat → Int32)} {c_columnNames : (Nat → Int32)} {c_rows : Int32} {c_columns : Int32} {c_scale : Int64} {z : Nat} {v : (Nat → Nat → Int64) × (Nat → Int32) × (Nat → Int32) × Int64} (hX : xIs (j1_exchange) X none none (hG c_picks c_many v.1 v.2.1 v.2.2.1 c_rows c_columns v.2.2.2)) (hf : F1_exchange_b114 z x1 x2 x3 c_table c_rowNames c_columnNames c_rows c_columns c_scale = some v) : xV (j1_exchange) X 0 0 (hG c_picks c_many c_table c_rowNames c_columnNames c_rows c_columns c_scale) 114 [(0, .ref 0), (1, .int x1), (2, .int x2), (3, .long x3)] [] := by
  unfold F1_exchange_b114 at hf
  refine xV_iconst 115 rfl dX1_exchange_114 xy_i0 ?_
  refine xV_istore (L' := [(5, .int (0 : Int32)), (0, .ref 0), (1, .int x1), (2, .int x2), (3, .long x3)]) 117 rfl dX1_exchange_115 (xlt rfl) rfl ?_
  refine xV_sub [1, 2, 3, 4, 0] rfl ?_
  exact T1_exchange_b117 hX _ hf
def F1_exchange_b108 (z : Nat) (x1 : Int32) (x2 : Int32) (x3 : Int64) (x5 : Int32) (c_table : (Nat → Nat → Int64)) (c_rowNames : (Nat → Int32)) (c_columnNames : (Nat → Int32)) (c_rows : Int32) (c_columns : Int32) (c_scale : Int64) (k22 : Int32 → Int32 → Int64 → Int32 → (Nat → Nat → Int64) → (Nat → Int32) → (Nat → Int32) → Int32 → Int32 → Int64 → Option ((Nat → Nat → Int64) × (Nat → Int32) × (Nat → Int32) × Int64)) : Option ((Nat → Nat → Int64) × (Nat → Int32) × (Nat → Int32) × Int64) :=
  k22 x1 x2 x3 (x5 + (1 : Int32)) c_table c_rowNames c_columnNames c_rows c_columns c_scale
theorem T1_exchange_b108 {X : xX} {c_picks : (Nat → Nat → Int32)} {c_many : (Nat → Int32)} {x1 : Int32} {x2 : Int32} {x3 : Int64} {x5 : Int32} {c_table : (Nat → Nat → Int64)} {c_rowNames : (Nat → Int32)} {c_columnNames : (Nat → Int32)} {c_rows : Int32} {c_columns : Int32} {c_scale : Int64} {z : Nat} {v : (Nat → Nat → Int64) × (Nat → Int32) × (Nat → Int32) × Int64} {k22 : Int32 → Int32 → Int64 → Int32 → (Nat → Nat → Int64) → (Nat → Int32) → (Nat → Int32) → Int32 → Int32 → Int64 → Option ((Nat → Nat → Int64) × (Nat → Int32) × (Nat → Int32) × Int64)} (hX : xIs (j1_exchange) X none none (hG c_picks c_many v.1 v.2.1 v.2.2.1 c_rows c_columns v.2.2.2)) (hk22 : ∀ {x1 : Int32} {x2 : Int32} {x3 : Int64} {x5 : Int32} {c_table : (Nat → Nat → Int64)} {c_rowNames : (Nat → Int32)} {c_columnNames : (Nat → Int32)} {c_scale : Int64}, k22 x1 x2 x3 x5 c_table c_rowNames c_columnNames c_rows c_columns c_scale = some v → xV (j1_exchange) X 0 0 (hG c_picks c_many c_table c_rowNames c_columnNames c_rows c_columns c_scale) 22 [(0, .ref 0), (1, .int x1), (2, .int x2), (3, .long x3), (5, .int x5)] []) (hf : F1_exchange_b108 z x1 x2 x3 x5 c_table c_rowNames c_columnNames c_rows c_columns c_scale k22 = some v) : xV (j1_exchange) X 0 0 (hG c_picks c_many c_table c_rowNames c_columnNames c_rows c_columns c_scale) 108 [(0, .ref 0), (1, .int x1), (2, .int x2), (3, .long x3), (5, .int x5)] [] := by
  unfold F1_exchange_b108 at hf
  refine xV_iinc (L' := [(5, .int (x5 + (1 : Int32))), (0, .ref 0), (1, .int x1), (2, .int x2), (3, .long x3)]) 111 rfl dX1_exchange_108 4 rfl (xk_inc xy_i1) (xlt rfl) rfl ?_
  refine xV_goto (tgt := 22) dX1_exchange_111 (by decide) ?_
  refine xV_sub [1, 2, 3, 4, 0] rfl ?_
  exact hk22 hf
def F1_exchange_b102 (z : Nat) (x1 : Int32) (x2 : Int32) (x3 : Int64) (x5 : Int32) (x6 : Int32) (c_table : (Nat → Nat → Int64)) (c_rowNames : (Nat → Int32)) (c_columnNames : (Nat → Int32)) (c_rows : Int32) (c_columns : Int32) (c_scale : Int64) (k22 : Int32 → Int32 → Int64 → Int32 → (Nat → Nat → Int64) → (Nat → Int32) → (Nat → Int32) → Int32 → Int32 → Int64 → Option ((Nat → Nat → Int64) × (Nat → Int32) × (Nat → Int32) × Int64)) (k34 : Int32 → Int32 → Int64 → Int32 → Int32 → (Nat → Nat → Int64) → (Nat → Int32) → (Nat → Int32) → Int32 → Int32 → Int64 → Option ((Nat → Nat → Int64) × (Nat → Int32) × (Nat → Int32) × Int64)) : Option ((Nat → Nat → Int64) × (Nat → Int32) × (Nat → Int32) × Int64) :=
  k34 x1 x2 x3 x5 (x6 + (1 : Int32)) c_table c_rowNames c_columnNames c_rows c_columns c_scale
theorem T1_exchange_b102 {X : xX} {c_picks : (Nat → Nat → Int32)} {c_many : (Nat → Int32)} {x1 : Int32} {x2 : Int32} {x3 : Int64} {x5 : Int32} {x6 : Int32} {c_table : (Nat → Nat → Int64)} {c_rowNames : (Nat → Int32)} {c_columnNames : (Nat → Int32)} {c_rows : Int32} {c_columns : Int32} {c_scale : Int64} {z : Nat} {v : (Nat → Nat → Int64) × (Nat → Int32) × (Nat → Int32) × Int64} {k22 : Int32 → Int32 → Int64 → Int32 → (Nat → Nat → Int64) → (Nat → Int32) → (Nat → Int32) → Int32 → Int32 → Int64 → Option ((Nat → Nat → Int64) × (Nat → Int32) × (Nat → Int32) × Int64)} {k34 : Int32 → Int32 → Int64 → Int32 → Int32 → (Nat → Nat → Int64) → (Nat → Int32) → (Nat → Int32) → Int32 → Int32 → Int64 → Option ((Nat → Nat → Int64) × (Nat → Int32) × (Nat → Int32) × Int64)} (hX : xIs (j1_exchange) X none none (hG c_picks c_many v.1 v.2.1 v.2.2.1 c_rows c_columns v.2.2.2)) (hk22 : ∀ {x1 : Int32} {x2 : Int32} {x3 : Int64} {x5 : Int32} {c_table : (Nat → Nat → Int64)} {c_rowNames : (Nat → Int32)} {c_columnNames : (Nat → Int32)} {c_scale : Int64}, k22 x1 x2 x3 x5 c_table c_rowNames c_columnNames c_rows c_columns c_scale = some v → xV (j1_exchange) X 0 0 (hG c_picks c_many c_table c_rowNames c_columnNames c_rows c_columns c_scale) 22 [(0, .ref 0), (1, .int x1), (2, .int x2), (3, .long x3), (5, .int x5)] []) (hk34 : ∀ {x1 : Int32} {x2 : Int32} {x3 : Int64} {x5 : Int32} {x6 : Int32} {c_table : (Nat → Nat → Int64)} {c_rowNames : (Nat → Int32)} {c_columnNames : (Nat → Int32)} {c_scale : Int64}, k34 x1 x2 x3 x5 x6 c_table c_rowNames c_columnNames c_rows c_columns c_scale = some v → xV (j1_exchange) X 0 0 (hG c_picks c_many c_table c_rowNames c_columnNames c_rows c_columns c_scale) 34 [(0, .ref 0), (1, .int x1), (2, .int x2), (3, .long x3), (5, .int x5), (6, .int x6)] []) (hf : F1_exchange_b102 z x1 x2 x3 x5 x6 c_table c_rowNames c_columnNames c_rows c_columns c_scale k22 k34 = some v) : xV (j1_exchange) X 0 0 (hG c_picks c_many c_table c_rowNames c_columnNames c_rows c_columns c_scale) 102 [(0, .ref 0), (1, .int x1), (2, .int x2), (3, .long x3), (5, .int x5), (6, .int x6)] [] := by
  unfold F1_exchange_b102 at hf
  refine xV_iinc (L' := [(6, .int (x6 + (1 : Int32))), (0, .ref 0), (1, .int x1), (2, .int x2), (3, .long x3), (5, .int x5)]) 105 rfl dX1_exchange_102 5 rfl (xk_inc xy_i1) (xlt rfl) rfl ?_
  refine xV_goto (tgt := 34) dX1_exchange_105 (by decide) ?_
  refine xV_sub [1, 2, 3, 4, 5, 0] rfl ?_
  exact hk34 hf
def F1_exchange_b34 (z : Nat) (w : Nat) (x1 : Int32) (x2 : Int32) (x3 : Int64) (x5 : Int32) (x6 : Int32) (c_table : (Nat → Nat → Int64)) (c_rowNames : (Nat → Int32)) (c_columnNames : (Nat → Int32)) (c_rows : Int32) (c_columns : Int32) (c_scale : Int64) (k22 : Int32 → Int32 → Int64 → Int32 → (Nat → Nat → Int64) → (Nat → Int32) → (Nat → Int32) → Int32 → Int32 → Int64 → Option ((Nat → Nat → Int64) × (Nat → Int32) × (Nat → Int32) × Int64)) : Option ((Nat → Nat → Int64) × (Nat → Int32) × (Nat → Int32) × Int64) := match w with
  | 0 => none
  | w + 1 => if c_columns < x6 then (F1_exchange_b108 z x1 x2 x3 x5 c_table c_rowNames c_columnNames c_rows c_columns c_scale k22) else (if x5 = x1 then (F1_exchange_b108 z x1 x2 x3 x5 c_table c_rowNames c_columnNames c_rows c_columns c_scale k22) else (if x6 = x2 then (F1_exchange_b102 z x1 x2 x3 x5 x6 c_table c_rowNames c_columnNames c_rows c_columns c_scale k22 (fun q0 q1 q2 q3 q4 q5 q6 q7 q8 q9 q10 => F1_exchange_b34 z w q0 q1 q2 q3 q4 q5 q6 q7 q8 q9 q10 k22)) else (xg (xin x5 7) (xg (xin x5 7) (xg (xin x6 7) (xg (xin x5 7) (xg (xin x2 7) (xg (xin x1 7) (xg (xin x6 7) (xg (xnzl c_scale) (xg (xin x6 7) (F1_exchange_b102 z x1 x2 x3 x5 x6 (va_up c_table (xn x5) (vp_updL (c_table (xn x5)) (xn x6) (((((c_table (xn x5)) (xn x6)) * x3) - (((c_table (xn x5)) (xn x2)) * ((c_table (xn x1)) (xn x6)))) / c_scale))) c_rowNames c_columnNames c_rows c_columns c_scale k22 (fun q0 q1 q2 q3 q4 q5 q6 q7 q8 q9 q10 => F1_exchange_b34 z w q0 q1 q2 q3 q4 q5 q6 q7 q8 q9 q10 k22)))))))))))))
theorem T1_exchange_b34 {X : xX} {c_picks : (Nat → Nat → Int32)} {c_many : (Nat → Int32)} {c_rows : Int32} {c_columns : Int32} {z : Nat} {v : (Nat → Nat → Int64) × (Nat → Int32) × (Nat → Int32) × Int64} {k22 : Int32 → Int32 → Int64 → Int32 → (Nat → Nat → Int64) → (Nat → Int32) → (Nat → Int32) → Int32 → Int32 → Int64 → Option ((Nat → Nat → Int64) × (Nat → Int32) × (Nat → Int32) × Int64)} (hX : xIs (j1_exchange) X none none (hG c_picks c_many v.1 v.2.1 v.2.2.1 c_rows c_columns v.2.2.2)) (hk22 : ∀ {x1 : Int32} {x2 : Int32} {x3 : Int64} {x5 : Int32} {c_table : (Nat → Nat → Int64)} {c_rowNames : (Nat → Int32)} {c_columnNames : (Nat → Int32)} {c_scale : Int64}, k22 x1 x2 x3 x5 c_table c_rowNames c_columnNames c_rows c_columns c_scale = some v → xV (j1_exchange) X 0 0 (hG c_picks c_many c_table c_rowNames c_columnNames c_rows c_columns c_scale) 22 [(0, .ref 0), (1, .int x1), (2, .int x2), (3, .long x3), (5, .int x5)] []) : ∀ (w : Nat) {x1 : Int32} {x2 : Int32} {x3 : Int64} {x5 : Int32} {x6 : Int32} {c_table : (Nat → Nat → Int64)} {c_rowNames : (Nat → Int32)} {c_columnNames : (Nat → Int32)} {c_scale : Int64}, F1_exchange_b34 z w x1 x2 x3 x5 x6 c_table c_rowNames c_columnNames c_rows c_columns c_scale k22 = some v → xV (j1_exchange) X 0 0 (hG c_picks c_many c_table c_rowNames c_columnNames c_rows c_columns c_scale) 34 [(0, .ref 0), (1, .int x1), (2, .int x2), (3, .long x3), (5, .int x5), (6, .int x6)] [] := by
  intro w
  induction w with
  | zero => intro x1 x2 x3 x5 x6 c_table c_rowNames c_columnNames c_scale hf; cases hf
  | succ w ih =>
    intro x1 x2 x3 x5 x6 c_table c_rowNames c_columnNames c_scale hf
    unfold F1_exchange_b34 at hf
    refine xV_iload 36 rfl dX1_exchange_34 5 rfl ?_
    refine xV_aload_n 37 rfl dX1_exchange_36 rfl 0 rfl ?_
    refine xV_get (v := .int c_columns) 40 rfl dX1_exchange_37 f1_60 rfl rfl ?_
    refine xV_icmp_gt (tgt := 108) 43 rfl dX1_exchange_40 (by decide) (fun h40 => ?_) (fun h40 => ?_)
    · have hf := xif_t hf h40
      refine xV_sub [0, 1, 2, 3, 4] rfl ?_
      exact T1_exchange_b108 hX hk22 hf
    · have hf := xif_f hf h40
      refine xV_iload 45 rfl dX1_exchange_43 4 rfl ?_
      refine xV_iload_n 46 rfl dX1_exchange_45 rfl 1 rfl ?_
      refine xV_icmp_eq (tgt := 108) 49 rfl dX1_exchange_46 (by decide) (fun h46 => ?_) (fun h46 => ?_)
      · have hf := xif_t hf h46
        refine xV_sub [0, 1, 2, 3, 4] rfl ?_
        exact T1_exchange_b108 hX hk22 hf
      · have hf := xif_f hf h46
        refine xV_iload 51 rfl dX1_exchange_49 5 rfl ?_
        refine xV_iload_n 52 rfl dX1_exchange_51 rfl 2 rfl ?_
        refine xV_icmp_eq (tgt := 102) 55 rfl dX1_exchange_52 (by decide) (fun h52 => ?_) (fun h52 => ?_)
        · have hf := xif_t hf h52
          exact T1_exchange_b102 hX hk22 (fun {_ _ _ _ _ _ _ _ _} hq => ih hq) hf
        · have hf := xif_f hf h52
          refine xV_aload_n 56 rfl dX1_exchange_55 rfl 0 rfl ?_
          refine xV_get (v := .ref 5) 59 rfl dX1_exchange_56 f1_22 rfl rfl ?_
          refine xV_iload 61 rfl dX1_exchange_59 4 rfl ?_
          obtain ⟨hg61, hf⟩ := xg_s hf
          refine xV_aaload (b := (6 + (xn x5))) 62 rfl dX1_exchange_61 rfl rfl rfl (xin_ok hg61) (by show ([6, 7, 8, 9, 10, 11, 12] : List Nat)[(xn x5)]? = some (6 + (xn x5)); have hi := xin_lt hg61; generalize (xn x5) = i at hi ⊢; match i, hi with | 0, _ => rfl | 1, _ => rfl | 2, _ => rfl | 3, _ => rfl | 4, _ => rfl | 5, _ => rfl | 6, _ => rfl) ?_
          refine xV_iload 64 rfl dX1_exchange_62 5 rfl ?_
          refine xV_aload_n 65 rfl dX1_exchange_64 rfl 0 rfl ?_
          refine xV_get (v := .ref 5) 68 rfl dX1_exchange_65 f1_22 rfl rfl ?_
          refine xV_iload 70 rfl dX1_exchange_68 4 rfl ?_
          obtain ⟨hg70, hf⟩ := xg_s hf
          refine xV_aaload (b := (6 + (xn x5))) 71 rfl dX1_exchange_70 rfl rfl rfl (xin_ok hg70) (by show ([6, 7, 8, 9, 10, 11, 12] : List Nat)[(xn x5)]? = some (6 + (xn x5)); have hi := xin_lt hg70; generalize (xn x5) = i at hi ⊢; match i, hi with | 0, _ => rfl | 1, _ => rfl | 2, _ => rfl | 3, _ => rfl | 4, _ => rfl | 5, _ => rfl | 6, _ => rfl) ?_
          refine xV_iload 73 rfl dX1_exchange_71 5 rfl ?_
          obtain ⟨hg73, hf⟩ := xg_s hf
          refine xV_laload (f := (c_table (xn x5))) (z := 7) 74 rfl dX1_exchange_73 (by have hi := (xin_lt hg70); generalize (xn x5) = i at hi ⊢; match i, hi with | 0, _ => exact rfl | 1, _ => exact rfl | 2, _ => exact rfl | 3, _ => exact rfl | 4, _ => exact rfl | 5, _ => exact rfl | 6, _ => exact rfl) (xin_ok hg73) rfl ?_
          refine xV_lload_n 75 rfl dX1_exchange_74 rfl 3 rfl ?_
          refine xV_lmul 76 rfl dX1_exchange_75 ?_
          refine xV_aload_n 77 rfl dX1_exchange_76 rfl 0 rfl ?_
          refine xV_get (v := .ref 5) 80 rfl dX1_exchange_77 f1_22 rfl rfl ?_
          refine xV_iload 82 rfl dX1_exchange_80 4 rfl ?_
          obtain ⟨hg82, hf⟩ := xg_s hf
          refine xV_aaload (b := (6 + (xn x5))) 83 rfl dX1_exchange_82 rfl rfl rfl (xin_ok hg82) (by show ([6, 7, 8, 9, 10, 11, 12] : List Nat)[(xn x5)]? = some (6 + (xn x5)); have hi := xin_lt hg82; generalize (xn x5) = i at hi ⊢; match i, hi with | 0, _ => rfl | 1, _ => rfl | 2, _ => rfl | 3, _ => rfl | 4, _ => rfl | 5, _ => rfl | 6, _ => rfl) ?_
          refine xV_iload_n 84 rfl dX1_exchange_83 rfl 2 rfl ?_
          obtain ⟨hg84, hf⟩ := xg_s hf
          refine xV_laload (f := (c_table (xn x5))) (z := 7) 85 rfl dX1_exchange_84 (by have hi := (xin_lt hg82); generalize (xn x5) = i at hi ⊢; match i, hi with | 0, _ => exact rfl | 1, _ => exact rfl | 2, _ => exact rfl | 3, _ => exact rfl | 4, _ => exact rfl | 5, _ => exact rfl | 6, _ => exact rfl) (xin_ok hg84) rfl ?_
          refine xV_aload_n 86 rfl dX1_exchange_85 rfl 0 rfl ?_
          refine xV_get (v := .ref 5) 89 rfl dX1_exchange_86 f1_22 rfl rfl ?_
          refine xV_iload_n 90 rfl dX1_exchange_89 rfl 1 rfl ?_
          obtain ⟨hg90, hf⟩ := xg_s hf
          refine xV_aaload (b := (6 + (xn x1))) 91 rfl dX1_exchange_90 rfl rfl rfl (xin_ok hg90) (by show ([6, 7, 8, 9, 10, 11, 12] : List Nat)[(xn x1)]? = some (6 + (xn x1)); have hi := xin_lt hg90; generalize (xn x1) = i at hi ⊢; match i, hi with | 0, _ => rfl | 1, _ => rfl | 2, _ => rfl | 3, _ => rfl | 4, _ => rfl | 5, _ => rfl | 6, _ => rfl) ?_
          refine xV_iload 93 rfl dX1_exchange_91 5 rfl ?_
          obtain ⟨hg93, hf⟩ := xg_s hf
          refine xV_laload (f := (c_table (xn x1))) (z := 7) 94 rfl dX1_exchange_93 (by have hi := (xin_lt hg90); generalize (xn x1) = i at hi ⊢; match i, hi with | 0, _ => exact rfl | 1, _ => exact rfl | 2, _ => exact rfl | 3, _ => exact rfl | 4, _ => exact rfl | 5, _ => exact rfl | 6, _ => exact rfl) (xin_ok hg93) rfl ?_
          refine xV_lmul 95 rfl dX1_exchange_94 ?_
          refine xV_lsub 96 rfl dX1_exchange_95 ?_
          refine xV_aload_n 97 rfl dX1_exchange_96 rfl 0 rfl ?_
          refine xV_get (v := .long c_scale) 100 rfl dX1_exchange_97 f1_63 rfl rfl ?_
          obtain ⟨hg100, hf⟩ := xg_s hf
          refine xV_ldiv 101 rfl dX1_exchange_100 (xnzl_ok hg100) ?_
          obtain ⟨hg101, hf⟩ := xg_s hf
          refine xV_lastore (f := (c_table (xn x5))) (z := 7) (h' := (hG c_picks c_many (va_up c_table (xn x5) (vp_updL (c_table (xn x5)) (xn x6) (((((c_table (xn x5)) (xn x6)) * x3) - (((c_table (xn x5)) (xn x2)) * ((c_table (xn x1)) (xn x6)))) / c_scale))) c_rowNames c_columnNames c_rows c_columns c_scale)) (j := (xn x6)) 102 rfl dX1_exchange_101 (by have hi := (xin_lt hg82); generalize (xn x5) = i at hi ⊢; match i, hi with | 0, _ => exact rfl | 1, _ => exact rfl | 2, _ => exact rfl | 3, _ => exact rfl | 4, _ => exact rfl | 5, _ => exact rfl | 6, _ => exact rfl) (xin_ok hg101) rfl (by have hi := (xin_lt hg82); generalize (xn x5) = i at hi ⊢; match i, hi with | 0, _ => exact rfl | 1, _ => exact rfl | 2, _ => exact rfl | 3, _ => exact rfl | 4, _ => exact rfl | 5, _ => exact rfl | 6, _ => exact rfl) ?_
          exact T1_exchange_b102 hX hk22 (fun {_ _ _ _ _ _ _ _ _} hq => ih hq) hf
def F1_exchange_b22 (z : Nat) (w : Nat) (x1 : Int32) (x2 : Int32) (x3 : Int64) (x5 : Int32) (c_table : (Nat → Nat → Int64)) (c_rowNames : (Nat → Int32)) (c_columnNames : (Nat → Int32)) (c_rows : Int32) (c_columns : Int32) (c_scale : Int64) : Option ((Nat → Nat → Int64) × (Nat → Int32) × (Nat → Int32) × Int64) := match w with
  | 0 => none
  | w + 1 => if c_rows < x5 then (F1_exchange_b114 z x1 x2 x3 c_table c_rowNames c_columnNames c_rows c_columns c_scale) else (F1_exchange_b34 z z x1 x2 x3 x5 (0 : Int32) c_table c_rowNames c_columnNames c_rows c_columns c_scale (fun q0 q1 q2 q3 q4 q5 q6 q7 q8 q9 => F1_exchange_b22 z w q0 q1 q2 q3 q4 q5 q6 q7 q8 q9))
theorem T1_exchange_b22 {X : xX} {c_picks : (Nat → Nat → Int32)} {c_many : (Nat → Int32)} {c_rows : Int32} {c_columns : Int32} {z : Nat} {v : (Nat → Nat → Int64) × (Nat → Int32) × (Nat → Int32) × Int64} (hX : xIs (j1_exchange) X none none (hG c_picks c_many v.1 v.2.1 v.2.2.1 c_rows c_columns v.2.2.2)) : ∀ (w : Nat) {x1 : Int32} {x2 : Int32} {x3 : Int64} {x5 : Int32} {c_table : (Nat → Nat → Int64)} {c_rowNames : (Nat → Int32)} {c_columnNames : (Nat → Int32)} {c_scale : Int64}, F1_exchange_b22 z w x1 x2 x3 x5 c_table c_rowNames c_columnNames c_rows c_columns c_scale = some v → xV (j1_exchange) X 0 0 (hG c_picks c_many c_table c_rowNames c_columnNames c_rows c_columns c_scale) 22 [(0, .ref 0), (1, .int x1), (2, .int x2), (3, .long x3), (5, .int x5)] [] := by
  intro w
  induction w with
  | zero => intro x1 x2 x3 x5 c_table c_rowNames c_columnNames c_scale hf; cases hf
  | succ w ih =>
    intro x1 x2 x3 x5 c_table c_rowNames c_columnNames c_scale hf
    unfold F1_exchange_b22 at hf
    refine xV_iload 24 rfl dX1_exchange_22 4 rfl ?_
    refine xV_aload_n 25 rfl dX1_exchange_24 rfl 0 rfl ?_
    refine xV_get (v := .int c_rows) 28 rfl dX1_exchange_25 f1_57 rfl rfl ?_
    refine xV_icmp_gt (tgt := 114) 31 rfl dX1_exchange_28 (by decide) (fun h28 => ?_) (fun h28 => ?_)
    · have hf := xif_t hf h28
      refine xV_sub [0, 1, 2, 3] rfl ?_
      exact T1_exchange_b114 hX hf
    · have hf := xif_f hf h28
      refine xV_iconst 32 rfl dX1_exchange_31 xy_i0 ?_
      refine xV_istore (L' := [(6, .int (0 : Int32)), (0, .ref 0), (1, .int x1), (2, .int x2), (3, .long x3), (5, .int x5)]) 34 rfl dX1_exchange_32 (xlt rfl) rfl ?_
      refine xV_sub [1, 2, 3, 4, 5, 0] rfl ?_
      exact T1_exchange_b34 hX (fun {_ _ _ _ _ _ _ _} hq => ih hq) _ hf
def F1_exchange (z : Nat) (x1 : Int32) (x2 : Int32) (c_table : (Nat → Nat → Int64)) (c_rowNames : (Nat → Int32)) (c_columnNames : (Nat → Int32)) (c_rows : Int32) (c_columns : Int32) (c_scale : Int64) : Option ((Nat → Nat → Int64) × (Nat → Int32) × (Nat → Int32) × Int64) :=
  xg (xin x1 7) (xg (xin x2 7) (if (lg_cmp c_scale (0 : Int64)) = 0 then (some (c_table, c_rowNames, c_columnNames, c_scale)) else (F1_exchange_b22 z z x1 x2 ((c_table (xn x1)) (xn x2)) (0 : Int32) c_table c_rowNames c_columnNames c_rows c_columns c_scale)))
theorem T1_exchange {X : xX} {z : Nat} {x1 : Int32} {x2 : Int32} {c_table : (Nat → Nat → Int64)} {c_rowNames : (Nat → Int32)} {c_columnNames : (Nat → Int32)} {c_rows : Int32} {c_columns : Int32} {c_scale : Int64} {c_picks : (Nat → Nat → Int32)} {c_many : (Nat → Int32)} {v : (Nat → Nat → Int64) × (Nat → Int32) × (Nat → Int32) × Int64} (hX : xIs (j1_exchange) X none none (hG c_picks c_many v.1 v.2.1 v.2.2.1 c_rows c_columns v.2.2.2)) (hf : F1_exchange z x1 x2 c_table c_rowNames c_columnNames c_rows c_columns c_scale = some v) : xV (j1_exchange) X 0 0 (hG c_picks c_many c_table c_rowNames c_columnNames c_rows c_columns c_scale) 0 [(0, .ref 0), (1, .int x1), (2, .int x2)] [] := by
  unfold F1_exchange at hf
  refine xV_aload_n 1 rfl dX1_exchange_0 rfl 0 rfl ?_
  refine xV_get (v := .ref 5) 4 rfl dX1_exchange_1 f1_22 rfl rfl ?_
  refine xV_iload_n 5 rfl dX1_exchange_4 rfl 1 rfl ?_
  obtain ⟨hg5, hf⟩ := xg_s hf
  refine xV_aaload (b := (6 + (xn x1))) 6 rfl dX1_exchange_5 rfl rfl rfl (xin_ok hg5) (by show ([6, 7, 8, 9, 10, 11, 12] : List Nat)[(xn x1)]? = some (6 + (xn x1)); have hi := xin_lt hg5; generalize (xn x1) = i at hi ⊢; match i, hi with | 0, _ => rfl | 1, _ => rfl | 2, _ => rfl | 3, _ => rfl | 4, _ => rfl | 5, _ => rfl | 6, _ => rfl) ?_
  refine xV_iload_n 7 rfl dX1_exchange_6 rfl 2 rfl ?_
  obtain ⟨hg7, hf⟩ := xg_s hf
  refine xV_laload (f := (c_table (xn x1))) (z := 7) 8 rfl dX1_exchange_7 (by have hi := (xin_lt hg5); generalize (xn x1) = i at hi ⊢; match i, hi with | 0, _ => exact rfl | 1, _ => exact rfl | 2, _ => exact rfl | 3, _ => exact rfl | 4, _ => exact rfl | 5, _ => exact rfl | 6, _ => exact rfl) (xin_ok hg7) rfl ?_
  refine xV_lstore_n (L' := [(3, .long ((c_table (xn x1)) (xn x2))), (0, .ref 0), (1, .int x1), (2, .int x2)]) 9 rfl dX1_exchange_8 rfl (xlt rfl) rfl ?_
  refine xV_aload_n 10 rfl dX1_exchange_9 rfl 1 rfl ?_
  refine xV_get (v := .long c_scale) 13 rfl dX1_exchange_10 f1_63 rfl rfl ?_
  refine xV_lconst (v := 0) 14 rfl dX1_exchange_13 (by decide) ?_
  refine xV_lcmp 15 rfl dX1_exchange_14 ?_
  refine xV_if_ne (tgt := 19) 18 rfl dX1_exchange_15 (by decide) (fun h15 => ?_) (fun h15 => ?_)
  · have hf := xif_f hf h15
    refine xV_iconst 20 rfl dX1_exchange_19 xy_i0 ?_
    refine xV_istore (L' := [(5, .int (0 : Int32)), (3, .long ((c_table (xn x1)) (xn x2))), (0, .ref 0), (1, .int x1), (2, .int x2)]) 22 rfl dX1_exchange_20 (xlt rfl) rfl ?_
    refine xV_sub [2, 3, 4, 1, 0] rfl ?_
    exact T1_exchange_b22 hX _ hf
  · have hf := xif_t hf h15
    obtain rfl := Option.some.inj hf
    exact xV_vret hX dX1_exchange_18 (Nat.zero_le _) (Nat.zero_le _)
theorem C1_exchange (l : Launch) {z : Nat} {x1 : Int32} {x2 : Int32} {c_table : (Nat → Nat → Int64)} {c_rowNames : (Nat → Int32)} {c_columnNames : (Nat → Int32)} {c_rows : Int32} {c_columns : Int32} {c_scale : Int64} {c_picks : (Nat → Nat → Int32)} {c_many : (Nat → Int32)} {v : (Nat → Nat → Int64) × (Nat → Int32) × (Nat → Int32) × Int64} (hf : F1_exchange z x1 x2 c_table c_rowNames c_columnNames c_rows c_columns c_scale = some v) : xCt l yX1_exchange none j1_exchange [.ref 0, .int x1, .int x2] (hG c_picks c_many c_table c_rowNames c_columnNames c_rows c_columns c_scale) none (hG c_picks c_many v.1 v.2.1 v.2.2.1 c_rows c_columns v.2.2.2) := xCt_of (by decide) rfl (Nat.le_of_ble_eq_true rfl) (fun _ hX => T1_exchange hX hf)
theorem m1_exchange : xMd yX1_exchange RX1 none j1_exchange 2 := ⟨List.mem_of_getElem? (i := 903) (by decide +kernel), List.mem_of_getElem? (i := 37) (by decide +kernel), rfl, by decide +kernel⟩
theorem v1_exchange : xMv yX1_exchange RX1 := ⟨List.mem_of_getElem? (i := 901) (by decide +kernel), List.mem_of_getElem? (i := 902) (by decide +kernel)⟩
theorem xy_s1000 : (Int16.ofInt (1000)).toInt32 = (1000 : Int32) := by decide
theorem k1_39 : Cond.methodLink RX1 39 yX1_fill ∈ wsL_law0 := List.mem_of_getElem? (i := 871) (by decide +kernel)
theorem k1_43 : Cond.methodLink RX1 43 yX1_entering ∈ wsL_law0 := List.mem_of_getElem? (i := 880) (by decide +kernel)
theorem k1_51 : Cond.methodLink RX1 51 yX1_exchange ∈ wsL_law0 := List.mem_of_getElem? (i := 900) (by decide +kernel)
theorem k1_47 : Cond.methodLink RX1 47 yX1_leaving ∈ wsL_law0 := List.mem_of_getElem? (i := 892) (by decide +kernel)
theorem e_GS_G_L0 {c_picks : (Nat → Nat → Int32)} {c_many : (Nat → Int32)} {c_table : (Nat → Nat → Int64)} {c_rowNames : (Nat → Int32)} {c_columnNames : (Nat → Int32)} {c_rows : Int32} {c_columns : Int32} {c_scale : Int64} {c_s_fields : Int32} {c_s_ties : Int32} {c_s_worth : (Nat → Int32)} {c_s_forces : (Nat → Int32)} {c_s_many : (Nat → Int32)} {c_s_codes : (Nat → Nat → Int32)} {c_s_b_list : (Nat → Nat → Int32)} {c_s_b_many : (Nat → Int32)} {c_s_p_list : (Nat → Nat → Int32)} {c_s_p_weights : (Nat → Nat → Int32)} {c_s_p_drawn : (Nat → Nat → Int32)} {c_s_p_many : (Nat → Int32)} {c_s_p_all : (Nat → Int32)} {c_s_p_turns : (Nat → Int32)} {d_picks : (Nat → Nat → Int32)} {d_many : (Nat → Int32)} {d_table : (Nat → Nat → Int64)} {d_rowNames : (Nat → Int32)} {d_columnNames : (Nat → Int32)} {d_rows : Int32} {d_columns : Int32} {d_scale : Int64} : xEmb (fun j => 0 + j) (hG c_picks c_many c_table c_rowNames c_columnNames c_rows c_columns c_scale) (hG d_picks d_many d_table d_rowNames d_columnNames d_rows d_columns d_scale) (hGS c_picks c_many c_table c_rowNames c_columnNames c_rows c_columns c_scale c_s_fields c_s_ties c_s_worth c_s_forces c_s_many c_s_codes c_s_b_list c_s_b_many c_s_p_list c_s_p_weights c_s_p_drawn c_s_p_many c_s_p_all c_s_p_turns) (hGS d_picks d_many d_table d_rowNames d_columnNames d_rows d_columns d_scale c_s_fields c_s_ties c_s_worth c_s_forces c_s_many c_s_codes c_s_b_list c_s_b_many c_s_p_list c_s_p_weights c_s_p_drawn c_s_p_many c_s_p_all c_s_p_turns) 1 := ⟨by show xNd _ 15 = true; decide +kernel, And.intro hGS_0 (And.intro hGS_1 (And.intro hGS_2 (And.intro hGS_3 (And.intro hGS_4 (And.intro hGS_5 (And.intro hGS_6 (And.intro hGS_7 (And.intro hGS_8 (And.intro hGS_9 (And.intro hGS_10 (And.intro hGS_11 (And.intro hGS_12 (And.intro hGS_13 (And.intro hGS_14 (trivial))))))))))))))), And.intro hGS_0 (And.intro hGS_1 (And.intro hGS_2 (And.intro hGS_3 (And.intro hGS_4 (And.intro hGS_5 (And.intro hGS_6 (And.intro hGS_7 (And.intro hGS_8 (And.intro hGS_9 (And.intro hGS_10 (And.intro hGS_11 (And.intro hGS_12 (And.intro hGS_13 (And.intro hGS_14 (trivial))))))))))))))), ⟨[15, 16, 17, 18, 19, 20, 21, 22, 23, 24, 25, 26, 27, 28, 29, 30, 31, 32, 33, 34, 35], And.intro (xeq3 hGS_15 hGS_15 rfl) (And.intro (xeq3 hGS_16 hGS_16 rfl) (And.intro (xeq3 hGS_17 hGS_17 rfl) (And.intro (xeq3 hGS_18 hGS_18 rfl) (And.intro (xeq3 hGS_19 hGS_19 rfl) (And.intro (xeq3 hGS_20 hGS_20 rfl) (And.intro (xeq3 hGS_21 hGS_21 rfl) (And.intro (xeq3 hGS_22 hGS_22 rfl) (And.intro (xeq3 hGS_23 hGS_23 rfl) (And.intro (xeq3 hGS_24 hGS_24 rfl) (And.intro (xeq3 hGS_25 hGS_25 rfl) (And.intro (xeq3 hGS_26 hGS_26 rfl) (And.intro (xeq3 hGS_27 hGS_27 rfl) (And.intro (xeq3 hGS_28 hGS_28 rfl) (And.intro (xeq3 hGS_29 hGS_29 rfl) (And.intro (xeq3 hGS_30 hGS_30 rfl) (And.intro (xeq3 hGS_31 hGS_31 rfl) (And.intro (xeq3 hGS_32 hGS_32 rfl) (And.intro (xeq3 hGS_33 hGS_33 rfl) (And.intro (xeq3 hGS_34 hGS_34 rfl) (And.intro (xeq3 hGS_35 hGS_35 rfl) (trivial))))))))))))))))))))), by show xCov _ 15 _ 36 = true; decide +kernel⟩, rfl, ⟨_, hGS_0⟩⟩
theorem dX1_solve_0 : decode cX1_solve 0 = .ok (.aload_n 0, 1) := by decide +kernel
theorem dX1_solve_1 : decode cX1_solve 1 = .ok (.aload_n 1, 1) := by decide +kernel
theorem dX1_solve_2 : decode cX1_solve 2 = .ok (.iload_n 2, 1) := by decide +kernel
theorem dX1_solve_3 : decode cX1_solve 3 = .ok (.invokevirtual 39, 3) := by decide +kernel
theorem dX1_solve_6 : decode cX1_solve 6 = .ok (.iconst 0, 1) := by decide +kernel
theorem dX1_solve_7 : decode cX1_solve 7 = .ok (.istore_n 3, 1) := by decide +kernel
theorem dX1_solve_8 : decode cX1_solve 8 = .ok (.iload_n 3, 1) := by decide +kernel
theorem dX1_solve_9 : decode cX1_solve 9 = .ok (.sipush 1000, 3) := by decide +kernel
theorem dX1_solve_12 : decode cX1_solve 12 = .ok (.if_icmp .ge 48, 3) := by decide +kernel
theorem dX1_solve_15 : decode cX1_solve 15 = .ok (.aload_n 0, 1) := by decide +kernel
theorem dX1_solve_16 : decode cX1_solve 16 = .ok (.invokevirtual 43, 3) := by decide +kernel
theorem dX1_solve_19 : decode cX1_solve 19 = .ok (.istore 4, 2) := by decide +kernel
theorem dX1_solve_21 : decode cX1_solve 21 = .ok (.iload 4, 2) := by decide +kernel
theorem dX1_solve_23 : decode cX1_solve 23 = .ok (.iconst (-1), 1) := by decide +kernel
theorem dX1_solve_24 : decode cX1_solve 24 = .ok (.if_icmp .ne 7, 3) := by decide +kernel
theorem dX1_solve_27 : decode cX1_solve 27 = .ok (.iconst (-1), 1) := by decide +kernel
theorem dX1_solve_28 : decode cX1_solve 28 = .ok (.goto 9, 3) := by decide +kernel
theorem dX1_solve_31 : decode cX1_solve 31 = .ok (.aload_n 0, 1) := by decide +kernel
theorem dX1_solve_32 : decode cX1_solve 32 = .ok (.iload 4, 2) := by decide +kernel
theorem dX1_solve_34 : decode cX1_solve 34 = .ok (.invokevirtual 47, 3) := by decide +kernel
theorem dX1_solve_37 : decode cX1_solve 37 = .ok (.istore 5, 2) := by decide +kernel
theorem dX1_solve_39 : decode cX1_solve 39 = .ok (.iload 5, 2) := by decide +kernel
theorem dX1_solve_41 : decode cX1_solve 41 = .ok (.iconst (-1), 1) := by decide +kernel
theorem dX1_solve_42 : decode cX1_solve 42 = .ok (.if_icmp .ne 4, 3) := by decide +kernel
theorem dX1_solve_45 : decode cX1_solve 45 = .ok (.return_, 1) := by decide +kernel
theorem dX1_solve_46 : decode cX1_solve 46 = .ok (.aload_n 0, 1) := by decide +kernel
theorem dX1_solve_47 : decode cX1_solve 47 = .ok (.iload 5, 2) := by decide +kernel
theorem dX1_solve_49 : decode cX1_solve 49 = .ok (.iload 4, 2) := by decide +kernel
theorem dX1_solve_51 : decode cX1_solve 51 = .ok (.invokevirtual 51, 3) := by decide +kernel
theorem dX1_solve_54 : decode cX1_solve 54 = .ok (.iinc 3 1, 3) := by decide +kernel
theorem dX1_solve_57 : decode cX1_solve 57 = .ok (.goto (-49), 3) := by decide +kernel
theorem dX1_solve_60 : decode cX1_solve 60 = .ok (.return_, 1) := by decide +kernel
abbrev j1_solve : xJ := (cX1_solve, 6, RX1, 4, 0, 0)
def F1_solve_b37 (z : Nat) (x3 : Int32) (x4 : Int32) (s0 : Int32) (c_picks : (Nat → Nat → Int32)) (c_many : (Nat → Int32)) (c_table : (Nat → Nat → Int64)) (c_rowNames : (Nat → Int32)) (c_columnNames : (Nat → Int32)) (c_rows : Int32) (c_columns : Int32) (c_scale : Int64) (c_s_fields : Int32) (c_s_ties : Int32) (c_s_worth : (Nat → Int32)) (c_s_codes : (Nat → Nat → Int32)) (k8 : Int32 → (Nat → Nat → Int32) → (Nat → Int32) → (Nat → Nat → Int64) → (Nat → Int32) → (Nat → Int32) → Int32 → Int32 → Int64 → Int32 → Int32 → (Nat → Int32) → (Nat → Nat → Int32) → Option ((Nat → Nat → Int64) × (Nat → Int32) × (Nat → Int32) × Int32 × Int32 × Int64)) : Option ((Nat → Nat → Int64) × (Nat → Int32) × (Nat → Int32) × Int32 × Int32 × Int64) :=
  if s0 = (-1 : Int32) then (some (c_table, c_rowNames, c_columnNames, c_rows, c_columns, c_scale)) else ((F1_exchange z s0 x4 c_table c_rowNames c_columnNames c_rows c_columns c_scale).bind (fun v51 => k8 (x3 + (1 : Int32)) c_picks c_many v51.1 v51.2.1 v51.2.2.1 c_rows c_columns v51.2.2.2 c_s_fields c_s_ties c_s_worth c_s_codes))
theorem T1_solve_b37 {X : xX} {c_s_forces : (Nat → Int32)} {c_s_many : (Nat → Int32)} {c_s_b_list : (Nat → Nat → Int32)} {c_s_b_many : (Nat → Int32)} {c_s_p_list : (Nat → Nat → Int32)} {c_s_p_weights : (Nat → Nat → Int32)} {c_s_p_drawn : (Nat → Nat → Int32)} {c_s_p_many : (Nat → Int32)} {c_s_p_all : (Nat → Int32)} {c_s_p_turns : (Nat → Int32)} {x3 : Int32} {x4 : Int32} {s0 : Int32} {c_picks : (Nat → Nat → Int32)} {c_many : (Nat → Int32)} {c_table : (Nat → Nat → Int64)} {c_rowNames : (Nat → Int32)} {c_columnNames : (Nat → Int32)} {c_rows : Int32} {c_columns : Int32} {c_scale : Int64} {c_s_fields : Int32} {c_s_ties : Int32} {c_s_worth : (Nat → Int32)} {c_s_codes : (Nat → Nat → Int32)} {z : Nat} {v : (Nat → Nat → Int64) × (Nat → Int32) × (Nat → Int32) × Int32 × Int32 × Int64} {k8 : Int32 → (Nat → Nat → Int32) → (Nat → Int32) → (Nat → Nat → Int64) → (Nat → Int32) → (Nat → Int32) → Int32 → Int32 → Int64 → Int32 → Int32 → (Nat → Int32) → (Nat → Nat → Int32) → Option ((Nat → Nat → Int64) × (Nat → Int32) × (Nat → Int32) × Int32 × Int32 × Int64)} (hX : xIs (j1_solve) X none none (hGS c_picks c_many v.1 v.2.1 v.2.2.1 v.2.2.2.1 v.2.2.2.2.1 v.2.2.2.2.2 c_s_fields c_s_ties c_s_worth c_s_forces c_s_many c_s_codes c_s_b_list c_s_b_many c_s_p_list c_s_p_weights c_s_p_drawn c_s_p_many c_s_p_all c_s_p_turns)) (hk8 : ∀ {x3 : Int32} {c_table : (Nat → Nat → Int64)} {c_rowNames : (Nat → Int32)} {c_columnNames : (Nat → Int32)} {c_rows : Int32} {c_columns : Int32} {c_scale : Int64}, k8 x3 c_picks c_many c_table c_rowNames c_columnNames c_rows c_columns c_scale c_s_fields c_s_ties c_s_worth c_s_codes = some v → xV (j1_solve) X 0 0 (hGS c_picks c_many c_table c_rowNames c_columnNames c_rows c_columns c_scale c_s_fields c_s_ties c_s_worth c_s_forces c_s_many c_s_codes c_s_b_list c_s_b_many c_s_p_list c_s_p_weights c_s_p_drawn c_s_p_many c_s_p_all c_s_p_turns) 8 [(0, .ref 0), (3, .int x3)] []) (hf : F1_solve_b37 z x3 x4 s0 c_picks c_many c_table c_rowNames c_columnNames c_rows c_columns c_scale c_s_fields c_s_ties c_s_worth c_s_codes k8 = some v) : xV (j1_solve) X 0 0 (hGS c_picks c_many c_table c_rowNames c_columnNames c_rows c_columns c_scale c_s_fields c_s_ties c_s_worth c_s_forces c_s_many c_s_codes c_s_b_list c_s_b_many c_s_p_list c_s_p_weights c_s_p_drawn c_s_p_many c_s_p_all c_s_p_turns) 37 [(0, .ref 0), (3, .int x3), (4, .int x4)] [.int s0] := by
  unfold F1_solve_b37 at hf
  refine xV_istore (L' := [(5, .int s0), (0, .ref 0), (3, .int x3), (4, .int x4)]) 39 rfl dX1_solve_37 (xlt rfl) rfl ?_
  refine xV_iload 41 rfl dX1_solve_39 0 rfl ?_
  refine xV_iconst 42 rfl dX1_solve_41 xy_im1 ?_
  refine xV_icmp_ne (tgt := 46) 45 rfl dX1_solve_42 (by decide) (fun h42 => ?_) (fun h42 => ?_)
  · have hf := xif_f hf h42
    refine xV_aload_n 47 rfl dX1_solve_46 rfl 1 rfl ?_
    refine xV_iload 49 rfl dX1_solve_47 0 rfl ?_
    refine xV_iload 51 rfl dX1_solve_49 3 rfl ?_
    obtain ⟨v51, hv51, hf⟩ := xb_s hf
    refine xV_vir2 (g := (fun j => 0 + j)) (hl := (hG c_picks c_many c_table c_rowNames c_columnNames c_rows c_columns c_scale)) (hl' := (hG c_picks c_many v51.1 v51.2.1 v51.2.2.1 c_rows c_columns v51.2.2.2)) (h' := (hGS c_picks c_many v51.1 v51.2.1 v51.2.2.1 c_rows c_columns v51.2.2.2 c_s_fields c_s_ties c_s_worth c_s_forces c_s_many c_s_codes c_s_b_list c_s_b_many c_s_p_list c_s_p_weights c_s_p_drawn c_s_p_many c_s_p_all c_s_p_turns)) (rest := []) (ci := 1) 54 rfl dX1_solve_51 rfl (C1_exchange X.1.2.1 hv51) m1_exchange v1_exchange k1_51 rfl rfl rfl (e_GS_G_L0) rfl (Nat.le_of_ble_eq_true rfl) (Nat.le_of_ble_eq_true rfl) (Nat.le_of_ble_eq_true rfl) ⟨Nat.le_refl _, Nat.le_refl _⟩ ?_
    show xV (j1_solve) X 0 0 (hGS c_picks c_many v51.1 v51.2.1 v51.2.2.1 c_rows c_columns v51.2.2.2 c_s_fields c_s_ties c_s_worth c_s_forces c_s_many c_s_codes c_s_b_list c_s_b_many c_s_p_list c_s_p_weights c_s_p_drawn c_s_p_many c_s_p_all c_s_p_turns) 54 [(5, .int s0), (0, .ref 0), (3, .int x3), (4, .int x4)] []
    refine xV_iinc (L' := [(3, .int (x3 + (1 : Int32))), (5, .int s0), (0, .ref 0), (4, .int x4)]) 57 rfl dX1_solve_54 2 rfl (xk_inc xy_i1) (xlt rfl) rfl ?_
    refine xV_goto (tgt := 8) dX1_solve_57 (by decide) ?_
    refine xV_sub [2, 0] rfl ?_
    exact hk8 hf
  · have hf := xif_t hf h42
    obtain rfl := Option.some.inj hf
    exact xV_vret hX dX1_solve_45 (Nat.zero_le _) (Nat.zero_le _)
def F1_solve_b8 (z : Nat) (w : Nat) (x3 : Int32) (c_picks : (Nat → Nat → Int32)) (c_many : (Nat → Int32)) (c_table : (Nat → Nat → Int64)) (c_rowNames : (Nat → Int32)) (c_columnNames : (Nat → Int32)) (c_rows : Int32) (c_columns : Int32) (c_scale : Int64) (c_s_fields : Int32) (c_s_ties : Int32) (c_s_worth : (Nat → Int32)) (c_s_codes : (Nat → Nat → Int32)) : Option ((Nat → Nat → Int64) × (Nat → Int32) × (Nat → Int32) × Int32 × Int32 × Int64) := match w with
  | 0 => none
  | w + 1 => if (1000 : Int32) ≤ x3 then (some (c_table, c_rowNames, c_columnNames, c_rows, c_columns, c_scale)) else ((F1_entering z c_table c_rowNames c_columnNames c_rows c_columns).bind (fun v16 => if v16 = (-1 : Int32) then (F1_solve_b37 z x3 v16 (-1 : Int32) c_picks c_many c_table c_rowNames c_columnNames c_rows c_columns c_scale c_s_fields c_s_ties c_s_worth c_s_codes (fun q0 q1 q2 q3 q4 q5 q6 q7 q8 q9 q10 q11 q12 => F1_solve_b8 z w q0 q1 q2 q3 q4 q5 q6 q7 q8 q9 q10 q11 q12)) else ((F1_leaving z v16 c_table c_rowNames c_rows c_columns).bind (fun v34 => F1_solve_b37 z x3 v16 v34 c_picks c_many c_table c_rowNames c_columnNames c_rows c_columns c_scale c_s_fields c_s_ties c_s_worth c_s_codes (fun q0 q1 q2 q3 q4 q5 q6 q7 q8 q9 q10 q11 q12 => F1_solve_b8 z w q0 q1 q2 q3 q4 q5 q6 q7 q8 q9 q10 q11 q12)))))
theorem T1_solve_b8 {X : xX} {c_picks : (Nat → Nat → Int32)} {c_many : (Nat → Int32)} {c_s_fields : Int32} {c_s_ties : Int32} {c_s_worth : (Nat → Int32)} {c_s_forces : (Nat → Int32)} {c_s_many : (Nat → Int32)} {c_s_codes : (Nat → Nat → Int32)} {c_s_b_list : (Nat → Nat → Int32)} {c_s_b_many : (Nat → Int32)} {c_s_p_list : (Nat → Nat → Int32)} {c_s_p_weights : (Nat → Nat → Int32)} {c_s_p_drawn : (Nat → Nat → Int32)} {c_s_p_many : (Nat → Int32)} {c_s_p_all : (Nat → Int32)} {c_s_p_turns : (Nat → Int32)} {z : Nat} {v : (Nat → Nat → Int64) × (Nat → Int32) × (Nat → Int32) × Int32 × Int32 × Int64} (hX : xIs (j1_solve) X none none (hGS c_picks c_many v.1 v.2.1 v.2.2.1 v.2.2.2.1 v.2.2.2.2.1 v.2.2.2.2.2 c_s_fields c_s_ties c_s_worth c_s_forces c_s_many c_s_codes c_s_b_list c_s_b_many c_s_p_list c_s_p_weights c_s_p_drawn c_s_p_many c_s_p_all c_s_p_turns)) : ∀ (w : Nat) {x3 : Int32} {c_table : (Nat → Nat → Int64)} {c_rowNames : (Nat → Int32)} {c_columnNames : (Nat → Int32)} {c_rows : Int32} {c_columns : Int32} {c_scale : Int64}, F1_solve_b8 z w x3 c_picks c_many c_table c_rowNames c_columnNames c_rows c_columns c_scale c_s_fields c_s_ties c_s_worth c_s_codes = some v → xV (j1_solve) X 0 0 (hGS c_picks c_many c_table c_rowNames c_columnNames c_rows c_columns c_scale c_s_fields c_s_ties c_s_worth c_s_forces c_s_many c_s_codes c_s_b_list c_s_b_many c_s_p_list c_s_p_weights c_s_p_drawn c_s_p_many c_s_p_all c_s_p_turns) 8 [(0, .ref 0), (3, .int x3)] [] := by
  intro w
  induction w with
  | zero => intro x3 c_table c_rowNames c_columnNames c_rows c_columns c_scale hf; cases hf
  | succ w ih =>
    intro x3 c_table c_rowNames c_columnNames c_rows c_columns c_scale hf
    unfold F1_solve_b8 at hf
    refine xV_iload_n 9 rfl dX1_solve_8 rfl 1 rfl ?_
    refine xV_sipush 12 rfl dX1_solve_9 xy_s1000 ?_
    refine xV_icmp_ge (tgt := 60) 15 rfl dX1_solve_12 (by decide) (fun h12 => ?_) (fun h12 => ?_)
    · have hf := xif_t hf h12
      obtain rfl := Option.some.inj hf
      exact xV_vret hX dX1_solve_60 (Nat.zero_le _) (Nat.zero_le _)
    · have hf := xif_f hf h12
      refine xV_aload_n 16 rfl dX1_solve_15 rfl 0 rfl ?_
      obtain ⟨v16, hv16, hf⟩ := xb_s hf
      refine xV_vir2 (g := (fun j => 0 + j)) (hl := (hG c_picks c_many c_table c_rowNames c_columnNames c_rows c_columns c_scale)) (hl' := (hG c_picks c_many c_table c_rowNames c_columnNames c_rows c_columns c_scale)) (h' := (hGS c_picks c_many c_table c_rowNames c_columnNames c_rows c_columns c_scale c_s_fields c_s_ties c_s_worth c_s_forces c_s_many c_s_codes c_s_b_list c_s_b_many c_s_p_list c_s_p_weights c_s_p_drawn c_s_p_many c_s_p_all c_s_p_turns)) (rest := []) (ci := 1) 19 rfl dX1_solve_16 rfl (C1_entering X.1.2.1 hv16) m1_entering v1_entering k1_43 rfl rfl rfl (e_GS_G_L0) rfl (Nat.le_of_ble_eq_true rfl) (Nat.le_of_ble_eq_true rfl) (Nat.le_of_ble_eq_true rfl) ⟨Nat.le_refl _, Nat.le_refl _⟩ ?_
      show xV (j1_solve) X 0 0 (hGS c_picks c_many c_table c_rowNames c_columnNames c_rows c_columns c_scale c_s_fields c_s_ties c_s_worth c_s_forces c_s_many c_s_codes c_s_b_list c_s_b_many c_s_p_list c_s_p_weights c_s_p_drawn c_s_p_many c_s_p_all c_s_p_turns) 19 [(0, .ref 0), (3, .int x3)] [.int v16]
      refine xV_istore (L' := [(4, .int v16), (0, .ref 0), (3, .int x3)]) 21 rfl dX1_solve_19 (xlt rfl) rfl ?_
      refine xV_iload 23 rfl dX1_solve_21 0 rfl ?_
      refine xV_iconst 24 rfl dX1_solve_23 xy_im1 ?_
      refine xV_icmp_ne (tgt := 31) 27 rfl dX1_solve_24 (by decide) (fun h24 => ?_) (fun h24 => ?_)
      · have hf := xif_f hf h24
        refine xV_aload_n 32 rfl dX1_solve_31 rfl 1 rfl ?_
        refine xV_iload 34 rfl dX1_solve_32 0 rfl ?_
        obtain ⟨v34, hv34, hf⟩ := xb_s hf
        refine xV_vir2 (g := (fun j => 0 + j)) (hl := (hG c_picks c_many c_table c_rowNames c_columnNames c_rows c_columns c_scale)) (hl' := (hG c_picks c_many c_table c_rowNames c_columnNames c_rows c_columns c_scale)) (h' := (hGS c_picks c_many c_table c_rowNames c_columnNames c_rows c_columns c_scale c_s_fields c_s_ties c_s_worth c_s_forces c_s_many c_s_codes c_s_b_list c_s_b_many c_s_p_list c_s_p_weights c_s_p_drawn c_s_p_many c_s_p_all c_s_p_turns)) (rest := []) (ci := 1) 37 rfl dX1_solve_34 rfl (C1_leaving X.1.2.1 hv34) m1_leaving v1_leaving k1_47 rfl rfl rfl (e_GS_G_L0) rfl (Nat.le_of_ble_eq_true rfl) (Nat.le_of_ble_eq_true rfl) (Nat.le_of_ble_eq_true rfl) ⟨Nat.le_refl _, Nat.le_refl _⟩ ?_
        show xV (j1_solve) X 0 0 (hGS c_picks c_many c_table c_rowNames c_columnNames c_rows c_columns c_scale c_s_fields c_s_ties c_s_worth c_s_forces c_s_many c_s_codes c_s_b_list c_s_b_many c_s_p_list c_s_p_weights c_s_p_drawn c_s_p_many c_s_p_all c_s_p_turns) 37 [(4, .int v16), (0, .ref 0), (3, .int x3)] [.int v34]
        refine xV_sub [1, 2, 0] rfl ?_
        exact T1_solve_b37 hX (fun {_ _ _ _ _ _ _} hq => ih hq) hf
      · have hf := xif_t hf h24
        refine xV_iconst 28 rfl dX1_solve_27 xy_im1 ?_
        refine xV_goto (tgt := 37) dX1_solve_28 (by decide) ?_
        refine xV_sub [1, 2, 0] rfl ?_
        exact T1_solve_b37 hX (fun {_ _ _ _ _ _ _} hq => ih hq) hf
def F1_solve (z : Nat) (x2 : Int32) (c_picks : (Nat → Nat → Int32)) (c_many : (Nat → Int32)) (c_table : (Nat → Nat → Int64)) (c_rowNames : (Nat → Int32)) (c_columnNames : (Nat → Int32)) (c_rows : Int32) (c_columns : Int32) (c_scale : Int64) (c_s_fields : Int32) (c_s_ties : Int32) (c_s_worth : (Nat → Int32)) (c_s_codes : (Nat → Nat → Int32)) : Option ((Nat → Nat → Int64) × (Nat → Int32) × (Nat → Int32) × Int32 × Int32 × Int64) :=
  (F1_fill z x2 c_picks c_many c_table c_rowNames c_columnNames c_rows c_columns c_scale c_s_fields c_s_ties c_s_worth c_s_codes).bind (fun v3 => F1_solve_b8 z z (0 : Int32) c_picks c_many v3.1 v3.2.1 v3.2.2.1 v3.2.2.2.1 v3.2.2.2.2.1 v3.2.2.2.2.2 c_s_fields c_s_ties c_s_worth c_s_codes)
theorem T1_solve {X : xX} {z : Nat} {x2 : Int32} {c_picks : (Nat → Nat → Int32)} {c_many : (Nat → Int32)} {c_table : (Nat → Nat → Int64)} {c_rowNames : (Nat → Int32)} {c_columnNames : (Nat → Int32)} {c_rows : Int32} {c_columns : Int32} {c_scale : Int64} {c_s_fields : Int32} {c_s_ties : Int32} {c_s_worth : (Nat → Int32)} {c_s_codes : (Nat → Nat → Int32)} {c_s_forces : (Nat → Int32)} {c_s_many : (Nat → Int32)} {c_s_b_list : (Nat → Nat → Int32)} {c_s_b_many : (Nat → Int32)} {c_s_p_list : (Nat → Nat → Int32)} {c_s_p_weights : (Nat → Nat → Int32)} {c_s_p_drawn : (Nat → Nat → Int32)} {c_s_p_many : (Nat → Int32)} {c_s_p_all : (Nat → Int32)} {c_s_p_turns : (Nat → Int32)} {v : (Nat → Nat → Int64) × (Nat → Int32) × (Nat → Int32) × Int32 × Int32 × Int64} (hX : xIs (j1_solve) X none none (hGS c_picks c_many v.1 v.2.1 v.2.2.1 v.2.2.2.1 v.2.2.2.2.1 v.2.2.2.2.2 c_s_fields c_s_ties c_s_worth c_s_forces c_s_many c_s_codes c_s_b_list c_s_b_many c_s_p_list c_s_p_weights c_s_p_drawn c_s_p_many c_s_p_all c_s_p_turns)) (hf : F1_solve z x2 c_picks c_many c_table c_rowNames c_columnNames c_rows c_columns c_scale c_s_fields c_s_ties c_s_worth c_s_codes = some v) : xV (j1_solve) X 0 0 (hGS c_picks c_many c_table c_rowNames c_columnNames c_rows c_columns c_scale c_s_fields c_s_ties c_s_worth c_s_forces c_s_many c_s_codes c_s_b_list c_s_b_many c_s_p_list c_s_p_weights c_s_p_drawn c_s_p_many c_s_p_all c_s_p_turns) 0 [(0, .ref 0), (1, .ref 15), (2, .int x2)] [] := by
  unfold F1_solve at hf
  refine xV_aload_n 1 rfl dX1_solve_0 rfl 0 rfl ?_
  refine xV_aload_n 2 rfl dX1_solve_1 rfl 1 rfl ?_
  refine xV_iload_n 3 rfl dX1_solve_2 rfl 2 rfl ?_
  obtain ⟨v3, hv3, hf⟩ := xb_s hf
  refine xV_same (rest := []) 6 rfl dX1_solve_3 rfl (C1_fill X.1.2.1 hv3) m1_fill v1_fill k1_39 rfl rfl rfl rfl rfl (Nat.le_of_ble_eq_true rfl) (Nat.le_of_ble_eq_true rfl) (Nat.le_of_ble_eq_true rfl) ⟨Nat.le_refl _, Nat.le_refl _⟩ ?_
  show xV (j1_solve) X 0 0 (hGS c_picks c_many v3.1 v3.2.1 v3.2.2.1 v3.2.2.2.1 v3.2.2.2.2.1 v3.2.2.2.2.2 c_s_fields c_s_ties c_s_worth c_s_forces c_s_many c_s_codes c_s_b_list c_s_b_many c_s_p_list c_s_p_weights c_s_p_drawn c_s_p_many c_s_p_all c_s_p_turns) 6 [(0, .ref 0), (1, .ref 15), (2, .int x2)] []
  refine xV_iconst 7 rfl dX1_solve_6 xy_i0 ?_
  refine xV_istore_n (L' := [(3, .int (0 : Int32)), (0, .ref 0), (1, .ref 15), (2, .int x2)]) 8 rfl dX1_solve_7 rfl (xlt rfl) rfl ?_
  refine xV_sub [1, 0] rfl ?_
  exact T1_solve_b8 hX _ hf
theorem C1_solve (l : Launch) {z : Nat} {x2 : Int32} {c_picks : (Nat → Nat → Int32)} {c_many : (Nat → Int32)} {c_table : (Nat → Nat → Int64)} {c_rowNames : (Nat → Int32)} {c_columnNames : (Nat → Int32)} {c_rows : Int32} {c_columns : Int32} {c_scale : Int64} {c_s_fields : Int32} {c_s_ties : Int32} {c_s_worth : (Nat → Int32)} {c_s_codes : (Nat → Nat → Int32)} {c_s_forces : (Nat → Int32)} {c_s_many : (Nat → Int32)} {c_s_b_list : (Nat → Nat → Int32)} {c_s_b_many : (Nat → Int32)} {c_s_p_list : (Nat → Nat → Int32)} {c_s_p_weights : (Nat → Nat → Int32)} {c_s_p_drawn : (Nat → Nat → Int32)} {c_s_p_many : (Nat → Int32)} {c_s_p_all : (Nat → Int32)} {c_s_p_turns : (Nat → Int32)} {v : (Nat → Nat → Int64) × (Nat → Int32) × (Nat → Int32) × Int32 × Int32 × Int64} (hf : F1_solve z x2 c_picks c_many c_table c_rowNames c_columnNames c_rows c_columns c_scale c_s_fields c_s_ties c_s_worth c_s_codes = some v) : xCt l yX1_solve none j1_solve [.ref 0, .ref 15, .int x2] (hGS c_picks c_many c_table c_rowNames c_columnNames c_rows c_columns c_scale c_s_fields c_s_ties c_s_worth c_s_forces c_s_many c_s_codes c_s_b_list c_s_b_many c_s_p_list c_s_p_weights c_s_p_drawn c_s_p_many c_s_p_all c_s_p_turns) none (hGS c_picks c_many v.1 v.2.1 v.2.2.1 v.2.2.2.1 v.2.2.2.2.1 v.2.2.2.2.2 c_s_fields c_s_ties c_s_worth c_s_forces c_s_many c_s_codes c_s_b_list c_s_b_many c_s_p_list c_s_p_weights c_s_p_drawn c_s_p_many c_s_p_all c_s_p_turns) := xCt_of (by decide) rfl (Nat.le_of_ble_eq_true rfl) (fun _ hX => T1_solve hX hf)
theorem m1_solve : xMd yX1_solve RX1 none j1_solve 2 := ⟨List.mem_of_getElem? (i := 870) (by decide +kernel), List.mem_of_getElem? (i := 37) (by decide +kernel), rfl, by decide +kernel⟩
theorem v1_solve : xMv yX1_solve RX1 := ⟨List.mem_of_getElem? (i := 868) (by decide +kernel), List.mem_of_getElem? (i := 869) (by decide +kernel)⟩
theorem q1_55 : Jvm.Cond.constantLong RX1 55 (9) ∈ wsL_law0 := List.mem_of_getElem? (i := 908) (by decide +kernel)
theorem dX1_valueAbove_0 : decode cX1_valueAbove 0 = .ok (.ldc2_w 55, 3) := by decide +kernel
theorem dX1_valueAbove_3 : decode cX1_valueAbove 3 = .ok (.aload_n 0, 1) := by decide +kernel
theorem dX1_valueAbove_4 : decode cX1_valueAbove 4 = .ok (.getfield 22, 3) := by decide +kernel
theorem dX1_valueAbove_7 : decode cX1_valueAbove 7 = .ok (.aload_n 0, 1) := by decide +kernel
theorem dX1_valueAbove_8 : decode cX1_valueAbove 8 = .ok (.getfield 57, 3) := by decide +kernel
theorem dX1_valueAbove_11 : decode cX1_valueAbove 11 = .ok (.aaload, 1) := by decide +kernel
theorem dX1_valueAbove_12 : decode cX1_valueAbove 12 = .ok (.aload_n 0, 1) := by decide +kernel
theorem dX1_valueAbove_13 : decode cX1_valueAbove 13 = .ok (.getfield 60, 3) := by decide +kernel
theorem dX1_valueAbove_16 : decode cX1_valueAbove 16 = .ok (.laload, 1) := by decide +kernel
theorem dX1_valueAbove_17 : decode cX1_valueAbove 17 = .ok (.lmul, 1) := by decide +kernel
theorem dX1_valueAbove_18 : decode cX1_valueAbove 18 = .ok (.aload_n 0, 1) := by decide +kernel
theorem dX1_valueAbove_19 : decode cX1_valueAbove 19 = .ok (.getfield 63, 3) := by decide +kernel
theorem dX1_valueAbove_22 : decode cX1_valueAbove 22 = .ok (.lsub, 1) := by decide +kernel
theorem dX1_valueAbove_23 : decode cX1_valueAbove 23 = .ok (.lreturn, 1) := by decide +kernel
abbrev j1_valueAbove : xJ := (cX1_valueAbove, 1, RX1, 1, 0, 0)
def F1_valueAbove (c_table : (Nat → Nat → Int64)) (c_rows : Int32) (c_columns : Int32) (c_scale : Int64) : Option (Int64) :=
  xg (xin c_rows 7) (xg (xin c_columns 7) (some ((((9 : Int64) * ((c_table (xn c_rows)) (xn c_columns))) - c_scale))))
theorem T1_valueAbove {X : xX} {c_table : (Nat → Nat → Int64)} {c_rows : Int32} {c_columns : Int32} {c_scale : Int64} {c_picks : (Nat → Nat → Int32)} {c_many : (Nat → Int32)} {c_rowNames : (Nat → Int32)} {c_columnNames : (Nat → Int32)} {v : Int64} (hX : xIs (j1_valueAbove) X ((some .long)) (some (.long v)) (hG c_picks c_many c_table c_rowNames c_columnNames c_rows c_columns c_scale)) (hf : F1_valueAbove c_table c_rows c_columns c_scale = some v) : xV (j1_valueAbove) X 0 0 (hG c_picks c_many c_table c_rowNames c_columnNames c_rows c_columns c_scale) 0 [(0, .ref 0)] [] := by
  unfold F1_valueAbove at hf
  refine xV_ldc2 3 rfl dX1_valueAbove_0 q1_55 ?_
  refine xV_aload_n 4 rfl dX1_valueAbove_3 rfl 0 rfl ?_
  refine xV_get (v := .ref 5) 7 rfl dX1_valueAbove_4 f1_22 rfl rfl ?_
  refine xV_aload_n 8 rfl dX1_valueAbove_7 rfl 0 rfl ?_
  refine xV_get (v := .int c_rows) 11 rfl dX1_valueAbove_8 f1_57 rfl rfl ?_
  obtain ⟨hg11, hf⟩ := xg_s hf
  refine xV_aaload (b := (6 + (xn c_rows))) 12 rfl dX1_valueAbove_11 rfl rfl rfl (xin_ok hg11) (by show ([6, 7, 8, 9, 10, 11, 12] : List Nat)[(xn c_rows)]? = some (6 + (xn c_rows)); have hi := xin_lt hg11; generalize (xn c_rows) = i at hi ⊢; match i, hi with | 0, _ => rfl | 1, _ => rfl | 2, _ => rfl | 3, _ => rfl | 4, _ => rfl | 5, _ => rfl | 6, _ => rfl) ?_
  refine xV_aload_n 13 rfl dX1_valueAbove_12 rfl 0 rfl ?_
  refine xV_get (v := .int c_columns) 16 rfl dX1_valueAbove_13 f1_60 rfl rfl ?_
  obtain ⟨hg16, hf⟩ := xg_s hf
  refine xV_laload (f := (c_table (xn c_rows))) (z := 7) 17 rfl dX1_valueAbove_16 (by have hi := (xin_lt hg11); generalize (xn c_rows) = i at hi ⊢; match i, hi with | 0, _ => exact rfl | 1, _ => exact rfl | 2, _ => exact rfl | 3, _ => exact rfl | 4, _ => exact rfl | 5, _ => exact rfl | 6, _ => exact rfl) (xin_ok hg16) rfl ?_
  refine xV_lmul 18 rfl dX1_valueAbove_17 ?_
  refine xV_aload_n 19 rfl dX1_valueAbove_18 rfl 0 rfl ?_
  refine xV_get (v := .long c_scale) 22 rfl dX1_valueAbove_19 f1_63 rfl rfl ?_
  refine xV_lsub 23 rfl dX1_valueAbove_22 ?_
  obtain rfl := Option.some.inj hf
  exact xV_lret hX dX1_valueAbove_23 (Nat.zero_le _) (Nat.zero_le _)
theorem C1_valueAbove (l : Launch) {c_table : (Nat → Nat → Int64)} {c_rows : Int32} {c_columns : Int32} {c_scale : Int64} {c_picks : (Nat → Nat → Int32)} {c_many : (Nat → Int32)} {c_rowNames : (Nat → Int32)} {c_columnNames : (Nat → Int32)} {v : Int64} (hf : F1_valueAbove c_table c_rows c_columns c_scale = some v) : xCt l yX1_valueAbove ((some .long)) j1_valueAbove [.ref 0] (hG c_picks c_many c_table c_rowNames c_columnNames c_rows c_columns c_scale) (some (.long v)) (hG c_picks c_many c_table c_rowNames c_columnNames c_rows c_columns c_scale) := xCt_of (by decide) rfl (Nat.le_of_ble_eq_true rfl) (fun _ hX => T1_valueAbove hX hf)
theorem m1_valueAbove : xMd yX1_valueAbove RX1 ((some .long)) j1_valueAbove 0 := ⟨List.mem_of_getElem? (i := 907) (by decide +kernel), List.mem_of_getElem? (i := 37) (by decide +kernel), rfl, by decide +kernel⟩
theorem v1_valueAbove : xMv yX1_valueAbove RX1 := ⟨List.mem_of_getElem? (i := 905) (by decide +kernel), List.mem_of_getElem? (i := 906) (by decide +kernel)⟩
theorem dX1_shareBelow_0 : decode cX1_shareBelow 0 = .ok (.aload_n 0, 1) := by decide +kernel
theorem dX1_shareBelow_1 : decode cX1_shareBelow 1 = .ok (.getfield 22, 3) := by decide +kernel
theorem dX1_shareBelow_4 : decode cX1_shareBelow 4 = .ok (.aload_n 0, 1) := by decide +kernel
theorem dX1_shareBelow_5 : decode cX1_shareBelow 5 = .ok (.getfield 57, 3) := by decide +kernel
theorem dX1_shareBelow_8 : decode cX1_shareBelow 8 = .ok (.aaload, 1) := by decide +kernel
theorem dX1_shareBelow_9 : decode cX1_shareBelow 9 = .ok (.aload_n 0, 1) := by decide +kernel
theorem dX1_shareBelow_10 : decode cX1_shareBelow 10 = .ok (.getfield 60, 3) := by decide +kernel
theorem dX1_shareBelow_13 : decode cX1_shareBelow 13 = .ok (.laload, 1) := by decide +kernel
theorem dX1_shareBelow_14 : decode cX1_shareBelow 14 = .ok (.lreturn, 1) := by decide +kernel
abbrev j1_shareBelow : xJ := (cX1_shareBelow, 1, RX1, 1, 0, 0)
def F1_shareBelow (c_table : (Nat → Nat → Int64)) (c_rows : Int32) (c_columns : Int32) : Option (Int64) :=
  xg (xin c_rows 7) (xg (xin c_columns 7) (some (((c_table (xn c_rows)) (xn c_columns)))))
theorem T1_shareBelow {X : xX} {c_table : (Nat → Nat → Int64)} {c_rows : Int32} {c_columns : Int32} {c_picks : (Nat → Nat → Int32)} {c_many : (Nat → Int32)} {c_rowNames : (Nat → Int32)} {c_columnNames : (Nat → Int32)} {c_scale : Int64} {v : Int64} (hX : xIs (j1_shareBelow) X ((some .long)) (some (.long v)) (hG c_picks c_many c_table c_rowNames c_columnNames c_rows c_columns c_scale)) (hf : F1_shareBelow c_table c_rows c_columns = some v) : xV (j1_shareBelow) X 0 0 (hG c_picks c_many c_table c_rowNames c_columnNames c_rows c_columns c_scale) 0 [(0, .ref 0)] [] := by
  unfold F1_shareBelow at hf
  refine xV_aload_n 1 rfl dX1_shareBelow_0 rfl 0 rfl ?_
  refine xV_get (v := .ref 5) 4 rfl dX1_shareBelow_1 f1_22 rfl rfl ?_
  refine xV_aload_n 5 rfl dX1_shareBelow_4 rfl 0 rfl ?_
  refine xV_get (v := .int c_rows) 8 rfl dX1_shareBelow_5 f1_57 rfl rfl ?_
  obtain ⟨hg8, hf⟩ := xg_s hf
  refine xV_aaload (b := (6 + (xn c_rows))) 9 rfl dX1_shareBelow_8 rfl rfl rfl (xin_ok hg8) (by show ([6, 7, 8, 9, 10, 11, 12] : List Nat)[(xn c_rows)]? = some (6 + (xn c_rows)); have hi := xin_lt hg8; generalize (xn c_rows) = i at hi ⊢; match i, hi with | 0, _ => rfl | 1, _ => rfl | 2, _ => rfl | 3, _ => rfl | 4, _ => rfl | 5, _ => rfl | 6, _ => rfl) ?_
  refine xV_aload_n 10 rfl dX1_shareBelow_9 rfl 0 rfl ?_
  refine xV_get (v := .int c_columns) 13 rfl dX1_shareBelow_10 f1_60 rfl rfl ?_
  obtain ⟨hg13, hf⟩ := xg_s hf
  refine xV_laload (f := (c_table (xn c_rows))) (z := 7) 14 rfl dX1_shareBelow_13 (by have hi := (xin_lt hg8); generalize (xn c_rows) = i at hi ⊢; match i, hi with | 0, _ => exact rfl | 1, _ => exact rfl | 2, _ => exact rfl | 3, _ => exact rfl | 4, _ => exact rfl | 5, _ => exact rfl | 6, _ => exact rfl) (xin_ok hg13) rfl ?_
  obtain rfl := Option.some.inj hf
  exact xV_lret hX dX1_shareBelow_14 (Nat.zero_le _) (Nat.zero_le _)
theorem C1_shareBelow (l : Launch) {c_table : (Nat → Nat → Int64)} {c_rows : Int32} {c_columns : Int32} {c_picks : (Nat → Nat → Int32)} {c_many : (Nat → Int32)} {c_rowNames : (Nat → Int32)} {c_columnNames : (Nat → Int32)} {c_scale : Int64} {v : Int64} (hf : F1_shareBelow c_table c_rows c_columns = some v) : xCt l yX1_shareBelow ((some .long)) j1_shareBelow [.ref 0] (hG c_picks c_many c_table c_rowNames c_columnNames c_rows c_columns c_scale) (some (.long v)) (hG c_picks c_many c_table c_rowNames c_columnNames c_rows c_columns c_scale) := xCt_of (by decide) rfl (Nat.le_of_ble_eq_true rfl) (fun _ hX => T1_shareBelow hX hf)
theorem m1_shareBelow : xMd yX1_shareBelow RX1 ((some .long)) j1_shareBelow 0 := ⟨List.mem_of_getElem? (i := 912) (by decide +kernel), List.mem_of_getElem? (i := 37) (by decide +kernel), rfl, by decide +kernel⟩
theorem v1_shareBelow : xMv yX1_shareBelow RX1 := ⟨List.mem_of_getElem? (i := 910) (by decide +kernel), List.mem_of_getElem? (i := 911) (by decide +kernel)⟩
theorem dX1_shareAbove_0 : decode cX1_shareAbove 0 = .ok (.aload_n 0, 1) := by decide +kernel
theorem dX1_shareAbove_1 : decode cX1_shareAbove 1 = .ok (.iload_n 1, 1) := by decide +kernel
theorem dX1_shareAbove_2 : decode cX1_shareAbove 2 = .ok (.invokevirtual 67, 3) := by decide +kernel
theorem dX1_shareAbove_5 : decode cX1_shareAbove 5 = .ok (.istore_n 2, 1) := by decide +kernel
theorem dX1_shareAbove_6 : decode cX1_shareAbove 6 = .ok (.iload_n 2, 1) := by decide +kernel
theorem dX1_shareAbove_7 : decode cX1_shareAbove 7 = .ok (.iconst (-1), 1) := by decide +kernel
theorem dX1_shareAbove_8 : decode cX1_shareAbove 8 = .ok (.if_icmp .ne 7, 3) := by decide +kernel
theorem dX1_shareAbove_11 : decode cX1_shareAbove 11 = .ok (.lconst 0, 1) := by decide +kernel
theorem dX1_shareAbove_12 : decode cX1_shareAbove 12 = .ok (.goto 14, 3) := by decide +kernel
theorem dX1_shareAbove_15 : decode cX1_shareAbove 15 = .ok (.aload_n 0, 1) := by decide +kernel
theorem dX1_shareAbove_16 : decode cX1_shareAbove 16 = .ok (.getfield 22, 3) := by decide +kernel
theorem dX1_shareAbove_19 : decode cX1_shareAbove 19 = .ok (.iload_n 2, 1) := by decide +kernel
theorem dX1_shareAbove_20 : decode cX1_shareAbove 20 = .ok (.aaload, 1) := by decide +kernel
theorem dX1_shareAbove_21 : decode cX1_shareAbove 21 = .ok (.aload_n 0, 1) := by decide +kernel
theorem dX1_shareAbove_22 : decode cX1_shareAbove 22 = .ok (.getfield 60, 3) := by decide +kernel
theorem dX1_shareAbove_25 : decode cX1_shareAbove 25 = .ok (.laload, 1) := by decide +kernel
theorem dX1_shareAbove_26 : decode cX1_shareAbove 26 = .ok (.lreturn, 1) := by decide +kernel
abbrev j1_shareAbove : xJ := (cX1_shareAbove, 3, RX1, 2, 0, 0)
def F1_shareAbove (z : Nat) (x1 : Int32) (c_table : (Nat → Nat → Int64)) (c_rowNames : (Nat → Int32)) (c_rows : Int32) (c_columns : Int32) : Option (Int64) :=
  (F1_rowOf z x1 c_rowNames c_rows).bind (fun v2 => if v2 = (-1 : Int32) then (some ((0 : Int64))) else (xg (xin v2 7) (xg (xin c_columns 7) (some (((c_table (xn v2)) (xn c_columns)))))))
theorem T1_shareAbove {X : xX} {z : Nat} {x1 : Int32} {c_table : (Nat → Nat → Int64)} {c_rowNames : (Nat → Int32)} {c_rows : Int32} {c_columns : Int32} {c_picks : (Nat → Nat → Int32)} {c_many : (Nat → Int32)} {c_columnNames : (Nat → Int32)} {c_scale : Int64} {v : Int64} (hX : xIs (j1_shareAbove) X ((some .long)) (some (.long v)) (hG c_picks c_many c_table c_rowNames c_columnNames c_rows c_columns c_scale)) (hf : F1_shareAbove z x1 c_table c_rowNames c_rows c_columns = some v) : xV (j1_shareAbove) X 0 0 (hG c_picks c_many c_table c_rowNames c_columnNames c_rows c_columns c_scale) 0 [(0, .ref 0), (1, .int x1)] [] := by
  unfold F1_shareAbove at hf
  refine xV_aload_n 1 rfl dX1_shareAbove_0 rfl 0 rfl ?_
  refine xV_iload_n 2 rfl dX1_shareAbove_1 rfl 1 rfl ?_
  obtain ⟨v2, hv2, hf⟩ := xb_s hf
  refine xV_same (rest := []) 5 rfl dX1_shareAbove_2 rfl (C1_rowOf X.1.2.1 hv2) m1_rowOf v1_rowOf k1_67 rfl rfl rfl rfl rfl (Nat.le_of_ble_eq_true rfl) (Nat.le_of_ble_eq_true rfl) (Nat.le_of_ble_eq_true rfl) ⟨Nat.le_refl _, Nat.le_refl _⟩ ?_
  show xV (j1_shareAbove) X 0 0 (hG c_picks c_many c_table c_rowNames c_columnNames c_rows c_columns c_scale) 5 [(0, .ref 0), (1, .int x1)] [.int v2]
  refine xV_istore_n (L' := [(2, .int v2), (0, .ref 0), (1, .int x1)]) 6 rfl dX1_shareAbove_5 rfl (xlt rfl) rfl ?_
  refine xV_iload_n 7 rfl dX1_shareAbove_6 rfl 0 rfl ?_
  refine xV_iconst 8 rfl dX1_shareAbove_7 xy_im1 ?_
  refine xV_icmp_ne (tgt := 15) 11 rfl dX1_shareAbove_8 (by decide) (fun h8 => ?_) (fun h8 => ?_)
  · have hf := xif_f hf h8
    refine xV_aload_n 16 rfl dX1_shareAbove_15 rfl 1 rfl ?_
    refine xV_get (v := .ref 5) 19 rfl dX1_shareAbove_16 f1_22 rfl rfl ?_
    refine xV_iload_n 20 rfl dX1_shareAbove_19 rfl 0 rfl ?_
    obtain ⟨hg20, hf⟩ := xg_s hf
    refine xV_aaload (b := (6 + (xn v2))) 21 rfl dX1_shareAbove_20 rfl rfl rfl (xin_ok hg20) (by show ([6, 7, 8, 9, 10, 11, 12] : List Nat)[(xn v2)]? = some (6 + (xn v2)); have hi := xin_lt hg20; generalize (xn v2) = i at hi ⊢; match i, hi with | 0, _ => rfl | 1, _ => rfl | 2, _ => rfl | 3, _ => rfl | 4, _ => rfl | 5, _ => rfl | 6, _ => rfl) ?_
    refine xV_aload_n 22 rfl dX1_shareAbove_21 rfl 1 rfl ?_
    refine xV_get (v := .int c_columns) 25 rfl dX1_shareAbove_22 f1_60 rfl rfl ?_
    obtain ⟨hg25, hf⟩ := xg_s hf
    refine xV_laload (f := (c_table (xn v2))) (z := 7) 26 rfl dX1_shareAbove_25 (by have hi := (xin_lt hg20); generalize (xn v2) = i at hi ⊢; match i, hi with | 0, _ => exact rfl | 1, _ => exact rfl | 2, _ => exact rfl | 3, _ => exact rfl | 4, _ => exact rfl | 5, _ => exact rfl | 6, _ => exact rfl) (xin_ok hg25) rfl ?_
    obtain rfl := Option.some.inj hf
    exact xV_lret hX dX1_shareAbove_26 (Nat.zero_le _) (Nat.zero_le _)
  · have hf := xif_t hf h8
    refine xV_lconst (v := 0) 12 rfl dX1_shareAbove_11 (by decide) ?_
    refine xV_goto (tgt := 26) dX1_shareAbove_12 (by decide) ?_
    obtain rfl := Option.some.inj hf
    exact xV_lret hX dX1_shareAbove_26 (Nat.zero_le _) (Nat.zero_le _)
theorem C1_shareAbove (l : Launch) {z : Nat} {x1 : Int32} {c_table : (Nat → Nat → Int64)} {c_rowNames : (Nat → Int32)} {c_rows : Int32} {c_columns : Int32} {c_picks : (Nat → Nat → Int32)} {c_many : (Nat → Int32)} {c_columnNames : (Nat → Int32)} {c_scale : Int64} {v : Int64} (hf : F1_shareAbove z x1 c_table c_rowNames c_rows c_columns = some v) : xCt l yX1_shareAbove ((some .long)) j1_shareAbove [.ref 0, .int x1] (hG c_picks c_many c_table c_rowNames c_columnNames c_rows c_columns c_scale) (some (.long v)) (hG c_picks c_many c_table c_rowNames c_columnNames c_rows c_columns c_scale) := xCt_of (by decide) rfl (Nat.le_of_ble_eq_true rfl) (fun _ hX => T1_shareAbove hX hf)
theorem m1_shareAbove : xMd yX1_shareAbove RX1 ((some .long)) j1_shareAbove 1 := ⟨List.mem_of_getElem? (i := 987) (by decide +kernel), List.mem_of_getElem? (i := 37) (by decide +kernel), rfl, by decide +kernel⟩
theorem v1_shareAbove : xMv yX1_shareAbove RX1 := ⟨List.mem_of_getElem? (i := 985) (by decide +kernel), List.mem_of_getElem? (i := 986) (by decide +kernel)⟩
