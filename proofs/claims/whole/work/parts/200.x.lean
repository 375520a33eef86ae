def hB (c_list : (Nat → Int32)) (c_many : Int32) : xHp := [.inr (0, [.ref 1, .int c_many]), .inl (0, 6, .inl c_list)]
def hP (c_list : (Nat → Int32)) (c_weights : (Nat → Int32)) (c_drawn : (Nat → Int32)) (c_many : Int32) (c_all : Int32) (c_turns : Int32) : xHp := [.inr (3, [.ref 1, .ref 2, .ref 3, .int c_many, .int c_all, .int c_turns]), .inl (0, 8, .inl c_list), .inl (0, 8, .inl c_weights), .inl (0, 8, .inl c_drawn)]
def hNt (c_seen : (Nat → Int32)) (c_many : Int32) : xHp := [.inr (2, [.ref 1, .int c_many]), .inl (0, 120, .inl c_seen)]
def hT (c_bytes : (Nat → Int32)) (c_many : Int32) (c_kind : Int32) (c_from : Int32) (c_behind : Int32) (c_end : Int32) : xHp := [.inr (7, [.ref 1, .int c_many, .int c_kind, .int c_from, .int c_behind, .int c_end]), .inl (0, 300, .inl c_bytes)]
def hS (c_fields : Int32) (c_ties : Int32) (c_worth : (Nat → Int32)) (c_forces : (Nat → Int32)) (c_many : (Nat → Int32)) (c_codes : (Nat → Nat → Int32)) (c_b_list : (Nat → Nat → Int32)) (c_b_many : (Nat → Int32)) (c_p_list : (Nat → Nat → Int32)) (c_p_weights : (Nat → Nat → Int32)) (c_p_drawn : (Nat → Nat → Int32)) (c_p_many : (Nat → Int32)) (c_p_all : (Nat → Int32)) (c_p_turns : (Nat → Int32)) : xHp := [.inr (4, [.int c_fields, .int c_ties, .ref 1, .ref 2, .ref 3, .ref 4, .ref 7, .ref 12]), .inl (0, 4, .inl c_worth), .inl (0, 2, .inl c_forces), .inl (0, 2, .inl c_many), .inl (7, 2, .inr (.inr [5, 6])), .inl (0, 120, .inl (c_codes 0)), .inl (0, 120, .inl (c_codes 1)), .inl (4, 2, .inr (.inr [8, 10])), .inr (0, [.ref 9, .int (c_b_many 0)]), .inl (0, 6, .inl (c_b_list 0)), .inr (0, [.ref 11, .int (c_b_many 1)]), .inl (0, 6, .inl (c_b_list 1)), .inl (5, 2, .inr (.inr [13, 17])), .inr (3, [.ref 14, .ref 15, .ref 16, .int (c_p_many 0), .int (c_p_all 0), .int (c_p_turns 0)]), .inl (0, 8, .inl (c_p_list 0)), .inl (0, 8, .inl (c_p_weights 0)), .inl (0, 8, .inl (c_p_drawn 0)), .inr (3, [.ref 18, .ref 19, .ref 20, .int (c_p_many 1), .int (c_p_all 1), .int (c_p_turns 1)]), .inl (0, 8, .inl (c_p_list 1)), .inl (0, 8, .inl (c_p_weights 1)), .inl (0, 8, .inl (c_p_drawn 1))]
def hV (c_kept : (Nat → Nat → Int32)) (c_many : (Nat → Int32)) (c_turns : Int32) (c_stale : Int32) (c_goes : (Nat → Nat → Int32)) (c_row : (Nat → Int32)) : xHp := [.inr (5, [.ref 1, .ref 4, .int c_turns, .int c_stale, .ref 5, .ref 8]), .inl (7, 2, .inr (.inr [2, 3])), .inl (0, 120, .inl (c_kept 0)), .inl (0, 120, .inl (c_kept 1)), .inl (0, 2, .inl c_many), .inl (7, 2, .inr (.inr [6, 7])), .inl (0, 120, .inl (c_goes 0)), .inl (0, 120, .inl (c_goes 1)), .inl (0, 120, .inl c_row)]
def hSp (c_all : Int32) (c_mass : (Nat → Nat → Int32)) : xHp := [.inr (6, [.ref 1, .int c_all]), .inl (7, 4, .inr (.inr [2, 3, 4, 5])), .inl (0, 8, .inl (c_mass 0)), .inl (0, 8, .inl (c_mass 1)), .inl (0, 8, .inl (c_mass 2)), .inl (0, 8, .inl (c_mass 3))]
def hG (c_picks : (Nat → Nat → Int32)) (c_many : (Nat → Int32)) (c_table : (Nat → Nat → Int64)) (c_rowNames : (Nat → Int32)) (c_columnNames : (Nat → Int32)) (c_rows : Int32) (c_columns : Int32) (c_scale : Int64) : xHp := [.inr (1, [.ref 1, .ref 4, .ref 5, .ref 13, .ref 14, .int c_rows, .int c_columns, .long c_scale]), .inl (7, 2, .inr (.inr [2, 3])), .inl (0, 6, .inl (c_picks 0)), .inl (0, 6, .inl (c_picks 1)), .inl (0, 2, .inl c_many), .inl (8, 7, .inr (.inr [6, 7, 8, 9, 10, 11, 12])), .inl (1, 7, .inr (.inl (c_table 0))), .inl (1, 7, .inr (.inl (c_table 1))), .inl (1, 7, .inr (.inl (c_table 2))), .inl (1, 7, .inr (.inl (c_table 3))), .inl (1, 7, .inr (.inl (c_table 4))), .inl (1, 7, .inr (.inl (c_table 5))), .inl (1, 7, .inr (.inl (c_table 6))), .inl (0, 6, .inl c_rowNames), .inl (0, 6, .inl c_columnNames)]
def hVS (c_kept : (Nat → Nat → Int32)) (c_many : (Nat → Int32)) (c_turns : Int32) (c_stale : Int32) (c_goes : (Nat → Nat → Int32)) (c_row : (Nat → Int32)) (c_s_fields : Int32) (c_s_ties : Int32) (c_s_worth : (Nat → Int32)) (c_s_forces : (Nat → Int32)) (c_s_many : (Nat → Int32)) (c_s_codes : (Nat → Nat → Int32)) (c_s_b_list : (Nat → Nat → Int32)) (c_s_b_many : (Nat → Int32)) (c_s_p_list : (Nat → Nat → Int32)) (c_s_p_weights : (Nat → Nat → Int32)) (c_s_p_drawn : (Nat → Nat → Int32)) (c_s_p_many : (Nat → Int32)) (c_s_p_all : (Nat → Int32)) (c_s_p_turns : (Nat → Int32)) : xHp := [.inr (5, [.ref 1, .ref 4, .int c_turns, .int c_stale, .ref 5, .ref 8]), .inl (7, 2, .inr (.inr [2, 3])), .inl (0, 120, .inl (c_kept 0)), .inl (0, 120, .inl (c_kept 1)), .inl (0, 2, .inl c_many), .inl (7, 2, .inr (.inr [6, 7])), .inl (0, 120, .inl (c_goes 0)), .inl (0, 120, .inl (c_goes 1)), .inl (0, 120, .inl c_row), .inr (4, [.int c_s_fields, .int c_s_ties, .ref 10, .ref 11, .ref 12, .ref 13, .ref 16, .ref 21]), .inl (0, 4, .inl c_s_worth), .inl (0, 2, .inl c_s_forces), .inl (0, 2, .inl c_s_many), .inl (7, 2, .inr (.inr [14, 15])), .inl (0, 120, .inl (c_s_codes 0)), .inl (0, 120, .inl (c_s_codes 1)), .inl (4, 2, .inr (.inr [17, 19])), .inr (0, [.ref 18, .int (c_s_b_many 0)]), .inl (0, 6, .inl (c_s_b_list 0)), .inr (0, [.ref 20, .int (c_s_b_many 1)]), .inl (0, 6, .inl (c_s_b_list 1)), .inl (5, 2, .inr (.inr [22, 26])), .inr (3, [.ref 23, .ref 24, .ref 25, .int (c_s_p_many 0), .int (c_s_p_all 0), .int (c_s_p_turns 0)]), .inl (0, 8, .inl (c_s_p_list 0)), .inl (0, 8, .inl (c_s_p_weights 0)), .inl (0, 8, .inl (c_s_p_drawn 0)), .inr (3, [.ref 27, .ref 28, .ref 29, .int (c_s_p_many 1), .int (c_s_p_all 1), .int (c_s_p_turns 1)]), .inl (0, 8, .inl (c_s_p_list 1)), .inl (0, 8, .inl (c_s_p_weights 1)), .inl (0, 8, .inl (c_s_p_drawn 1))]
def hWS (c_all : Int32) (c_mass : (Nat → Nat → Int32)) (c_s_fields : Int32) (c_s_ties : Int32) (c_s_worth : (Nat → Int32)) (c_s_forces : (Nat → Int32)) (c_s_many : (Nat → Int32)) (c_s_codes : (Nat → Nat → Int32)) (c_s_b_list : (Nat → Nat → Int32)) (c_s_b_many : (Nat → Int32)) (c_s_p_list : (Nat → Nat → Int32)) (c_s_p_weights : (Nat → Nat → Int32)) (c_s_p_drawn : (Nat → Nat → Int32)) (c_s_p_many : (Nat → Int32)) (c_s_p_all : (Nat → Int32)) (c_s_p_turns : (Nat → Int32)) : xHp := [.inr (6, [.ref 1, .int c_all]), .inl (7, 4, .inr (.inr [2, 3, 4, 5])), .inl (0, 8, .inl (c_mass 0)), .inl (0, 8, .inl (c_mass 1)), .inl (0, 8, .inl (c_mass 2)), .inl (0, 8, .inl (c_mass 3)), .inr (4, [.int c_s_fields, .int c_s_ties, .ref 7, .ref 8, .ref 9, .ref 10, .ref 13, .ref 18]), .inl (0, 4, .inl c_s_worth), .inl (0, 2, .inl c_s_forces), .inl (0, 2, .inl c_s_many), .inl (7, 2, .inr (.inr [11, 12])), .inl (0, 120, .inl (c_s_codes 0)), .inl (0, 120, .inl (c_s_codes 1)), .inl (4, 2, .inr (.inr [14, 16])), .inr (0, [.ref 15, .int (c_s_b_many 0)]), .inl (0, 6, .inl (c_s_b_list 0)), .inr (0, [.ref 17, .int (c_s_b_many 1)]), .inl (0, 6, .inl (c_s_b_list 1)), .inl (5, 2, .inr (.inr [19, 23])), .inr (3, [.ref 20, .ref 21, .ref 22, .int (c_s_p_many 0), .int (c_s_p_all 0), .int (c_s_p_turns 0)]), .inl (0, 8, .inl (c_s_p_list 0)), .inl (0, 8, .inl (c_s_p_weights 0)), .inl (0, 8, .inl (c_s_p_drawn 0)), .inr (3, [.ref 24, .ref 25, .ref 26, .int (c_s_p_many 1), .int (c_s_p_all 1), .int (c_s_p_turns 1)]), .inl (0, 8, .inl (c_s_p_list 1)), .inl (0, 8, .inl (c_s_p_weights 1)), .inl (0, 8, .inl (c_s_p_drawn 1))]
def hGS (c_picks : (Nat → Nat → Int32)) (c_many : (Nat → Int32)) (c_table : (Nat → Nat → Int64)) (c_rowNames : (Nat → Int32)) (c_columnNames : (Nat → Int32)) (c_rows : Int32) (c_columns : Int32) (c_scale : Int64) (c_s_fields : Int32) (c_s_ties : Int32) (c_s_worth : (Nat → Int32)) (c_s_forces : (Nat → Int32)) (c_s_many : (Nat → Int32)) (c_s_codes : (Nat → Nat → Int32)) (c_s_b_list : (Nat → Nat → Int32)) (c_s_b_many : (Nat → Int32)) (c_s_p_list : (Nat → Nat → Int32)) (c_s_p_weights : (Nat → Nat → Int32)) (c_s_p_drawn : (Nat → Nat → Int32)) (c_s_p_many : (Nat → Int32)) (c_s_p_all : (Nat → Int32)) (c_s_p_turns : (Nat → Int32)) : xHp := [.inr (1, [.ref 1, .ref 4, .ref 5, .ref 13, .ref 14, .int c_rows, .int c_columns, .long c_scale]), .inl (7, 2, .inr (.inr [2, 3])), .inl (0, 6, .inl (c_picks 0)), .inl (0, 6, .inl (c_picks 1)), .inl (0, 2, .inl c_many), .inl (8, 7, .inr (.inr [6, 7, 8, 9, 10, 11, 12])), .inl (1, 7, .inr (.inl (c_table 0))), .inl (1, 7, .inr (.inl (c_table 1))), .inl (1, 7, .inr (.inl (c_table 2))), .inl (1, 7, .inr (.inl (c_table 3))), .inl (1, 7, .inr (.inl (c_table 4))), .inl (1, 7, .inr (.inl (c_table 5))), .inl (1, 7, .inr (.inl (c_table 6))), .inl (0, 6, .inl c_rowNames), .inl (0, 6, .inl c_columnNames), .inr (4, [.int c_s_fields, .int c_s_ties, .ref 16, .ref 17, .ref 18, .ref 19, .ref 22, .ref 27]), .inl (0, 4, .inl c_s_worth), .inl (0, 2, .inl c_s_forces), .inl (0, 2, .inl c_s_many), .inl (7, 2, .inr (.inr [20, 21])), .inl (0, 120, .inl (c_s_codes 0)), .inl (0, 120, .inl (c_s_codes 1)), .inl (4, 2, .inr (.inr [23, 25])), .inr (0, [.ref 24, .int (c_s_b_many 0)]), .inl (0, 6, .inl (c_s_b_list 0)), .inr (0, [.ref 26, .int (c_s_b_many 1)]), .inl (0, 6, .inl (c_s_b_list 1)), .inl (5, 2, .inr (.inr [28, 32])), .inr (3, [.ref 29, .ref 30, .ref 31, .int (c_s_p_many 0), .int (c_s_p_all 0), .int (c_s_p_turns 0)]), .inl (0, 8, .inl (c_s_p_list 0)), .inl (0, 8, .inl (c_s_p_weights 0)), .inl (0, 8, .inl (c_s_p_drawn 0)), .inr (3, [.ref 33, .ref 34, .ref 35, .int (c_s_p_many 1), .int (c_s_p_all 1), .int (c_s_p_turns 1)]), .inl (0, 8, .inl (c_s_p_list 1)), .inl (0, 8, .inl (c_s_p_weights 1)), .inl (0, 8, .inl (c_s_p_drawn 1))]
def hGB (c_picks : (Nat → Nat → Int32)) (c_many : (Nat → Int32)) (c_table : (Nat → Nat → Int64)) (c_rowNames : (Nat → Int32)) (c_columnNames : (Nat → Int32)) (c_rows : Int32) (c_columns : Int32) (c_scale : Int64) (c_b_list : (Nat → Int32)) (c_b_many : Int32) : xHp := [.inr (1, [.ref 1, .ref 4, .ref 5, .ref 13, .ref 14, .int c_rows, .int c_columns, .long c_scale]), .inl (7, 2, .inr (.inr [2, 3])), .inl (0, 6, .inl (c_picks 0)), .inl (0, 6, .inl (c_picks 1)), .inl (0, 2, .inl c_many), .inl (8, 7, .inr (.inr [6, 7, 8, 9, 10, 11, 12])), .inl (1, 7, .inr (.inl (c_table 0))), .inl (1, 7, .inr (.inl (c_table 1))), .inl (1, 7, .inr (.inl (c_table 2))), .inl (1, 7, .inr (.inl (c_table 3))), .inl (1, 7, .inr (.inl (c_table 4))), .inl (1, 7, .inr (.inl (c_table 5))), .inl (1, 7, .inr (.inl (c_table 6))), .inl (0, 6, .inl c_rowNames), .inl (0, 6, .inl c_columnNames), .inr (0, [.ref 16, .int c_b_many]), .inl (0, 6, .inl c_b_list)]
def hSS (c_fields : Int32) (c_ties : Int32) (c_worth : (Nat → Int32)) (c_forces : (Nat → Int32)) (c_many : (Nat → Int32)) (c_codes : (Nat → Nat → Int32)) (c_b_list : (Nat → Nat → Int32)) (c_b_many : (Nat → Int32)) (c_p_list : (Nat → Nat → Int32)) (c_p_weights : (Nat → Nat → Int32)) (c_p_drawn : (Nat → Nat → Int32)) (c_p_many : (Nat → Int32)) (c_p_all : (Nat → Int32)) (c_p_turns : (Nat → Int32)) (c_o_fields : Int32) (c_o_ties : Int32) (c_o_worth : (Nat → Int32)) (c_o_forces : (Nat → Int32)) (c_o_many : (Nat → Int32)) (c_o_codes : (Nat → Nat → Int32)) (c_o_b_list : (Nat → Nat → Int32)) (c_o_b_many : (Nat → Int32)) (c_o_p_list : (Nat → Nat → Int32)) (c_o_p_weights : (Nat → Nat → Int32)) (c_o_p_drawn : (Nat → Nat → Int32)) (c_o_p_many : (Nat → Int32)) (c_o_p_all : (Nat → Int32)) (c_o_p_turns : (Nat → Int32)) : xHp := [.inr (4, [.int c_fields, .int c_ties, .ref 1, .ref 2, .ref 3, .ref 4, .ref 7, .ref 12]), .inl (0, 4, .inl c_worth), .inl (0, 2, .inl c_forces), .inl (0, 2, .inl c_many), .inl (7, 2, .inr (.inr [5, 6])), .inl (0, 120, .inl (c_codes 0)), .inl (0, 120, .inl (c_codes 1)), .inl (4, 2, .inr (.inr [8, 10])), .inr (0, [.ref 9, .int (c_b_many 0)]), .inl (0, 6, .inl (c_b_list 0)), .inr (0, [.ref 11, .int (c_b_many 1)]), .inl (0, 6, .inl (c_b_list 1)), .inl (5, 2, .inr (.inr [13, 17])), .inr (3, [.ref 14, .ref 15, .ref 16, .int (c_p_many 0), .int (c_p_all 0), .int (c_p_turns 0)]), .inl (0, 8, .inl (c_p_list 0)), .inl (0, 8, .inl (c_p_weights 0)), .inl (0, 8, .inl (c_p_drawn 0)), .inr (3, [.ref 18, .ref 19, .ref 20, .int (c_p_many 1), .int (c_p_all 1), .int (c_p_turns 1)]), .inl (0, 8, .inl (c_p_list 1)), .inl (0, 8, .inl (c_p_weights 1)), .inl (0, 8, .inl (c_p_drawn 1)), .inr (4, [.int c_o_fields, .int c_o_ties, .ref 22, .ref 23, .ref 24, .ref 25, .ref 28, .ref 33]), .inl (0, 4, .inl c_o_worth), .inl (0, 2, .inl c_o_forces), .inl (0, 2, .inl c_o_many), .inl (7, 2, .inr (.inr [26, 27])), .inl (0, 120, .inl (c_o_codes 0)), .inl (0, 120, .inl (c_o_codes 1)), .inl (4, 2, .inr (.inr [29, 31])), .inr (0, [.ref 30, .int (c_o_b_many 0)]), .inl (0, 6, .inl (c_o_b_list 0)), .inr (0, [.ref 32, .int (c_o_b_many 1)]), .inl (0, 6, .inl (c_o_b_list 1)), .inl (5, 2, .inr (.inr [34, 38])), .inr (3, [.ref 35, .ref 36, .ref 37, .int (c_o_p_many 0), .int (c_o_p_all 0), .int (c_o_p_turns 0)]), .inl (0, 8, .inl (c_o_p_list 0)), .inl (0, 8, .inl (c_o_p_weights 0)), .inl (0, 8, .inl (c_o_p_drawn 0)), .inr (3, [.ref 39, .ref 40, .ref 41, .int (c_o_p_many 1), .int (c_o_p_all 1), .int (c_o_p_turns 1)]), .inl (0, 8, .inl (c_o_p_list 1)), .inl (0, 8, .inl (c_o_p_weights 1)), .inl (0, 8, .inl (c_o_p_drawn 1))]
def hBB (c_list : (Nat → Int32)) (c_many : Int32) (c_o_list : (Nat → Int32)) (c_o_many : Int32) : xHp := [.inr (0, [.ref 1, .int c_many]), .inl (0, 6, .inl c_list), .inr (0, [.ref 3, .int c_o_many]), .inl (0, 6, .inl c_o_list)]
def hPP (c_list : (Nat → Int32)) (c_weights : (Nat → Int32)) (c_drawn : (Nat → Int32)) (c_many : Int32) (c_all : Int32) (c_turns : Int32) (c_o_list : (Nat → Int32)) (c_o_weights : (Nat → Int32)) (c_o_drawn : (Nat → Int32)) (c_o_many : Int32) (c_o_all : Int32) (c_o_turns : Int32) : xHp := [.inr (3, [.ref 1, .ref 2, .ref 3, .int c_many, .int c_all, .int c_turns]), .inl (0, 8, .inl c_list), .inl (0, 8, .inl c_weights), .inl (0, 8, .inl c_drawn), .inr (3, [.ref 5, .ref 6, .ref 7, .int c_o_many, .int c_o_all, .int c_o_turns]), .inl (0, 8, .inl c_o_list), .inl (0, 8, .inl c_o_weights), .inl (0, 8, .inl c_o_drawn)]
def hLr (c_fault : Int32) (c_t_bytes : (Nat → Int32)) (c_t_many : Int32) (c_t_kind : Int32) (c_t_from : Int32) (c_t_behind : Int32) (c_t_end : Int32) (c_s_fields : Int32) (c_s_ties : Int32) (c_s_worth : (Nat → Int32)) (c_s_forces : (Nat → Int32)) (c_s_many : (Nat → Int32)) (c_s_codes : (Nat → Nat → Int32)) (c_s_b_list : (Nat → Nat → Int32)) (c_s_b_many : (Nat → Int32)) (c_s_p_list : (Nat → Nat → Int32)) (c_s_p_weights : (Nat → Nat → Int32)) (c_s_p_drawn : (Nat → Nat → Int32)) (c_s_p_many : (Nat → Int32)) (c_s_p_all : (Nat → Int32)) (c_s_p_turns : (Nat → Int32)) : xHp := [.inr (8, [.ref 1, .ref 3, .int c_fault]), .inr (7, [.ref 2, .int c_t_many, .int c_t_kind, .int c_t_from, .int c_t_behind, .int c_t_end]), .inl (0, 300, .inl c_t_bytes), .inr (4, [.int c_s_fields, .int c_s_ties, .ref 4, .ref 5, .ref 6, .ref 7, .ref 10, .ref 15]), .inl (0, 4, .inl c_s_worth), .inl (0, 2, .inl c_s_forces), .inl (0, 2, .inl c_s_many), .inl (7, 2, .inr (.inr [8, 9])), .inl (0, 120, .inl (c_s_codes 0)), .inl (0, 120, .inl (c_s_codes 1)), .inl (4, 2, .inr (.inr [11, 13])), .inr (0, [.ref 12, .int (c_s_b_many 0)]), .inl (0, 6, .inl (c_s_b_list 0)), .inr (0, [.ref 14, .int (c_s_b_many 1)]), .inl (0, 6, .inl (c_s_b_list 1)), .inl (5, 2, .inr (.inr [16, 20])), .inr (3, [.ref 17, .ref 18, .ref 19, .int (c_s_p_many 0), .int (c_s_p_all 0), .int (c_s_p_turns 0)]), .inl (0, 8, .inl (c_s_p_list 0)), .inl (0, 8, .inl (c_s_p_weights 0)), .inl (0, 8, .inl (c_s_p_drawn 0)), .inr (3, [.ref 21, .ref 22, .ref 23, .int (c_s_p_many 1), .int (c_s_p_all 1), .int (c_s_p_turns 1)]), .inl (0, 8, .inl (c_s_p_list 1)), .inl (0, 8, .inl (c_s_p_weights 1)), .inl (0, 8, .inl (c_s_p_drawn 1))]
def hXx (c_chance : Int32) (c_n_fields : Int32) (c_n_ties : Int32) (c_n_worth : (Nat → Int32)) (c_n_forces : (Nat → Int32)) (c_n_many : (Nat → Int32)) (c_n_codes : (Nat → Nat → Int32)) (c_n_b_list : (Nat → Nat → Int32)) (c_n_b_many : (Nat → Int32)) (c_n_p_list : (Nat → Nat → Int32)) (c_n_p_weights : (Nat → Nat → Int32)) (c_n_p_drawn : (Nat → Nat → Int32)) (c_n_p_many : (Nat → Int32)) (c_n_p_all : (Nat → Int32)) (c_n_p_turns : (Nat → Int32)) (c_l_fault : Int32) (c_l_t_bytes : (Nat → Int32)) (c_l_t_many : Int32) (c_l_t_kind : Int32) (c_l_t_from : Int32) (c_l_t_behind : Int32) (c_l_t_end : Int32) (c_l_s_fields : Int32) (c_l_s_ties : Int32) (c_l_s_worth : (Nat → Int32)) (c_l_s_forces : (Nat → Int32)) (c_l_s_many : (Nat → Int32)) (c_l_s_codes : (Nat → Nat → Int32)) (c_l_s_b_list : (Nat → Nat → Int32)) (c_l_s_b_many : (Nat → Int32)) (c_l_s_p_list : (Nat → Nat → Int32)) (c_l_s_p_weights : (Nat → Nat → Int32)) (c_l_s_p_drawn : (Nat → Nat → Int32)) (c_l_s_p_many : (Nat → Int32)) (c_l_s_p_all : (Nat → Int32)) (c_l_s_p_turns : (Nat → Int32)) (c_nt_seen : (Nat → Nat → Int32)) (c_nt_many : (Nat → Int32)) (c_v_kept : (Nat → Nat → Int32)) (c_v_many : (Nat → Int32)) (c_v_turns : Int32) (c_v_stale : Int32) (c_v_goes : (Nat → Nat → Int32)) (c_v_row : (Nat → Int32)) (c_w_all : Int32) (c_w_mass : (Nat → Nat → Int32)) (c_g_picks : (Nat → Nat → Int32)) (c_g_many : (Nat → Int32)) (c_g_table : (Nat → Nat → Int64)) (c_g_rowNames : (Nat → Int32)) (c_g_columnNames : (Nat → Int32)) (c_g_rows : Int32) (c_g_columns : Int32) (c_g_scale : Int64) : xHp := [.inr (9, [.ref 1, .ref 22, .ref 23, .ref 46, .ref 51, .ref 60, .ref 66, .int c_chance]), .inr (4, [.int c_n_fields, .int c_n_ties, .ref 2, .ref 3, .ref 4, .ref 5, .ref 8, .ref 13]), .inl (0, 4, .inl c_n_worth), .inl (0, 2, .inl c_n_forces), .inl (0, 2, .inl c_n_many), .inl (7, 2, .inr (.inr [6, 7])), .inl (0, 120, .inl (c_n_codes 0)), .inl (0, 120, .inl (c_n_codes 1)), .inl (4, 2, .inr (.inr [9, 11])), .inr (0, [.ref 10, .int (c_n_b_many 0)]), .inl (0, 6, .inl (c_n_b_list 0)), .inr (0, [.ref 12, .int (c_n_b_many 1)]), .inl (0, 6, .inl (c_n_b_list 1)), .inl (5, 2, .inr (.inr [14, 18])), .inr (3, [.ref 15, .ref 16, .ref 17, .int (c_n_p_many 0), .int (c_n_p_all 0), .int (c_n_p_turns 0)]), .inl (0, 8, .inl (c_n_p_list 0)), .inl (0, 8, .inl (c_n_p_weights 0)), .inl (0, 8, .inl (c_n_p_drawn 0)), .inr (3, [.ref 19, .ref 20, .ref 21, .int (c_n_p_many 1), .int (c_n_p_all 1), .int (c_n_p_turns 1)]), .inl (0, 8, .inl (c_n_p_list 1)), .inl (0, 8, .inl (c_n_p_weights 1)), .inl (0, 8, .inl (c_n_p_drawn 1)), .inr (8, [.ref 23, .ref 25, .int c_l_fault]), .inr (7, [.ref 24, .int c_l_t_many, .int c_l_t_kind, .int c_l_t_from, .int c_l_t_behind, .int c_l_t_end]), .inl (0, 300, .inl c_l_t_bytes), .inr (4, [.int c_l_s_fields, .int c_l_s_ties, .ref 26, .ref 27, .ref 28, .ref 29, .ref 32, .ref 37]), .inl (0, 4, .inl c_l_s_worth), .inl (0, 2, .inl c_l_s_forces), .inl (0, 2, .inl c_l_s_many), .inl (7, 2, .inr (.inr [30, 31])), .inl (0, 120, .inl (c_l_s_codes 0)), .inl (0, 120, .inl (c_l_s_codes 1)), .inl (4, 2, .inr (.inr [33, 35])), .inr (0, [.ref 34, .int (c_l_s_b_many 0)]), .inl (0, 6, .inl (c_l_s_b_list 0)), .inr (0, [.ref 36, .int (c_l_s_b_many 1)]), .inl (0, 6, .inl (c_l_s_b_list 1)), .inl (5, 2, .inr (.inr [38, 42])), .inr (3, [.ref 39, .ref 40, .ref 41, .int (c_l_s_p_many 0), .int (c_l_s_p_all 0), .int (c_l_s_p_turns 0)]), .inl (0, 8, .inl (c_l_s_p_list 0)), .inl (0, 8, .inl (c_l_s_p_weights 0)), .inl (0, 8, .inl (c_l_s_p_drawn 0)), .inr (3, [.ref 43, .ref 44, .ref 45, .int (c_l_s_p_many 1), .int (c_l_s_p_all 1), .int (c_l_s_p_turns 1)]), .inl (0, 8, .inl (c_l_s_p_list 1)), .inl (0, 8, .inl (c_l_s_p_weights 1)), .inl (0, 8, .inl (c_l_s_p_drawn 1)), .inl (6, 2, .inr (.inr [47, 49])), .inr (2, [.ref 48, .int (c_nt_many 0)]), .inl (0, 120, .inl (c_nt_seen 0)), .inr (2, [.ref 50, .int (c_nt_many 1)]), .inl (0, 120, .inl (c_nt_seen 1)), .inr (5, [.ref 52, .ref 55, .int c_v_turns, .int c_v_stale, .ref 56, .ref 59]), .inl (7, 2, .inr (.inr [53, 54])), .inl (0, 120, .inl (c_v_kept 0)), .inl (0, 120, .inl (c_v_kept 1)), .inl (0, 2, .inl c_v_many), .inl (7, 2, .inr (.inr [57, 58])), .inl (0, 120, .inl (c_v_goes 0)), .inl (0, 120, .inl (c_v_goes 1)), .inl (0, 120, .inl c_v_row), .inr (6, [.ref 61, .int c_w_all]), .inl (7, 4, .inr (.inr [62, 63, 64, 65])), .inl (0, 8, .inl (c_w_mass 0)), .inl (0, 8, .inl (c_w_mass 1)), .inl (0, 8, .inl (c_w_mass 2)), .inl (0, 8, .inl (c_w_mass 3)), .inr (1, [.ref 67, .ref 70, .ref 71, .ref 79, .ref 80, .int c_g_rows, .int c_g_columns, .long c_g_scale]), .inl (7, 2, .inr (.inr [68, 69])), .inl (0, 6, .inl (c_g_picks 0)), .inl (0, 6, .inl (c_g_picks 1)), .inl (0, 2, .inl c_g_many), .inl (8, 7, .inr (.inr [72, 73, 74, 75, 76, 77, 78])), .inl (1, 7, .inr (.inl (c_g_table 0))), .inl (1, 7, .inr (.inl (c_g_table 1))), .inl (1, 7, .inr (.inl (c_g_table 2))), .inl (1, 7, .inr (.inl (c_g_table 3))), .inl (1, 7, .inr (.inl (c_g_table 4))), .inl (1, 7, .inr (.inl (c_g_table 5))), .inl (1, 7, .inr (.inl (c_g_table 6))), .inl (0, 6, .inl c_g_rowNames), .inl (0, 6, .inl c_g_columnNames)]
theorem xy_i0 : Int32.ofInt (0) = (0 : Int32) := by decide
theorem xy_b6 : (Int8.ofInt (6)).toInt32 = (6 : Int32) := by decide
theorem f0_9 : xFl RX0 9 0 0 := ⟨_, rfl, by decide, List.mem_of_getElem? (i := 61) (by decide +kernel)⟩
theorem k0_15 : Cond.methodLink RX0 15 arraycopyName ∈ wsL_law0 := List.mem_of_getElem? (i := 209) (by decide +kernel)
theorem f0_21 : xFl RX0 21 0 1 := ⟨_, rfl, by decide, List.mem_of_getElem? (i := 210) (by decide +kernel)⟩
theorem nf0_1 : ∀ q : vw_C, vwCl[0]? = some q → (q.2.1 1).2.2.2 = false := fun q e => by cases e; rfl
theorem dX0_copyFrom_0 : decode cX0_copyFrom 0 = .ok (.aload_n 1, 1) := by decide +kernel
theorem dX0_copyFrom_1 : decode cX0_copyFrom 1 = .ok (.getfield 9, 3) := by decide +kernel
theorem dX0_copyFrom_4 : decode cX0_copyFrom 4 = .ok (.iconst 0, 1) := by decide +kernel
theorem dX0_copyFrom_5 : decode cX0_copyFrom 5 = .ok (.aload_n 0, 1) := by decide +kernel
theorem dX0_copyFrom_6 : decode cX0_copyFrom 6 = .ok (.getfield 9, 3) := by decide +kernel
theorem dX0_copyFrom_9 : decode cX0_copyFrom 9 = .ok (.iconst 0, 1) := by decide +kernel
theorem dX0_copyFrom_10 : decode cX0_copyFrom 10 = .ok (.bipush 6, 2) := by decide +kernel
theorem dX0_copyFrom_12 : decode cX0_copyFrom 12 = .ok (.invokestatic 15, 3) := by decide +kernel
theorem dX0_copyFrom_15 : decode cX0_copyFrom 15 = .ok (.aload_n 0, 1) := by decide +kernel
theorem dX0_copyFrom_16 : decode cX0_copyFrom 16 = .ok (.aload_n 1, 1) := by decide +kernel
theorem dX0_copyFrom_17 : decode cX0_copyFrom 17 = .ok (.getfield 21, 3) := by decide +kernel
theorem dX0_copyFrom_20 : decode cX0_copyFrom 20 = .ok (.putfield 21, 3) := by decide +kernel
theorem dX0_copyFrom_23 : decode cX0_copyFrom 23 = .ok (.return_, 1) := by decide +kernel
abbrev j0_copyFrom : xJ := (cX0_copyFrom, 2, RX0, 1, 0, 0)
def F0_copyFrom (c_list : (Nat → Int32)) (c_many : Int32) (c_o_list : (Nat → Int32)) (c_o_many : Int32) : Option ((Nat → Int32) × Int32) :=
  some ((va_cpy c_o_list c_list 0 0 6), c_o_many)
theorem T0_copyFrom {X : xX} {c_list : (Nat → Int32)} {c_many : Int32} {c_o_list : (Nat → Int32)} {c_o_many : Int32}  {v : (Nat → Int32) × Int32} (hX : xIs (j0_copyFrom) X none none (hBB v.1 v.2 c_o_list c_o_many)) (hf : F0_copyFrom c_list c_many c_o_list c_o_many = some v) : xV (j0_copyFrom) X 0 0 (hBB c_list c_many c_o_list c_o_many) 0 [(0, .ref 0), (1, .ref 2)] [] := by
  unfold F0_copyFrom at hf
  refine xV_aload_n 1 rfl dX0_copyFrom_0 rfl 1 rfl ?_
  refine xV_get (v := .ref 3) 4 rfl dX0_copyFrom_1 f0_9 rfl rfl ?_
  refine xV_iconst 5 rfl dX0_copyFrom_4 xy_i0 ?_
  refine xV_aload_n 6 rfl dX0_copyFrom_5 rfl 0 rfl ?_
  refine xV_get (v := .ref 1) 9 rfl dX0_copyFrom_6 f0_9 rfl rfl ?_
  refine xV_iconst 10 rfl dX0_copyFrom_9 xy_i0 ?_
  refine xV_bipush 12 rfl dX0_copyFrom_10 xy_b6 ?_
  refine xV_acopy (f := c_o_list) (g := c_list) (z := 6) (h' := (hBB (va_cpy c_o_list c_list 0 0 6) c_many c_o_list c_o_many)) 15 rfl dX0_copyFrom_12 k0_15 (⟨rfl, rfl, rfl⟩) (by decide) (by decide) (by decide) (Nat.le_of_ble_eq_true rfl) (Nat.le_of_ble_eq_true rfl) ?_
  refine xV_aload_n 16 rfl dX0_copyFrom_15 rfl 0 rfl ?_
  refine xV_aload_n 17 rfl dX0_copyFrom_16 rfl 1 rfl ?_
  refine xV_get (v := .int c_o_many) 20 rfl dX0_copyFrom_17 f0_21 rfl rfl ?_
  refine xV_put (h' := (hBB (va_cpy c_o_list c_list 0 0 6) c_o_many c_o_list c_o_many)) 23 rfl dX0_copyFrom_20 f0_21 rfl nf0_1 (fun _ => rfl) (fun _ => rfl) (Nat.le_of_ble_eq_true rfl) rfl ?_
  obtain rfl := Option.some.inj hf
  exact xV_vret hX dX0_copyFrom_23 (Nat.zero_le _) (Nat.zero_le _)
theorem C0_copyFrom (l : Launch) {c_list : (Nat → Int32)} {c_many : Int32} {c_o_list : (Nat → Int32)} {c_o_many : Int32}  {v : (Nat → Int32) × Int32} (hf : F0_copyFrom c_list c_many c_o_list c_o_many = some v) : xCt l yX0_copyFrom none j0_copyFrom [.ref 0, .ref 2] (hBB c_list c_many c_o_list c_o_many) none (hBB v.1 v.2 c_o_list c_o_many) := xCt_of (by decide) rfl (Nat.le_of_ble_eq_true rfl) (fun _ hX => T0_copyFrom hX hf)
theorem m0_copyFrom : xMd yX0_copyFrom RX0 none j0_copyFrom 1 := ⟨List.mem_of_getElem? (i := 208) (by decide +kernel), List.mem_of_getElem? (i := 55) (by decide +kernel), rfl, by decide +kernel⟩
theorem v0_copyFrom : xMv yX0_copyFrom RX0 := ⟨List.mem_of_getElem? (i := 206) (by decide +kernel), List.mem_of_getElem? (i := 207) (by decide +kernel)⟩
theorem xy_in0_6 : vp_in (0 : Int32) 6 := xin_ok (by decide)
theorem xy_j0 : (0 : Int32).toNatClampNeg = 0 := by decide
theorem xy_i1 : Int32.ofInt (1) = (1 : Int32) := by decide
theorem dX0_has_0 : decode cX0_has 0 = .ok (.iconst 0, 1) := by decide +kernel
theorem dX0_has_1 : decode cX0_has 1 = .ok (.istore_n 2, 1) := by decide +kernel
theorem dX0_has_2 : decode cX0_has 2 = .ok (.iload_n 2, 1) := by decide +kernel
theorem dX0_has_3 : decode cX0_has 3 = .ok (.aload_n 0, 1) := by decide +kernel
theorem dX0_has_4 : decode cX0_has 4 = .ok (.getfield 21, 3) := by decide +kernel
theorem dX0_has_7 : decode cX0_has 7 = .ok (.if_icmp .ge 21, 3) := by decide +kernel
theorem dX0_has_10 : decode cX0_has 10 = .ok (.aload_n 0, 1) := by decide +kernel
theorem dX0_has_11 : decode cX0_has 11 = .ok (.getfield 9, 3) := by decide +kernel
theorem dX0_has_14 : decode cX0_has 14 = .ok (.iload_n 2, 1) := by decide +kernel
theorem dX0_has_15 : decode cX0_has 15 = .ok (.iaload, 1) := by decide +kernel
theorem dX0_has_16 : decode cX0_has 16 = .ok (.iload_n 1, 1) := by decide +kernel
theorem dX0_has_17 : decode cX0_has 17 = .ok (.if_icmp .ne 5, 3) := by decide +kernel
theorem dX0_has_20 : decode cX0_has 20 = .ok (.iconst 1, 1) := by decide +kernel
theorem dX0_has_21 : decode cX0_has 21 = .ok (.ireturn, 1) := by decide +kernel
theorem dX0_has_22 : decode cX0_has 22 = .ok (.iinc 2 1, 3) := by decide +kernel
theorem dX0_has_25 : decode cX0_has 25 = .ok (.goto (-23), 3) := by decide +kernel
theorem dX0_has_28 : decode cX0_has 28 = .ok (.iconst 0, 1) := by decide +kernel
theorem dX0_has_29 : decode cX0_has 29 = .ok (.ireturn, 1) := by decide +kernel
abbrev j0_has : xJ := (cX0_has, 3, RX0, 1, 0, 0)
def F0_has_b2 (z : Nat) (w : Nat) (x1 : Int32) (x2 : Int32) (c_list : (Nat → Int32)) (c_many : Int32) : Option (Int32) := match w with
  | 0 => none
  | w + 1 => if c_many ≤ x2 then (some ((0 : Int32))) else (xg (xin x2 6) (if (c_list (xn x2)) = x1 then (some ((1 : Int32))) else (F0_has_b2 z w x1 (x2 + (1 : Int32)) c_list c_many)))
theorem T0_has_b2 {X : xX} {c_list : (Nat → Int32)} {c_many : Int32} {z : Nat} {v : Int32} (hX : xIs (j0_has) X ((some .boolean)) (some (.int v)) (hB c_list c_many)) : ∀ (w : Nat) {x1 : Int32} {x2 : Int32}, F0_has_b2 z w x1 x2 c_list c_many = some v → xV (j0_has) X 0 0 (hB c_list c_many) 2 [(0, .ref 0), (1, .int x1), (2, .int x2)] [] := by
  intro w
  induction w with
  | zero => intro x1 x2 hf; cases hf
  | succ w ih =>
    intro x1 x2 hf
    unfold F0_has_b2 at hf
    refine xV_iload_n 3 rfl dX0_has_2 rfl 2 rfl ?_
    refine xV_aload_n 4 rfl dX0_has_3 rfl 0 rfl ?_
    refine xV_get (v := .int c_many) 7 rfl dX0_has_4 f0_21 rfl rfl ?_
    refine xV_icmp_ge (tgt := 28) 10 rfl dX0_has_7 (by decide) (fun h7 => ?_) (fun h7 => ?_)
    · have hf := xif_t hf h7
      refine xV_iconst 29 rfl dX0_has_28 xy_i0 ?_
      obtain rfl := Option.some.inj hf
      exact xV_iret hX dX0_has_29 (xbo_ok rfl) (Nat.zero_le _) (Nat.zero_le _)
    · have hf := xif_f hf h7
      refine xV_aload_n 11 rfl dX0_has_10 rfl 0 rfl ?_
      refine xV_get (v := .ref 1) 14 rfl dX0_has_11 f0_9 rfl rfl ?_
      refine xV_iload_n 15 rfl dX0_has_14 rfl 2 rfl ?_
      obtain ⟨hg15, hf⟩ := xg_s hf
      refine xV_iaload 16 rfl dX0_has_15 rfl (xin_ok hg15) rfl ?_
      refine xV_iload_n 17 rfl dX0_has_16 rfl 1 rfl ?_
      refine xV_icmp_ne (tgt := 22) 20 rfl dX0_has_17 (by decide) (fun h17 => ?_) (fun h17 => ?_)
      · have hf := xif_f hf h17
        refine xV_iinc (L' := [(2, .int (x2 + (1 : Int32))), (0, .ref 0), (1, .int x1)]) 25 rfl dX0_has_22 2 rfl (xk_inc xy_i1) (xlt rfl) rfl ?_
        refine xV_goto (tgt := 2) dX0_has_25 (by decide) ?_
        refine xV_sub [1, 2, 0] rfl ?_
        exact ih hf
      · have hf := xif_t hf h17
        refine xV_iconst 21 rfl dX0_has_20 xy_i1 ?_
        obtain rfl := Option.some.inj hf
        exact xV_iret hX dX0_has_21 (xbo_ok rfl) (Nat.zero_le _) (Nat.zero_le _)
def F0_has (z : Nat) (x1 : Int32) (c_list : (Nat → Int32)) (c_many : Int32) : Option (Int32) :=
  F0_has_b2 z z x1 (0 : Int32) c_list c_many
theorem T0_has {X : xX} {z : Nat} {x1 : Int32} {c_list : (Nat → Int32)} {c_many : Int32}  {v : Int32} (hX : xIs (j0_has) X ((some .boolean)) (some (.int v)) (hB c_list c_many)) (hf : F0_has z x1 c_list c_many = some v) : xV (j0_has) X 0 0 (hB c_list c_many) 0 [(0, .ref 0), (1, .int x1)] [] := by
  unfold F0_has at hf
  refine xV_iconst 1 rfl dX0_has_0 xy_i0 ?_
  refine xV_istore_n (L' := [(2, .int (0 : Int32)), (0, .ref 0), (1, .int x1)]) 2 rfl dX0_has_1 rfl (xlt rfl) rfl ?_
  refine xV_sub [1, 2, 0] rfl ?_
  exact T0_has_b2 hX _ hf
theorem C0_has (l : Launch) {z : Nat} {x1 : Int32} {c_list : (Nat → Int32)} {c_many : Int32}  {v : Int32} (hf : F0_has z x1 c_list c_many = some v) : xCt l yX0_has ((some .boolean)) j0_has [.ref 0, .int x1] (hB c_list c_many) (some (.int v)) (hB c_list c_many) := xCt_of (by decide) rfl (Nat.le_of_ble_eq_true rfl) (fun _ hX => T0_has hX hf)
theorem m0_has : xMd yX0_has RX0 ((some .boolean)) j0_has 1 := ⟨List.mem_of_getElem? (i := 372) (by decide +kernel), List.mem_of_getElem? (i := 55) (by decide +kernel), rfl, by decide +kernel⟩
theorem v0_has : xMv yX0_has RX0 := ⟨List.mem_of_getElem? (i := 370) (by decide +kernel), List.mem_of_getElem? (i := 371) (by decide +kernel)⟩
theorem dX0_put_0 : decode cX0_put 0 = .ok (.aload_n 0, 1) := by decide +kernel
theorem dX0_put_1 : decode cX0_put 1 = .ok (.getfield 21, 3) := by decide +kernel
theorem dX0_put_4 : decode cX0_put 4 = .ok (.bipush 6, 2) := by decide +kernel
theorem dX0_put_6 : decode cX0_put 6 = .ok (.if_icmp .ge 23, 3) := by decide +kernel
theorem dX0_put_9 : decode cX0_put 9 = .ok (.aload_n 0, 1) := by decide +kernel
theorem dX0_put_10 : decode cX0_put 10 = .ok (.getfield 9, 3) := by decide +kernel
theorem dX0_put_13 : decode cX0_put 13 = .ok (.aload_n 0, 1) := by decide +kernel
theorem dX0_put_14 : decode cX0_put 14 = .ok (.getfield 21, 3) := by decide +kernel
theorem dX0_put_17 : decode cX0_put 17 = .ok (.iload_n 1, 1) := by decide +kernel
theorem dX0_put_18 : decode cX0_put 18 = .ok (.iastore, 1) := by decide +kernel
theorem dX0_put_19 : decode cX0_put 19 = .ok (.aload_n 0, 1) := by decide +kernel
theorem dX0_put_20 : decode cX0_put 20 = .ok (.dup, 1) := by decide +kernel
theorem dX0_put_21 : decode cX0_put 21 = .ok (.getfield 21, 3) := by decide +kernel
theorem dX0_put_24 : decode cX0_put 24 = .ok (.iconst 1, 1) := by decide +kernel
theorem dX0_put_25 : decode cX0_put 25 = .ok (.iadd, 1) := by decide +kernel
theorem dX0_put_26 : decode cX0_put 26 = .ok (.putfield 21, 3) := by decide +kernel
theorem dX0_put_29 : decode cX0_put 29 = .ok (.return_, 1) := by decide +kernel
abbrev j0_put : xJ := (cX0_put, 2, RX0, 1, 0, 0)
def F0_put (x1 : Int32) (c_list : (Nat → Int32)) (c_many : Int32) : Option ((Nat → Int32) × Int32) :=
  if (6 : Int32) ≤ c_many then (some (c_list, c_many)) else (xg (xin c_many 6) (some ((upd c_list (xn c_many) x1), (c_many + (1 : Int32)))))
theorem T0_put {X : xX} {x1 : Int32} {c_list : (Nat → Int32)} {c_many : Int32}  {v : (Nat → Int32) × Int32} (hX : xIs (j0_put) X none none (hB v.1 v.2)) (hf : F0_put x1 c_list c_many = some v) : xV (j0_put) X 0 0 (hB c_list c_many) 0 [(0, .ref 0), (1, .int x1)] [] := by
  unfold F0_put at hf
  refine xV_aload_n 1 rfl dX0_put_0 rfl 0 rfl ?_
  refine xV_get (v := .int c_many) 4 rfl dX0_put_1 f0_21 rfl rfl ?_
  refine xV_bipush 6 rfl dX0_put_4 xy_b6 ?_
  refine xV_icmp_ge (tgt := 29) 9 rfl dX0_put_6 (by decide) (fun h6 => ?_) (fun h6 => ?_)
  · have hf := xif_t hf h6
    obtain rfl := Option.some.inj hf
    exact xV_vret hX dX0_put_29 (Nat.zero_le _) (Nat.zero_le _)
  · have hf := xif_f hf h6
    refine xV_aload_n 10 rfl dX0_put_9 rfl 0 rfl ?_
    refine xV_get (v := .ref 1) 13 rfl dX0_put_10 f0_9 rfl rfl ?_
    refine xV_aload_n 14 rfl dX0_put_13 rfl 0 rfl ?_
    refine xV_get (v := .int c_many) 17 rfl dX0_put_14 f0_21 rfl rfl ?_
    refine xV_iload_n 18 rfl dX0_put_17 rfl 1 rfl ?_
    obtain ⟨hg18, hf⟩ := xg_s hf
    refine xV_iastore (h' := (hB (upd c_list (xn c_many) x1) c_many)) (j := (xn c_many)) 19 rfl dX0_put_18 rfl (xin_ok hg18) rfl rfl ?_
    refine xV_aload_n 20 rfl dX0_put_19 rfl 0 rfl ?_
    refine xV_dup 21 rfl dX0_put_20 rfl ?_
    refine xV_get (v := .int c_many) 24 rfl dX0_put_21 f0_21 rfl rfl ?_
    refine xV_iconst 25 rfl dX0_put_24 xy_i1 ?_
    refine xV_iadd 26 rfl dX0_put_25 ?_
    refine xV_put (h' := (hB (upd c_list (xn c_many) x1) (c_many + (1 : Int32)))) 29 rfl dX0_put_26 f0_21 rfl nf0_1 (fun _ => rfl) (fun _ => rfl) (Nat.le_of_ble_eq_true rfl) rfl ?_
    obtain rfl := Option.some.inj hf
    exact xV_vret hX dX0_put_29 (Nat.zero_le _) (Nat.zero_le _)
theorem C0_put (l : Launch) {x1 : Int32} {c_list : (Nat → Int32)} {c_many : Int32}  {v : (Nat → Int32) × Int32} (hf : F0_put x1 c_list c_many = some v) : xCt l yX0_put none j0_put [.ref 0, .int x1] (hB c_list c_many) none (hB v.1 v.2) := xCt_of (by decide) rfl (Nat.le_of_ble_eq_true rfl) (fun _ hX => T0_put hX hf)
theorem m0_put : xMd yX0_put RX0 none j0_put 1 := ⟨List.mem_of_getElem? (i := 376) (by decide +kernel), List.mem_of_getElem? (i := 55) (by decide +kernel), rfl, by decide +kernel⟩
theorem v0_put : xMv yX0_put RX0 := ⟨List.mem_of_getElem? (i := 374) (by decide +kernel), List.mem_of_getElem? (i := 375) (by decide +kernel)⟩
theorem xy_b8 : (Int8.ofInt (8)).toInt32 = (8 : Int32) := by decide
theorem f3_9 : xFl RX3 9 3 0 := ⟨_, rfl, by decide, List.mem_of_getElem? (i := 65) (by decide +kernel)⟩
theorem k3_21 : Cond.methodLink RX3 21 arraycopyName ∈ wsL_law0 := List.mem_of_getElem? (i := 215) (by decide +kernel)
theorem f3_15 : xFl RX3 15 3 1 := ⟨_, rfl, by decide, List.mem_of_getElem? (i := 66) (by decide +kernel)⟩
theorem f3_18 : xFl RX3 18 3 2 := ⟨_, rfl, by decide, List.mem_of_getElem? (i := 67) (by decide +kernel)⟩
theorem f3_27 : xFl RX3 27 3 3 := ⟨_, rfl, by decide, List.mem_of_getElem? (i := 216) (by decide +kernel)⟩
theorem nf3_3 : ∀ q : vw_C, vwCl[3]? = some q → (q.2.1 3).2.2.2 = false := fun q e => by cases e; rfl
theorem f3_31 : xFl RX3 31 3 4 := ⟨_, rfl, by decide, List.mem_of_getElem? (i := 217) (by decide +kernel)⟩
theorem nf3_4 : ∀ q : vw_C, vwCl[3]? = some q → (q.2.1 4).2.2.2 = false := fun q e => by cases e; rfl
theorem f3_34 : xFl RX3 34 3 5 := ⟨_, rfl, by decide, List.mem_of_getElem? (i := 218) (by decide +kernel)⟩
theorem nf3_5 : ∀ q : vw_C, vwCl[3]? = some q → (q.2.1 5).2.2.2 = false := fun q e => by cases e; rfl
theorem dX3_copyFrom_0 : decode cX3_copyFrom 0 = .ok (.aload_n 1, 1) := by decide +kernel
theorem dX3_copyFrom_1 : decode cX3_copyFrom 1 = .ok (.getfield 9, 3) := by decide +kernel
theorem dX3_copyFrom_4 : decode cX3_copyFrom 4 = .ok (.iconst 0, 1) := by decide +kernel
theorem dX3_copyFrom_5 : decode cX3_copyFrom 5 = .ok (.aload_n 0, 1) := by decide +kernel
theorem dX3_copyFrom_6 : decode cX3_copyFrom 6 = .ok (.getfield 9, 3) := by decide +kernel
theorem dX3_copyFrom_9 : decode cX3_copyFrom 9 = .ok (.iconst 0, 1) := by decide +kernel
theorem dX3_copyFrom_10 : decode cX3_copyFrom 10 = .ok (.bipush 8, 2) := by decide +kernel
theorem dX3_copyFrom_12 : decode cX3_copyFrom 12 = .ok (.invokestatic 21, 3) := by decide +kernel
theorem dX3_copyFrom_15 : decode cX3_copyFrom 15 = .ok (.aload_n 1, 1) := by decide +kernel
theorem dX3_copyFrom_16 : decode cX3_copyFrom 16 = .ok (.getfield 15, 3) := by decide +kernel
theorem dX3_copyFrom_19 : decode cX3_copyFrom 19 = .ok (.iconst 0, 1) := by decide +kernel
theorem dX3_copyFrom_20 : decode cX3_copyFrom 20 = .ok (.aload_n 0, 1) := by decide +kernel
theorem dX3_copyFrom_21 : decode cX3_copyFrom 21 = .ok (.getfield 15, 3) := by decide +kernel
theorem dX3_copyFrom_24 : decode cX3_copyFrom 24 = .ok (.iconst 0, 1) := by decide +kernel
theorem dX3_copyFrom_25 : decode cX3_copyFrom 25 = .ok (.bipush 8, 2) := by decide +kernel
theorem dX3_copyFrom_27 : decode cX3_copyFrom 27 = .ok (.invokestatic 21, 3) := by decide +kernel
theorem dX3_copyFrom_30 : decode cX3_copyFrom 30 = .ok (.aload_n 1, 1) := by decide +kernel
theorem dX3_copyFrom_31 : decode cX3_copyFrom 31 = .ok (.getfield 18, 3) := by decide +kernel
theorem dX3_copyFrom_34 : decode cX3_copyFrom 34 = .ok (.iconst 0, 1) := by decide +kernel
theorem dX3_copyFrom_35 : decode cX3_copyFrom 35 = .ok (.aload_n 0, 1) := by decide +kernel
theorem dX3_copyFrom_36 : decode cX3_copyFrom 36 = .ok (.getfield 18, 3) := by decide +kernel
theorem dX3_copyFrom_39 : decode cX3_copyFrom 39 = .ok (.iconst 0, 1) := by decide +kernel
theorem dX3_copyFrom_40 : decode cX3_copyFrom 40 = .ok (.bipush 8, 2) := by decide +kernel
theorem dX3_copyFrom_42 : decode cX3_copyFrom 42 = .ok (.invokestatic 21, 3) := by decide +kernel
theorem dX3_copyFrom_45 : decode cX3_copyFrom 45 = .ok (.aload_n 0, 1) := by decide +kernel
theorem dX3_copyFrom_46 : decode cX3_copyFrom 46 = .ok (.aload_n 1, 1) := by decide +kernel
theorem dX3_copyFrom_47 : decode cX3_copyFrom 47 = .ok (.getfield 27, 3) := by decide +kernel
theorem dX3_copyFrom_50 : decode cX3_copyFrom 50 = .ok (.putfield 27, 3) := by decide +kernel
theorem dX3_copyFrom_53 : decode cX3_copyFrom 53 = .ok (.aload_n 0, 1) := by decide +kernel
theorem dX3_copyFrom_54 : decode cX3_copyFrom 54 = .ok (.aload_n 1, 1) := by decide +kernel
theorem dX3_copyFrom_55 : decode cX3_copyFrom 55 = .ok (.getfield 31, 3) := by decide +kernel
theorem dX3_copyFrom_58 : decode cX3_copyFrom 58 = .ok (.putfield 31, 3) := by decide +kernel
theorem dX3_copyFrom_61 : decode cX3_copyFrom 61 = .ok (.aload_n 0, 1) := by decide +kernel
theorem dX3_copyFrom_62 : decode cX3_copyFrom 62 = .ok (.aload_n 1, 1) := by decide +kernel
theorem dX3_copyFrom_63 : decode cX3_copyFrom 63 = .ok (.getfield 34, 3) := by decide +kernel
theorem dX3_copyFrom_66 : decode cX3_copyFrom 66 = .ok (.putfield 34, 3) := by decide +kernel
theorem dX3_copyFrom_69 : decode cX3_copyFrom 69 = .ok (.return_, 1) := by decide +kernel
abbrev j3_copyFrom : xJ := (cX3_copyFrom, 2, RX3, 1, 0, 0)
def F3_copyFrom (c_list : (Nat → Int32)) (c_weights : (Nat → Int32)) (c_drawn : (Nat → Int32)) (c_many : Int32) (c_all : Int32) (c_turns : Int32) (c_o_list : (Nat → Int32)) (c_o_weights : (Nat → Int32)) (c_o_drawn : (Nat → Int32)) (c_o_many : Int32) (c_o_all : Int32) (c_o_turns : Int32) : Option ((Nat → Int32) × (Nat → Int32) × (Nat → Int32) × Int32 × Int32 × Int32) :=
  some ((va_cpy c_o_list c_list 0 0 8), (va_cpy c_o_weights c_weights 0 0 8), (va_cpy c_o_drawn c_drawn 0 0 8), c_o_many, c_o_all, c_o_turns)
theorem T3_copyFrom {X : xX} {c_list : (Nat → Int32)} {c_weights : (Nat → Int32)} {c_drawn : (Nat → Int32)} {c_many : Int32} {c_all : Int32} {c_turns : Int32} {c_o_list : (Nat → Int32)} {c_o_weights : (Nat → Int32)} {c_o_drawn : (Nat → Int32)} {c_o_many : Int32} {c_o_all : Int32} {c_o_turns : Int32}  {v : (Nat → Int32) × (Nat → Int32) × (Nat → Int32) × Int32 × Int32 × Int32} (hX : xIs (j3_copyFrom) X none none (hPP v.1 v.2.1 v.2.2.1 v.2.2.2.1 v.2.2.2.2.1 v.2.2.2.2.2 c_o_list c_o_weights c_o_drawn c_o_many c_o_all c_o_turns)) (hf : F3_copyFrom c_list c_weights c_drawn c_many c_all c_turns c_o_list c_o_weights c_o_drawn c_o_many c_o_all c_o_turns = some v) : xV (j3_copyFrom) X 0 0 (hPP c_list c_weights c_drawn c_many c_all c_turns c_o_list c_o_weights c_o_drawn c_o_many c_o_all c_o_turns) 0 [(0, .ref 0), (1, .ref 4)] [] := by
  unfold F3_copyFrom at hf
  refine xV_aload_n 1 rfl dX3_copyFrom_0 rfl 1 rfl ?_
  refine xV_get (v := .ref 5) 4 rfl dX3_copyFrom_1 f3_9 rfl rfl ?_
  refine xV_iconst 5 rfl dX3_copyFrom_4 xy_i0 ?_
  refine xV_aload_n 6 rfl dX3_copyFrom_5 rfl 0 rfl ?_
  refine xV_get (v := .ref 1) 9 rfl dX3_copyFrom_6 f3_9 rfl rfl ?_
  refine xV_iconst 10 rfl dX3_copyFrom_9 xy_i0 ?_
  refine xV_bipush 12 rfl dX3_copyFrom_10 xy_b8 ?_
  refine xV_acopy (f := c_o_list) (g := c_list) (z := 8) (h' := (hPP (va_cpy c_o_list c_list 0 0 8) c_weights c_drawn c_many c_all c_turns c_o_list c_o_weights c_o_drawn c_o_many c_o_all c_o_turns)) 15 rfl dX3_copyFrom_12 k3_21 (⟨rfl, rfl, rfl⟩) (by decide) (by decide) (by decide) (Nat.le_of_ble_eq_true rfl) (Nat.le_of_ble_eq_true rfl) ?_
  refine xV_aload_n 16 rfl dX3_copyFrom_15 rfl 1 rfl ?_
  refine xV_get (v := .ref 6) 19 rfl dX3_copyFrom_16 f3_15 rfl rfl ?_
  refine xV_iconst 20 rfl dX3_copyFrom_19 xy_i0 ?_
  refine xV_aload_n 21 rfl dX3_copyFrom_20 rfl 0 rfl ?_
  refine xV_get (v := .ref 2) 24 rfl dX3_copyFrom_21 f3_15 rfl rfl ?_
  refine xV_iconst 25 rfl dX3_copyFrom_24 xy_i0 ?_
  refine xV_bipush 27 rfl dX3_copyFrom_25 xy_b8 ?_
  refine xV_acopy (f := c_o_weights) (g := c_weights) (z := 8) (h' := (hPP (va_cpy c_o_list c_list 0 0 8) (va_cpy c_o_weights c_weights 0 0 8) c_drawn c_many c_all c_turns c_o_list c_o_weights c_o_drawn c_o_many c_o_all c_o_turns)) 30 rfl dX3_copyFrom_27 k3_21 (⟨rfl, rfl, rfl⟩) (by decide) (by decide) (by decide) (Nat.le_of_ble_eq_true rfl) (Nat.le_of_ble_eq_true rfl) ?_
  refine xV_aload_n 31 rfl dX3_copyFrom_30 rfl 1 rfl ?_
  refine xV_get (v := .ref 7) 34 rfl dX3_copyFrom_31 f3_18 rfl rfl ?_
  refine xV_iconst 35 rfl dX3_copyFrom_34 xy_i0 ?_
  refine xV_aload_n 36 rfl dX3_copyFrom_35 rfl 0 rfl ?_
  refine xV_get (v := .ref 3) 39 rfl dX3_copyFrom_36 f3_18 rfl rfl ?_
  refine xV_iconst 40 rfl dX3_copyFrom_39 xy_i0 ?_
  refine xV_bipush 42 rfl dX3_copyFrom_40 xy_b8 ?_
  refine xV_acopy (f := c_o_drawn) (g := c_drawn) (z := 8) (h' := (hPP (va_cpy c_o_list c_list 0 0 8) (va_cpy c_o_weights c_weights 0 0 8) (va_cpy c_o_drawn c_drawn 0 0 8) c_many c_all c_turns c_o_list c_o_weights c_o_drawn c_o_many c_o_all c_o_turns)) 45 rfl dX3_copyFrom_42 k3_21 (⟨rfl, rfl, rfl⟩) (by decide) (by decide) (by decide) (Nat.le_of_ble_eq_true rfl) (Nat.le_of_ble_eq_true rfl) ?_
  refine xV_aload_n 46 rfl dX3_copyFrom_45 rfl 0 rfl ?_
  refine xV_aload_n 47 rfl dX3_copyFrom_46 rfl 1 rfl ?_
  refine xV_get (v := .int c_o_many) 50 rfl dX3_copyFrom_47 f3_27 rfl rfl ?_
  refine xV_put (h' := (hPP (va_cpy c_o_list c_list 0 0 8) (va_cpy c_o_weights c_weights 0 0 8) (va_cpy c_o_drawn c_drawn 0 0 8) c_o_many c_all c_turns c_o_list c_o_weights c_o_drawn c_o_many c_o_all c_o_turns)) 53 rfl dX3_copyFrom_50 f3_27 rfl nf3_3 (fun _ => rfl) (fun _ => rfl) (Nat.le_of_ble_eq_true rfl) rfl ?_
  refine xV_aload_n 54 rfl dX3_copyFrom_53 rfl 0 rfl ?_
  refine xV_aload_n 55 rfl dX3_copyFrom_54 rfl 1 rfl ?_
  refine xV_get (v := .int c_o_all) 58 rfl dX3_copyFrom_55 f3_31 rfl rfl ?_
  refine xV_put (h' := (hPP (va_cpy c_o_list c_list 0 0 8) (va_cpy c_o_weights c_weights 0 0 8) (va_cpy c_o_drawn c_drawn 0 0 8) c_o_many c_o_all c_turns c_o_list c_o_weights c_o_drawn c_o_many c_o_all c_o_turns)) 61 rfl dX3_copyFrom_58 f3_31 rfl nf3_4 (fun _ => rfl) (fun _ => rfl) (Nat.le_of_ble_eq_true rfl) rfl ?_
  refine xV_aload_n 62 rfl dX3_copyFrom_61 rfl 0 rfl ?_
  refine xV_aload_n 63 rfl dX3_copyFrom_62 rfl 1 rfl ?_
  refine xV_get (v := .int c_o_turns) 66 rfl dX3_copyFrom_63 f3_34 rfl rfl ?_
  refine xV_put (h' := (hPP (va_cpy c_o_list c_list 0 0 8) (va_cpy c_o_weights c_weights 0 0 8) (va_cpy c_o_drawn c_drawn 0 0 8) c_o_many c_o_all c_o_turns c_o_list c_o_weights c_o_drawn c_o_many c_o_all c_o_turns)) 69 rfl dX3_copyFrom_66 f3_34 rfl nf3_5 (fun _ => rfl) (fun _ => rfl) (Nat.le_of_ble_eq_true rfl) rfl ?_
  obtain rfl := Option.some.inj hf
  exact xV_vret hX dX3_copyFrom_69 (Nat.zero_le _) (Nat.zero_le _)
theorem C3_copyFrom (l : Launch) {c_list : (Nat → Int32)} {c_weights : (Nat → Int32)} {c_drawn : (Nat → Int32)} {c_many : Int32} {c_all : Int32} {c_turns : Int32} {c_o_list : (Nat → Int32)} {c_o_weights : (Nat → Int32)} {c_o_drawn : (Nat → Int32)} {c_o_many : Int32} {c_o_all : Int32} {c_o_turns : Int32}  {v : (Nat → Int32) × (Nat → Int32) × (Nat → Int32) × Int32 × Int32 × Int32} (hf : F3_copyFrom c_list c_weights c_drawn c_many c_all c_turns c_o_list c_o_weights c_o_drawn c_o_many c_o_all c_o_turns = some v) : xCt l yX3_copyFrom none j3_copyFrom [.ref 0, .ref 4] (hPP c_list c_weights c_drawn c_many c_all c_turns c_o_list c_o_weights c_o_drawn c_o_many c_o_all c_o_turns) none (hPP v.1 v.2.1 v.2.2.1 v.2.2.2.1 v.2.2.2.2.1 v.2.2.2.2.2 c_o_list c_o_weights c_o_drawn c_o_many c_o_all c_o_turns) := xCt_of (by decide) rfl (Nat.le_of_ble_eq_true rfl) (fun _ hX => T3_copyFrom hX hf)
theorem m3_copyFrom : xMd yX3_copyFrom RX3 none j3_copyFrom 1 := ⟨List.mem_of_getElem? (i := 214) (by decide +kernel), List.mem_of_getElem? (i := 57) (by decide +kernel), rfl, by decide +kernel⟩
theorem v3_copyFrom : xMv yX3_copyFrom RX3 := ⟨List.mem_of_getElem? (i := 212) (by decide +kernel), List.mem_of_getElem? (i := 213) (by decide +kernel)⟩
theorem xy_in0_8 : vp_in (0 : Int32) 8 := xin_ok (by decide)
theorem dX3_restart_0 : decode cX3_restart 0 = .ok (.aload_n 0, 1) := by decide +kernel
theorem dX3_restart_1 : decode cX3_restart 1 = .ok (.iconst 0, 1) := by decide +kernel
theorem dX3_restart_2 : decode cX3_restart 2 = .ok (.putfield 34, 3) := by decide +kernel
theorem dX3_restart_5 : decode cX3_restart 5 = .ok (.iconst 0, 1) := by decide +kernel
theorem dX3_restart_6 : decode cX3_restart 6 = .ok (.istore_n 1, 1) := by decide +kernel
theorem dX3_restart_7 : decode cX3_restart 7 = .ok (.iload_n 1, 1) := by decide +kernel
theorem dX3_restart_8 : decode cX3_restart 8 = .ok (.bipush 8, 2) := by decide +kernel
theorem dX3_restart_10 : decode cX3_restart 10 = .ok (.if_icmp .ge 16, 3) := by decide +kernel
theorem dX3_restart_13 : decode cX3_restart 13 = .ok (.aload_n 0, 1) := by decide +kernel
theorem dX3_restart_14 : decode cX3_restart 14 = .ok (.getfield 18, 3) := by decide +kernel
theorem dX3_restart_17 : decode cX3_restart 17 = .ok (.iload_n 1, 1) := by decide +kernel
theorem dX3_restart_18 : decode cX3_restart 18 = .ok (.iconst 0, 1) := by decide +kernel
theorem dX3_restart_19 : decode cX3_restart 19 = .ok (.iastore, 1) := by decide +kernel
theorem dX3_restart_20 : decode cX3_restart 20 = .ok (.iinc 1 1, 3) := by decide +kernel
theorem dX3_restart_23 : decode cX3_restart 23 = .ok (.goto (-16), 3) := by decide +kernel
theorem dX3_restart_26 : decode cX3_restart 26 = .ok (.return_, 1) := by decide +kernel
abbrev j3_restart : xJ := (cX3_restart, 2, RX3, 1, 0, 0)
def F3_restart_b7 (z : Nat) (w : Nat) (x1 : Int32) (c_drawn : (Nat → Int32)) (c_turns : Int32) : Option ((Nat → Int32) × Int32) := match w with
  | 0 => none
  | w + 1 => if (8 : Int32) ≤ x1 then (some (c_drawn, c_turns)) else (xg (xin x1 8) (F3_restart_b7 z w (x1 + (1 : Int32)) (upd c_drawn (xn x1) (0 : Int32)) c_turns))
theorem T3_restart_b7 {X : xX} {c_list : (Nat → Int32)} {c_weights : (Nat → Int32)} {c_many : Int32} {c_all : Int32} {z : Nat} {v : (Nat → Int32) × Int32} (hX : xIs (j3_restart) X none none (hP c_list c_weights v.1 c_many c_all v.2)) : ∀ (w : Nat) {x1 : Int32} {c_drawn : (Nat → Int32)} {c_turns : Int32}, F3_restart_b7 z w x1 c_drawn c_turns = some v → xV (j3_restart) X 0 0 (hP c_list c_weights c_drawn c_many c_all c_turns) 7 [(0, .ref 0), (1, .int x1)] [] := by
  intro w
  induction w with
  | zero => intro x1 c_drawn c_turns hf; cases hf
  | succ w ih =>
    intro x1 c_drawn c_turns hf
    unfold F3_restart_b7 at hf
    refine xV_iload_n 8 rfl dX3_restart_7 rfl 1 rfl ?_
    refine xV_bipush 10 rfl dX3_restart_8 xy_b8 ?_
    refine xV_icmp_ge (tgt := 26) 13 rfl dX3_restart_10 (by decide) (fun h10 => ?_) (fun h10 => ?_)
    · have hf := xif_t hf h10
      obtain rfl := Option.some.inj hf
      exact xV_vret hX dX3_restart_26 (Nat.zero_le _) (Nat.zero_le _)
    · have hf := xif_f hf h10
      refine xV_aload_n 14 rfl dX3_restart_13 rfl 0 rfl ?_
      refine xV_get (v := .ref 3) 17 rfl dX3_restart_14 f3_18 rfl rfl ?_
      refine xV_iload_n 18 rfl dX3_restart_17 rfl 1 rfl ?_
      refine xV_iconst 19 rfl dX3_restart_18 xy_i0 ?_
      obtain ⟨hg19, hf⟩ := xg_s hf
      refine xV_iastore (h' := (hP c_list c_weights (upd c_drawn (xn x1) (0 : Int32)) c_many c_all c_turns)) (j := (xn x1)) 20 rfl dX3_restart_19 rfl (xin_ok hg19) rfl rfl ?_
      refine xV_iinc (L' := [(1, .int (x1 + (1 : Int32))), (0, .ref 0)]) 23 rfl dX3_restart_20 1 rfl (xk_inc xy_i1) (xlt rfl) rfl ?_
      refine xV_goto (tgt := 7) dX3_restart_23 (by decide) ?_
      refine xV_sub [1, 0] rfl ?_
      exact ih hf
def F3_restart (z : Nat) (c_drawn : (Nat → Int32)) (c_turns : Int32) : Option ((Nat → Int32) × Int32) :=
  F3_restart_b7 z z (0 : Int32) c_drawn (0 : Int32)
theorem T3_restart {X : xX} {z : Nat} {c_drawn : (Nat → Int32)} {c_turns : Int32} {c_list : (Nat → Int32)} {c_weights : (Nat → Int32)} {c_many : Int32} {c_all : Int32} {v : (Nat → Int32) × Int32} (hX : xIs (j3_restart) X none none (hP c_list c_weights v.1 c_many c_all v.2)) (hf : F3_restart z c_drawn c_turns = some v) : xV (j3_restart) X 0 0 (hP c_list c_weights c_drawn c_many c_all c_turns) 0 [(0, .ref 0)] [] := by
  unfold F3_restart at hf
  refine xV_aload_n 1 rfl dX3_restart_0 rfl 0 rfl ?_
  refine xV_iconst 2 rfl dX3_restart_1 xy_i0 ?_
  refine xV_put (h' := (hP c_list c_weights c_drawn c_many c_all (0 : Int32))) 5 rfl dX3_restart_2 f3_34 rfl nf3_5 (fun _ => rfl) (fun _ => rfl) (Nat.le_of_ble_eq_true rfl) rfl ?_
  refine xV_iconst 6 rfl dX3_restart_5 xy_i0 ?_
  refine xV_istore_n (L' := [(1, .int (0 : Int32)), (0, .ref 0)]) 7 rfl dX3_restart_6 rfl (xlt rfl) rfl ?_
  refine xV_sub [1, 0] rfl ?_
  exact T3_restart_b7 hX _ hf
theorem C3_restart (l : Launch) {z : Nat} {c_drawn : (Nat → Int32)} {c_turns : Int32} {c_list : (Nat → Int32)} {c_weights : (Nat → Int32)} {c_many : Int32} {c_all : Int32} {v : (Nat → Int32) × Int32} (hf : F3_restart z c_drawn c_turns = some v) : xCt l yX3_restart none j3_restart [.ref 0] (hP c_list c_weights c_drawn c_many c_all c_turns) none (hP c_list c_weights v.1 c_many c_all v.2) := xCt_of (by decide) rfl (Nat.le_of_ble_eq_true rfl) (fun _ hX => T3_restart hX hf)
theorem m3_restart : xMd yX3_restart RX3 none j3_restart 0 := ⟨List.mem_of_getElem? (i := 334) (by decide +kernel), List.mem_of_getElem? (i := 57) (by decide +kernel), rfl, by decide +kernel⟩
theorem v3_restart : xMv yX3_restart RX3 := ⟨List.mem_of_getElem? (i := 332) (by decide +kernel), List.mem_of_getElem? (i := 333) (by decide +kernel)⟩
theorem k3_37 : Cond.methodLink RX3 37 yX3_restart ∈ wsL_law0 := List.mem_of_getElem? (i := 331) (by decide +kernel)
theorem dX3_clear_0 : decode cX3_clear 0 = .ok (.aload_n 0, 1) := by decide +kernel
theorem dX3_clear_1 : decode cX3_clear 1 = .ok (.iconst 0, 1) := by decide +kernel
theorem dX3_clear_2 : decode cX3_clear 2 = .ok (.putfield 27, 3) := by decide +kernel
theorem dX3_clear_5 : decode cX3_clear 5 = .ok (.aload_n 0, 1) := by decide +kernel
theorem dX3_clear_6 : decode cX3_clear 6 = .ok (.iconst 0, 1) := by decide +kernel
theorem dX3_clear_7 : decode cX3_clear 7 = .ok (.putfield 31, 3) := by decide +kernel
theorem dX3_clear_10 : decode cX3_clear 10 = .ok (.aload_n 0, 1) := by decide +kernel
theorem dX3_clear_11 : decode cX3_clear 11 = .ok (.invokevirtual 37, 3) := by decide +kernel
theorem dX3_clear_14 : decode cX3_clear 14 = .ok (.return_, 1) := by decide +kernel
abbrev j3_clear : xJ := (cX3_clear, 1, RX3, 2, 0, 0)
def F3_clear (z : Nat) (c_drawn : (Nat → Int32)) (c_many : Int32) (c_all : Int32) (c_turns : Int32) : Option ((Nat → Int32) × Int32 × Int32 × Int32) :=
  (F3_restart z c_drawn c_turns).bind (fun v11 => some (v11.1, (0 : Int32), (0 : Int32), v11.2))
theorem T3_clear {X : xX} {z : Nat} {c_drawn : (Nat → Int32)} {c_many : Int32} {c_all : Int32} {c_turns : Int32} {c_list : (Nat → Int32)} {c_weights : (Nat → Int32)} {v : (Nat → Int32) × Int32 × Int32 × Int32} (hX : xIs (j3_clear) X none none (hP c_list c_weights v.1 v.2.1 v.2.2.1 v.2.2.2)) (hf : F3_clear z c_drawn c_many c_all c_turns = some v) : xV (j3_clear) X 0 0 (hP c_list c_weights c_drawn c_many c_all c_turns) 0 [(0, .ref 0)] [] := by
  unfold F3_clear at hf
  refine xV_aload_n 1 rfl dX3_clear_0 rfl 0 rfl ?_
  refine xV_iconst 2 rfl dX3_clear_1 xy_i0 ?_
  refine xV_put (h' := (hP c_list c_weights c_drawn (0 : Int32) c_all c_turns)) 5 rfl dX3_clear_2 f3_27 rfl nf3_3 (fun _ => rfl) (fun _ => rfl) (Nat.le_of_ble_eq_true rfl) rfl ?_
  refine xV_aload_n 6 rfl dX3_clear_5 rfl 0 rfl ?_
  refine xV_iconst 7 rfl dX3_clear_6 xy_i0 ?_
  refine xV_put (h' := (hP c_list c_weights c_drawn (0 : Int32) (0 : Int32) c_turns)) 10 rfl dX3_clear_7 f3_31 rfl nf3_4 (fun _ => rfl) (fun _ => rfl) (Nat.le_of_ble_eq_true rfl) rfl ?_
  refine xV_aload_n 11 rfl dX3_clear_10 rfl 0 rfl ?_
  obtain ⟨v11, hv11, hf⟩ := xb_s hf
  refine xV_same (rest := []) 14 rfl dX3_clear_11 rfl (C3_restart X.1.2.1 hv11) m3_restart v3_restart k3_37 rfl rfl rfl rfl rfl (Nat.le_of_ble_eq_true rfl) (Nat.le_of_ble_eq_true rfl) (Nat.le_of_ble_eq_true rfl) ⟨Nat.le_refl _, Nat.le_refl _⟩ ?_
  show xV (j3_clear) X 0 0 (hP c_list c_weights v11.1 (0 : Int32) (0 : Int32) v11.2) 14 [(0, .ref 0)] []
  obtain rfl := Option.some.inj hf
  exact xV_vret hX dX3_clear_14 (Nat.zero_le _) (Nat.zero_le _)
theorem C3_clear (l : Launch) {z : Nat} {c_drawn : (Nat → Int32)} {c_many : Int32} {c_all : Int32} {c_turns : Int32} {c_list : (Nat → Int32)} {c_weights : (Nat → Int32)} {v : (Nat → Int32) × Int32 × Int32 × Int32} (hf : F3_clear z c_drawn c_many c_all c_turns = some v) : xCt l yX3_clear none j3_clear [.ref 0] (hP c_list c_weights c_drawn c_many c_all c_turns) none (hP c_list c_weights v.1 v.2.1 v.2.2.1 v.2.2.2) := xCt_of (by decide) rfl (Nat.le_of_ble_eq_true rfl) (fun _ hX => T3_clear hX hf)
theorem m3_clear : xMd yX3_clear RX3 none j3_clear 0 := ⟨List.mem_of_getElem? (i := 330) (by decide +kernel), List.mem_of_getElem? (i := 57) (by decide +kernel), rfl, by decide +kernel⟩
theorem v3_clear : xMv yX3_clear RX3 := ⟨List.mem_of_getElem? (i := 328) (by decide +kernel), List.mem_of_getElem? (i := 329) (by decide +kernel)⟩
theorem xy_im1 : Int32.ofInt (-1) = (-1 : Int32) := by decide
theorem dX3_placeOf_0 : decode cX3_placeOf 0 = .ok (.iconst 0, 1) := by decide +kernel
theorem dX3_placeOf_1 : decode cX3_placeOf 1 = .ok (.istore_n 2, 1) := by decide +kernel
theorem dX3_placeOf_2 : decode cX3_placeOf 2 = .ok (.iload_n 2, 1) := by decide +kernel
theorem dX3_placeOf_3 : decode cX3_placeOf 3 = .ok (.aload_n 0, 1) := by decide +kernel
theorem dX3_placeOf_4 : decode cX3_placeOf 4 = .ok (.getfield 27, 3) := by decide +kernel
theorem dX3_placeOf_7 : decode cX3_placeOf 7 = .ok (.if_icmp .ge 21, 3) := by decide +kernel
theorem dX3_placeOf_10 : decode cX3_placeOf 10 = .ok (.aload_n 0, 1) := by decide +kernel
theorem dX3_placeOf_11 : decode cX3_placeOf 11 = .ok (.getfield 9, 3) := by decide +kernel
theorem dX3_placeOf_14 : decode cX3_placeOf 14 = .ok (.iload_n 2, 1) := by decide +kernel
theorem dX3_placeOf_15 : decode cX3_placeOf 15 = .ok (.iaload, 1) := by decide +kernel
theorem dX3_placeOf_16 : decode cX3_placeOf 16 = .ok (.iload_n 1, 1) := by decide +kernel
theorem dX3_placeOf_17 : decode cX3_placeOf 17 = .ok (.if_icmp .ne 5, 3) := by decide +kernel
theorem dX3_placeOf_20 : decode cX3_placeOf 20 = .ok (.iload_n 2, 1) := by decide +kernel
theorem dX3_placeOf_21 : decode cX3_placeOf 21 = .ok (.ireturn, 1) := by decide +kernel
theorem dX3_placeOf_22 : decode cX3_placeOf 22 = .ok (.iinc 2 1, 3) := by decide +kernel
theorem dX3_placeOf_25 : decode cX3_placeOf 25 = .ok (.goto (-23), 3) := by decide +kernel
theorem dX3_placeOf_28 : decode cX3_placeOf 28 = .ok (.iconst (-1), 1) := by decide +kernel
theorem dX3_placeOf_29 : decode cX3_placeOf 29 = .ok (.ireturn, 1) := by decide +kernel
abbrev j3_placeOf : xJ := (cX3_placeOf, 3, RX3, 1, 0, 0)
def F3_placeOf_b2 (z : Nat) (w : Nat) (x1 : Int32) (x2 : Int32) (c_list : (Nat → Int32)) (c_many : Int32) : Option (Int32) := match w with
  | 0 => none
  | w + 1 => if c_many ≤ x2 then (some ((-1 : Int32))) else (xg (xin x2 8) (if (c_list (xn x2)) = x1 then (some (x2)) else (F3_placeOf_b2 z w x1 (x2 + (1 : Int32)) c_list c_many)))
theorem T3_placeOf_b2 {X : xX} {c_list : (Nat → Int32)} {c_weights : (Nat → Int32)} {c_drawn : (Nat → Int32)} {c_many : Int32} {c_all : Int32} {c_turns : Int32} {z : Nat} {v : Int32} (hX : xIs (j3_placeOf) X ((some .int)) (some (.int v)) (hP c_list c_weights c_drawn c_many c_all c_turns)) : ∀ (w : Nat) {x1 : Int32} {x2 : Int32}, F3_placeOf_b2 z w x1 x2 c_list c_many = some v → xV (j3_placeOf) X 0 0 (hP c_list c_weights c_drawn c_many c_all c_turns) 2 [(0, .ref 0), (1, .int x1), (2, .int x2)] [] := by
  intro w
  induction w with
  | zero => intro x1 x2 hf; cases hf
  | succ w ih =>
    intro x1 x2 hf
    unfold F3_placeOf_b2 at hf
    refine xV_iload_n 3 rfl dX3_placeOf_2 rfl 2 rfl ?_
    refine xV_aload_n 4 rfl dX3_placeOf_3 rfl 0 rfl ?_
    refine xV_get (v := .int c_many) 7 rfl dX3_placeOf_4 f3_27 rfl rfl ?_
    refine xV_icmp_ge (tgt := 28) 10 rfl dX3_placeOf_7 (by decide) (fun h7 => ?_) (fun h7 => ?_)
    · have hf := xif_t hf h7
      refine xV_iconst 29 rfl dX3_placeOf_28 xy_im1 ?_
      obtain rfl := Option.some.inj hf
      exact xV_iret hX dX3_placeOf_29 rfl (Nat.zero_le _) (Nat.zero_le _)
    · have hf := xif_f hf h7
      refine xV_aload_n 11 rfl dX3_placeOf_10 rfl 0 rfl ?_
      refine xV_get (v := .ref 1) 14 rfl dX3_placeOf_11 f3_9 rfl rfl ?_
      refine xV_iload_n 15 rfl dX3_placeOf_14 rfl 2 rfl ?_
      obtain ⟨hg15, hf⟩ := xg_s hf
      refine xV_iaload 16 rfl dX3_placeOf_15 rfl (xin_ok hg15) rfl ?_
      refine xV_iload_n 17 rfl dX3_placeOf_16 rfl 1 rfl ?_
      refine xV_icmp_ne (tgt := 22) 20 rfl dX3_placeOf_17 (by decide) (fun h17 => ?_) (fun h17 => ?_)
      · have hf := xif_f hf h17
        refine xV_iinc (L' := [(2, .int (x2 + (1 : Int32))), (0, .ref 0), (1, .int x1)]) 25 rfl dX3_placeOf_22 2 rfl (xk_inc xy_i1) (xlt rfl) rfl ?_
        refine xV_goto (tgt := 2) dX3_placeOf_25 (by decide) ?_
        refine xV_sub [1, 2, 0] rfl ?_
        exact ih hf
      · have hf := xif_t hf h17
        refine xV_iload_n 21 rfl dX3_placeOf_20 rfl 2 rfl ?_
        obtain rfl := Option.some.inj hf
        exact xV_iret hX dX3_placeOf_21 rfl (Nat.zero_le _) (Nat.zero_le _)
def F3_placeOf (z : Nat) (x1 : Int32) (c_list : (Nat → Int32)) (c_many : Int32) : Option (Int32) :=
  F3_placeOf_b2 z z x1 (0 : Int32) c_list c_many
theorem T3_placeOf {X : xX} {z : Nat} {x1 : Int32} {c_list : (Nat → Int32)} {c_many : Int32} {c_weights : (Nat → Int32)} {c_drawn : (Nat → Int32)} {c_all : Int32} {c_turns : Int32} {v : Int32} (hX : xIs (j3_placeOf) X ((some .int)) (some (.int v)) (hP c_list c_weights c_drawn c_many c_all c_turns)) (hf : F3_placeOf z x1 c_list c_many = some v) : xV (j3_placeOf) X 0 0 (hP c_list c_weights c_drawn c_many c_all c_turns) 0 [(0, .ref 0), (1, .int x1)] [] := by
  unfold F3_placeOf at hf
  refine xV_iconst 1 rfl dX3_placeOf_0 xy_i0 ?_
  refine xV_istore_n (L' := [(2, .int (0 : Int32)), (0, .ref 0), (1, .int x1)]) 2 rfl dX3_placeOf_1 rfl (xlt rfl) rfl ?_
  refine xV_sub [1, 2, 0] rfl ?_
  exact T3_placeOf_b2 hX _ hf
theorem C3_placeOf (l : Launch) {z : Nat} {x1 : Int32} {c_list : (Nat → Int32)} {c_many : Int32} {c_weights : (Nat → Int32)} {c_drawn : (Nat → Int32)} {c_all : Int32} {c_turns : Int32} {v : Int32} (hf : F3_placeOf z x1 c_list c_many = some v) : xCt l yX3_placeOf ((some .int)) j3_placeOf [.ref 0, .int x1] (hP c_list c_weights c_drawn c_many c_all c_turns) (some (.int v)) (hP c_list c_weights c_drawn c_many c_all c_turns) := xCt_of (by decide) rfl (Nat.le_of_ble_eq_true rfl) (fun _ hX => T3_placeOf hX hf)
theorem m3_placeOf : xMd yX3_placeOf RX3 ((some .int)) j3_placeOf 1 := ⟨List.mem_of_getElem? (i := 386) (by decide +kernel), List.mem_of_getElem? (i := 57) (by decide +kernel), rfl, by decide +kernel⟩
theorem v3_placeOf : xMv yX3_placeOf RX3 := ⟨List.mem_of_getElem? (i := 384) (by decide +kernel), List.mem_of_getElem? (i := 385) (by decide +kernel)⟩
theorem k3_40 : Cond.methodLink RX3 40 yX3_placeOf ∈ wsL_law0 := List.mem_of_getElem? (i := 1286) (by decide +kernel)
theorem dX3_weightOf_0 : decode cX3_weightOf 0 = .ok (.aload_n 0, 1) := by decide +kernel
theorem dX3_weightOf_1 : decode cX3_weightOf 1 = .ok (.iload_n 1, 1) := by decide +kernel
theorem dX3_weightOf_2 : decode cX3_weightOf 2 = .ok (.invokevirtual 40, 3) := by decide +kernel
theorem dX3_weightOf_5 : decode cX3_weightOf 5 = .ok (.istore_n 2, 1) := by decide +kernel
theorem dX3_weightOf_6 : decode cX3_weightOf 6 = .ok (.iload_n 2, 1) := by decide +kernel
theorem dX3_weightOf_7 : decode cX3_weightOf 7 = .ok (.iconst (-1), 1) := by decide +kernel
theorem dX3_weightOf_8 : decode cX3_weightOf 8 = .ok (.if_icmp .ne 7, 3) := by decide +kernel
theorem dX3_weightOf_11 : decode cX3_weightOf 11 = .ok (.iconst 0, 1) := by decide +kernel
theorem dX3_weightOf_12 : decode cX3_weightOf 12 = .ok (.goto 9, 3) := by decide +kernel
theorem dX3_weightOf_15 : decode cX3_weightOf 15 = .ok (.aload_n 0, 1) := by decide +kernel
theorem dX3_weightOf_16 : decode cX3_weightOf 16 = .ok (.getfield 15, 3) := by decide +kernel
theorem dX3_weightOf_19 : decode cX3_weightOf 19 = .ok (.iload_n 2, 1) := by decide +kernel
theorem dX3_weightOf_20 : decode cX3_weightOf 20 = .ok (.iaload, 1) := by decide +kernel
theorem dX3_weightOf_21 : decode cX3_weightOf 21 = .ok (.ireturn, 1) := by decide +kernel
abbrev j3_weightOf : xJ := (cX3_weightOf, 3, RX3, 2, 0, 0)
def F3_weightOf (z : Nat) (x1 : Int32) (c_list : (Nat → Int32)) (c_weights : (Nat → Int32)) (c_many : Int32) : Option (Int32) :=
  (F3_placeOf z x1 c_list c_many).bind (fun v2 => if v2 = (-1 : Int32) then (some ((0 : Int32))) else (xg (xin v2 8) (some ((c_weights (xn v2))))))
theorem T3_weightOf {X : xX} {z : Nat} {x1 : Int32} {c_list : (Nat → Int32)} {c_weights : (Nat → Int32)} {c_many : Int32} {c_drawn : (Nat → Int32)} {c_all : Int32} {c_turns : Int32} {v : Int32} (hX : xIs (j3_weightOf) X ((some .int)) (some (.int v)) (hP c_list c_weights c_drawn c_many c_all c_turns)) (hf : F3_weightOf z x1 c_list c_weights c_many = some v) : xV (j3_weightOf) X 0 0 (hP c_list c_weights c_drawn c_many c_all c_turns) 0 [(0, .ref 0), (1, .int x1)] [] := by
  unfold F3_weightOf at hf
  refine xV_aload_n 1 rfl dX3_weightOf_0 rfl 0 rfl ?_
  refine xV_iload_n 2 rfl dX3_weightOf_1 rfl 1 rfl ?_
  obtain ⟨v2, hv2, hf⟩ := xb_s hf
  refine xV_same (rest := []) 5 rfl dX3_weightOf_2 rfl (C3_placeOf X.1.2.1 hv2) m3_placeOf v3_placeOf k3_40 rfl rfl rfl rfl rfl (Nat.le_of_ble_eq_true rfl) (Nat.le_of_ble_eq_true rfl) (Nat.le_of_ble_eq_true rfl) ⟨Nat.le_refl _, Nat.le_refl _⟩ ?_
  show xV (j3_weightOf) X 0 0 (hP c_list c_weights c_drawn c_many c_all c_turns) 5 [(0, .ref 0), (1, .int x1)] [.int v2]
  refine xV_istore_n (L' := [(2, .int v2), (0, .ref 0), (1, .int x1)]) 6 rfl dX3_weightOf_5 rfl (xlt rfl) rfl ?_
  refine xV_iload_n 7 rfl dX3_weightOf_6 rfl 0 rfl ?_
  refine xV_iconst 8 rfl dX3_weightOf_7 xy_im1 ?_
  refine xV_icmp_ne (tgt := 15) 11 rfl dX3_weightOf_8 (by decide) (fun h8 => ?_) (fun h8 => ?_)
  · have hf := xif_f hf h8
    refine xV_aload_n 16 rfl dX3_weightOf_15 rfl 1 rfl ?_
    refine xV_get (v := .ref 2) 19 rfl dX3_weightOf_16 f3_15 rfl rfl ?_
    refine xV_iload_n 20 rfl dX3_weightOf_19 rfl 0 rfl ?_
    obtain ⟨hg20, hf⟩ := xg_s hf
    refine xV_iaload 21 rfl dX3_weightOf_20 rfl (xin_ok hg20) rfl ?_
    obtain rfl := Option.some.inj hf
    exact xV_iret hX dX3_weightOf_21 rfl (Nat.zero_le _) (Nat.zero_le _)
  · have hf := xif_t hf h8
    refine xV_iconst 12 rfl dX3_weightOf_11 xy_i0 ?_
    refine xV_goto (tgt := 21) dX3_weightOf_12 (by decide) ?_
    obtain rfl := Option.some.inj hf
    exact xV_iret hX dX3_weightOf_21 rfl (Nat.zero_le _) (Nat.zero_le _)
theorem C3_weightOf (l : Launch) {z : Nat} {x1 : Int32} {c_list : (Nat → Int32)} {c_weights : (Nat → Int32)} {c_many : Int32} {c_drawn : (Nat → Int32)} {c_all : Int32} {c_turns : Int32} {v : Int32} (hf : F3_weightOf z x1 c_list c_weights c_many = some v) : xCt l yX3_weightOf ((some .int)) j3_weightOf [.ref 0, .int x1] (hP c_list c_weights c_drawn c_many c_all c_turns) (some (.int v)) (hP c_list c_weights c_drawn c_many c_all c_turns) := xCt_of (by decide) rfl (Nat.le_of_ble_eq_true rfl) (fun _ hX => T3_weightOf hX hf)
theorem m3_weightOf : xMd yX3_weightOf RX3 ((some .int)) j3_weightOf 1 := ⟨List.mem_of_getElem? (i := 1285) (by decide +kernel), List.mem_of_getElem? (i := 57) (by decide +kernel), rfl, by decide +kernel⟩
theorem v3_weightOf : xMv yX3_weightOf RX3 := ⟨List.mem_of_getElem? (i := 1283) (by decide +kernel), List.mem_of_getElem? (i := 1284) (by decide +kernel)⟩
theorem dX3_put_0 : decode cX3_put 0 = .ok (.aload_n 0, 1) := by decide +kernel
theorem dX3_put_1 : decode cX3_put 1 = .ok (.getfield 27, 3) := by decide +kernel
theorem dX3_put_4 : decode cX3_put 4 = .ok (.bipush 8, 2) := by decide +kernel
theorem dX3_put_6 : decode cX3_put 6 = .ok (.if_icmp .ge 43, 3) := by decide +kernel
theorem dX3_put_9 : decode cX3_put 9 = .ok (.aload_n 0, 1) := by decide +kernel
theorem dX3_put_10 : decode cX3_put 10 = .ok (.getfield 9, 3) := by decide +kernel
theorem dX3_put_13 : decode cX3_put 13 = .ok (.aload_n 0, 1) := by decide +kernel
theorem dX3_put_14 : decode cX3_put 14 = .ok (.getfield 27, 3) := by decide +kernel
theorem dX3_put_17 : decode cX3_put 17 = .ok (.iload_n 1, 1) := by decide +kernel
theorem dX3_put_18 : decode cX3_put 18 = .ok (.iastore, 1) := by decide +kernel
theorem dX3_put_19 : decode cX3_put 19 = .ok (.aload_n 0, 1) := by decide +kernel
theorem dX3_put_20 : decode cX3_put 20 = .ok (.getfield 15, 3) := by decide +kernel
theorem dX3_put_23 : decode cX3_put 23 = .ok (.aload_n 0, 1) := by decide +kernel
theorem dX3_put_24 : decode cX3_put 24 = .ok (.getfield 27, 3) := by decide +kernel
theorem dX3_put_27 : decode cX3_put 27 = .ok (.iload_n 2, 1) := by decide +kernel
theorem dX3_put_28 : decode cX3_put 28 = .ok (.iastore, 1) := by decide +kernel
theorem dX3_put_29 : decode cX3_put 29 = .ok (.aload_n 0, 1) := by decide +kernel
theorem dX3_put_30 : decode cX3_put 30 = .ok (.dup, 1) := by decide +kernel
theorem dX3_put_31 : decode cX3_put 31 = .ok (.getfield 27, 3) := by decide +kernel
theorem dX3_put_34 : decode cX3_put 34 = .ok (.iconst 1, 1) := by decide +kernel
theorem dX3_put_35 : decode cX3_put 35 = .ok (.iadd, 1) := by decide +kernel
theorem dX3_put_36 : decode cX3_put 36 = .ok (.putfield 27, 3) := by decide +kernel
theorem dX3_put_39 : decode cX3_put 39 = .ok (.aload_n 0, 1) := by decide +kernel
theorem dX3_put_40 : decode cX3_put 40 = .ok (.dup, 1) := by decide +kernel
theorem dX3_put_41 : decode cX3_put 41 = .ok (.getfield 31, 3) := by decide +kernel
theorem dX3_put_44 : decode cX3_put 44 = .ok (.iload_n 2, 1) := by decide +kernel
theorem dX3_put_45 : decode cX3_put 45 = .ok (.iadd, 1) := by decide +kernel
theorem dX3_put_46 : decode cX3_put 46 = .ok (.putfield 31, 3) := by decide +kernel
theorem dX3_put_49 : decode cX3_put 49 = .ok (.return_, 1) := by decide +kernel
abbrev j3_put : xJ := (cX3_put, 3, RX3, 1, 0, 0)
def F3_put (x1 : Int32) (x2 : Int32) (c_list : (Nat → Int32)) (c_weights : (Nat → Int32)) (c_many : Int32) (c_all : Int32) : Option ((Nat → Int32) × (Nat → Int32) × Int32 × Int32) :=
  if (8 : Int32) ≤ c_many then (some (c_list, c_weights, c_many, c_all)) else (xg (xin c_many 8) (xg (xin c_many 8) (some ((upd c_list (xn c_many) x1), (upd c_weights (xn c_many) x2), (c_many + (1 : Int32)), (c_all + x2)))))
theorem T3_put {X : xX} {x1 : Int32} {x2 : Int32} {c_list : (Nat → Int32)} {c_weights : (Nat → Int32)} {c_many : Int32} {c_all : Int32} {c_drawn : (Nat → Int32)} {c_turns : Int32} {v : (Nat → Int32) × (Nat → Int32) × Int32 × Int32} (hX : xIs (j3_put) X none none (hP v.1 v.2.1 c_drawn v.2.2.1 v.2.2.2 c_turns)) (hf : F3_put x1 x2 c_list c_weights c_many c_all = some v) : xV (j3_put) X 0 0 (hP c_list c_weights c_drawn c_many c_all c_turns) 0 [(0, .ref 0), (1, .int x1), (2, .int x2)] [] := by
  unfold F3_put at hf
  refine xV_aload_n 1 rfl dX3_put_0 rfl 0 rfl ?_
  refine xV_get (v := .int c_many) 4 rfl dX3_put_1 f3_27 rfl rfl ?_
  refine xV_bipush 6 rfl dX3_put_4 xy_b8 ?_
  refine xV_icmp_ge (tgt := 49) 9 rfl dX3_put_6 (by decide) (fun h6 => ?_) (fun h6 => ?_)
  · have hf := xif_t hf h6
    obtain rfl := Option.some.inj hf
    exact xV_vret hX dX3_put_49 (Nat.zero_le _) (Nat.zero_le _)
  · have hf := xif_f hf h6
    refine xV_aload_n 10 rfl dX3_put_9 rfl 0 rfl ?_
    refine xV_get (v := .ref 1) 13 rfl dX3_put_10 f3_9 rfl rfl ?_
    refine xV_aload_n 14 rfl dX3_put_13 rfl 0 rfl ?_
    refine xV_get (v := .int c_many) 17 rfl dX3_put_14 f3_27 rfl rfl ?_
    refine xV_iload_n 18 rfl dX3_put_17 rfl 1 rfl ?_
    obtain ⟨hg18, hf⟩ := xg_s hf
    refine xV_iastore (h' := (hP (upd c_list (xn c_many) x1) c_weights c_drawn c_many c_all c_turns)) (j := (xn c_many)) 19 rfl dX3_put_18 rfl (xin_ok hg18) rfl rfl ?_
    refine xV_aload_n 20 rfl dX3_put_19 rfl 0 rfl ?_
    refine xV_get (v := .ref 2) 23 rfl dX3_put_20 f3_15 rfl rfl ?_
    refine xV_aload_n 24 rfl dX3_put_23 rfl 0 rfl ?_
    refine xV_get (v := .int c_many) 27 rfl dX3_put_24 f3_27 rfl rfl ?_
    refine xV_iload_n 28 rfl dX3_put_27 rfl 2 rfl ?_
    obtain ⟨hg28, hf⟩ := xg_s hf
    refine xV_iastore (h' := (hP (upd c_list (xn c_many) x1) (upd c_weights (xn c_many) x2) c_drawn c_many c_all c_turns)) (j := (xn c_many)) 29 rfl dX3_put_28 rfl (xin_ok hg28) rfl rfl ?_
    refine xV_aload_n 30 rfl dX3_put_29 rfl 0 rfl ?_
    refine xV_dup 31 rfl dX3_put_30 rfl ?_
    refine xV_get (v := .int c_many) 34 rfl dX3_put_31 f3_27 rfl rfl ?_
    refine xV_iconst 35 rfl dX3_put_34 xy_i1 ?_
    refine xV_iadd 36 rfl dX3_put_35 ?_
    refine xV_put (h' := (hP (upd c_list (xn c_many) x1) (upd c_weights (xn c_many) x2) c_drawn (c_many + (1 : Int32)) c_all c_turns)) 39 rfl dX3_put_36 f3_27 rfl nf3_3 (fun _ => rfl) (fun _ => rfl) (Nat.le_of_ble_eq_true rfl) rfl ?_
    refine xV_aload_n 40 rfl dX3_put_39 rfl 0 rfl ?_
    refine xV_dup 41 rfl dX3_put_40 rfl ?_
    refine xV_get (v := .int c_all) 44 rfl dX3_put_41 f3_31 rfl rfl ?_
    refine xV_iload_n 45 rfl dX3_put_44 rfl 2 rfl ?_
    refine xV_iadd 46 rfl dX3_put_45 ?_
    refine xV_put (h' := (hP (upd c_list (xn c_many) x1) (upd c_weights (xn c_many) x2) c_drawn (c_many + (1 : Int32)) (c_all + x2) c_turns)) 49 rfl dX3_put_46 f3_31 rfl nf3_4 (fun _ => rfl) (fun _ => rfl) (Nat.le_of_ble_eq_true rfl) rfl ?_
    obtain rfl := Option.some.inj hf
    exact xV_vret hX dX3_put_49 (Nat.zero_le _) (Nat.zero_le _)
theorem C3_put (l : Launch) {x1 : Int32} {x2 : Int32} {c_list : (Nat → Int32)} {c_weights : (Nat → Int32)} {c_many : Int32} {c_all : Int32} {c_drawn : (Nat → Int32)} {c_turns : Int32} {v : (Nat → Int32) × (Nat → Int32) × Int32 × Int32} (hf : F3_put x1 x2 c_list c_weights c_many c_all = some v) : xCt l yX3_put none j3_put [.ref 0, .int x1, .int x2] (hP c_list c_weights c_drawn c_many c_all c_turns) none (hP v.1 v.2.1 c_drawn v.2.2.1 v.2.2.2 c_turns) := xCt_of (by decide) rfl (Nat.le_of_ble_eq_true rfl) (fun _ hX => T3_put hX hf)
theorem m3_put : xMd yX3_put RX3 none j3_put 2 := ⟨List.mem_of_getElem? (i := 394) (by decide +kernel), List.mem_of_getElem? (i := 57) (by decide +kernel), rfl, by decide +kernel⟩
theorem v3_put : xMv yX3_put RX3 := ⟨List.mem_of_getElem? (i := 392) (by decide +kernel), List.mem_of_getElem? (i := 393) (by decide +kernel)⟩
theorem dX3_weigh_0 : decode cX3_weigh 0 = .ok (.aload_n 0, 1) := by decide +kernel
theorem dX3_weigh_1 : decode cX3_weigh 1 = .ok (.dup, 1) := by decide +kernel
theorem dX3_weigh_2 : decode cX3_weigh 2 = .ok (.getfield 31, 3) := by decide +kernel
theorem dX3_weigh_5 : decode cX3_weigh 5 = .ok (.iload_n 2, 1) := by decide +kernel
theorem dX3_weigh_6 : decode cX3_weigh 6 = .ok (.aload_n 0, 1) := by decide +kernel
theorem dX3_weigh_7 : decode cX3_weigh 7 = .ok (.getfield 15, 3) := by decide +kernel
theorem dX3_weigh_10 : decode cX3_weigh 10 = .ok (.iload_n 1, 1) := by decide +kernel
theorem dX3_weigh_11 : decode cX3_weigh 11 = .ok (.iaload, 1) := by decide +kernel
theorem dX3_weigh_12 : decode cX3_weigh 12 = .ok (.isub, 1) := by decide +kernel
theorem dX3_weigh_13 : decode cX3_weigh 13 = .ok (.iadd, 1) := by decide +kernel
theorem dX3_weigh_14 : decode cX3_weigh 14 = .ok (.putfield 31, 3) := by decide +kernel
theorem dX3_weigh_17 : decode cX3_weigh 17 = .ok (.aload_n 0, 1) := by decide +kernel
theorem dX3_weigh_18 : decode cX3_weigh 18 = .ok (.getfield 15, 3) := by decide +kernel
theorem dX3_weigh_21 : decode cX3_weigh 21 = .ok (.iload_n 1, 1) := by decide +kernel
theorem dX3_weigh_22 : decode cX3_weigh 22 = .ok (.iload_n 2, 1) := by decide +kernel
theorem dX3_weigh_23 : decode cX3_weigh 23 = .ok (.iastore, 1) := by decide +kernel
theorem dX3_weigh_24 : decode cX3_weigh 24 = .ok (.return_, 1) := by decide +kernel
abbrev j3_weigh : xJ := (cX3_weigh, 3, RX3, 1, 0, 0)
def F3_weigh (x1 : Int32) (x2 : Int32) (c_weights : (Nat → Int32)) (c_all : Int32) : Option ((Nat → Int32) × Int32) :=
  xg (xin x1 8) (xg (xin x1 8) (some ((upd c_weights (xn x1) x2), (c_all + (x2 - (c_weights (xn x1)))))))
theorem T3_weigh {X : xX} {x1 : Int32} {x2 : Int32} {c_weights : (Nat → Int32)} {c_all : Int32} {c_list : (Nat → Int32)} {c_drawn : (Nat → Int32)} {c_many : Int32} {c_turns : Int32} {v : (Nat → Int32) × Int32} (hX : xIs (j3_weigh) X none none (hP c_list v.1 c_drawn c_many v.2 c_turns)) (hf : F3_weigh x1 x2 c_weights c_all = some v) : xV (j3_weigh) X 0 0 (hP c_list c_weights c_drawn c_many c_all c_turns) 0 [(0, .ref 0), (1, .int x1), (2, .int x2)] [] := by
  unfold F3_weigh at hf
  refine xV_aload_n 1 rfl dX3_weigh_0 rfl 0 rfl ?_
  refine xV_dup 2 rfl dX3_weigh_1 rfl ?_
  refine xV_get (v := .int c_all) 5 rfl dX3_weigh_2 f3_31 rfl rfl ?_
  refine xV_iload_n 6 rfl dX3_weigh_5 rfl 2 rfl ?_
  refine xV_aload_n 7 rfl dX3_weigh_6 rfl 0 rfl ?_
  refine xV_get (v := .ref 2) 10 rfl dX3_weigh_7 f3_15 rfl rfl ?_
  refine xV_iload_n 11 rfl dX3_weigh_10 rfl 1 rfl ?_
  obtain ⟨hg11, hf⟩ := xg_s hf
  refine xV_iaload 12 rfl dX3_weigh_11 rfl (xin_ok hg11) rfl ?_
  refine xV_isub 13 rfl dX3_weigh_12 ?_
  refine xV_iadd 14 rfl dX3_weigh_13 ?_
  refine xV_put (h' := (hP c_list c_weights c_drawn c_many (c_all + (x2 - (c_weights (xn x1)))) c_turns)) 17 rfl dX3_weigh_14 f3_31 rfl nf3_4 (fun _ => rfl) (fun _ => rfl) (Nat.le_of_ble_eq_true rfl) rfl ?_
  refine xV_aload_n 18 rfl dX3_weigh_17 rfl 0 rfl ?_
  refine xV_get (v := .ref 2) 21 rfl dX3_weigh_18 f3_15 rfl rfl ?_
  refine xV_iload_n 22 rfl dX3_weigh_21 rfl 1 rfl ?_
  refine xV_iload_n 23 rfl dX3_weigh_22 rfl 2 rfl ?_
  obtain ⟨hg23, hf⟩ := xg_s hf
  refine xV_iastore (h' := (hP c_list (upd c_weights (xn x1) x2) c_drawn c_many (c_all + (x2 - (c_weights (xn x1)))) c_turns)) (j := (xn x1)) 24 rfl dX3_weigh_23 rfl (xin_ok hg23) rfl rfl ?_
  obtain rfl := Option.some.inj hf
  exact xV_vret hX dX3_weigh_24 (Nat.zero_le _) (Nat.zero_le _)
theorem C3_weigh (l : Launch) {x1 : Int32} {x2 : Int32} {c_weights : (Nat → Int32)} {c_all : Int32} {c_list : (Nat → Int32)} {c_drawn : (Nat → Int32)} {c_many : Int32} {c_turns : Int32} {v : (Nat → Int32) × Int32} (hf : F3_weigh x1 x2 c_weights c_all = some v) : xCt l yX3_weigh none j3_weigh [.ref 0, .int x1, .int x2] (hP c_list c_weights c_drawn c_many c_all c_turns) none (hP c_list v.1 c_drawn c_many v.2 c_turns) := xCt_of (by decide) rfl (Nat.le_of_ble_eq_true rfl) (fun _ hX => T3_weigh hX hf)
theorem m3_weigh : xMd yX3_weigh RX3 none j3_weigh 2 := ⟨List.mem_of_getElem? (i := 1030) (by decide +kernel), List.mem_of_getElem? (i := 57) (by decide +kernel), rfl, by decide +kernel⟩
theorem v3_weigh : xMv yX3_weigh RX3 := ⟨List.mem_of_getElem? (i := 1028) (by decide +kernel), List.mem_of_getElem? (i := 1029) (by decide +kernel)⟩
theorem dX3_drop_0 : decode cX3_drop 0 = .ok (.aload_n 0, 1) := by decide +kernel
theorem dX3_drop_1 : decode cX3_drop 1 = .ok (.dup, 1) := by decide +kernel
theorem dX3_drop_2 : decode cX3_drop 2 = .ok (.getfield 31, 3) := by decide +kernel
theorem dX3_drop_5 : decode cX3_drop 5 = .ok (.aload_n 0, 1) := by decide +kernel
theorem dX3_drop_6 : decode cX3_drop 6 = .ok (.getfield 15, 3) := by decide +kernel
theorem dX3_drop_9 : decode cX3_drop 9 = .ok (.iload_n 1, 1) := by decide +kernel
theorem dX3_drop_10 : decode cX3_drop 10 = .ok (.iaload, 1) := by decide +kernel
theorem dX3_drop_11 : decode cX3_drop 11 = .ok (.isub, 1) := by decide +kernel
theorem dX3_drop_12 : decode cX3_drop 12 = .ok (.putfield 31, 3) := by decide +kernel
theorem dX3_drop_15 : decode cX3_drop 15 = .ok (.aload_n 0, 1) := by decide +kernel
theorem dX3_drop_16 : decode cX3_drop 16 = .ok (.dup, 1) := by decide +kernel
theorem dX3_drop_17 : decode cX3_drop 17 = .ok (.getfield 27, 3) := by decide +kernel
theorem dX3_drop_20 : decode cX3_drop 20 = .ok (.iconst 1, 1) := by decide +kernel
theorem dX3_drop_21 : decode cX3_drop 21 = .ok (.isub, 1) := by decide +kernel
theorem dX3_drop_22 : decode cX3_drop 22 = .ok (.putfield 27, 3) := by decide +kernel
theorem dX3_drop_25 : decode cX3_drop 25 = .ok (.iload_n 1, 1) := by decide +kernel
theorem dX3_drop_26 : decode cX3_drop 26 = .ok (.istore_n 2, 1) := by decide +kernel
theorem dX3_drop_27 : decode cX3_drop 27 = .ok (.iload_n 2, 1) := by decide +kernel
theorem dX3_drop_28 : decode cX3_drop 28 = .ok (.aload_n 0, 1) := by decide +kernel
theorem dX3_drop_29 : decode cX3_drop 29 = .ok (.getfield 27, 3) := by decide +kernel
theorem dX3_drop_32 : decode cX3_drop 32 = .ok (.if_icmp .ge 37, 3) := by decide +kernel
theorem dX3_drop_35 : decode cX3_drop 35 = .ok (.aload_n 0, 1) := by decide +kernel
theorem dX3_drop_36 : decode cX3_drop 36 = .ok (.getfield 9, 3) := by decide +kernel
theorem dX3_drop_39 : decode cX3_drop 39 = .ok (.iload_n 2, 1) := by decide +kernel
theorem dX3_drop_40 : decode cX3_drop 40 = .ok (.aload_n 0, 1) := by decide +kernel
theorem dX3_drop_41 : decode cX3_drop 41 = .ok (.getfield 9, 3) := by decide +kernel
theorem dX3_drop_44 : decode cX3_drop 44 = .ok (.iload_n 2, 1) := by decide +kernel
theorem dX3_drop_45 : decode cX3_drop 45 = .ok (.iconst 1, 1) := by decide +kernel
theorem dX3_drop_46 : decode cX3_drop 46 = .ok (.iadd, 1) := by decide +kernel
theorem dX3_drop_47 : decode cX3_drop 47 = .ok (.iaload, 1) := by decide +kernel
theorem dX3_drop_48 : decode cX3_drop 48 = .ok (.iastore, 1) := by decide +kernel
theorem dX3_drop_49 : decode cX3_drop 49 = .ok (.aload_n 0, 1) := by decide +kernel
theorem dX3_drop_50 : decode cX3_drop 50 = .ok (.getfield 15, 3) := by decide +kernel
theorem dX3_drop_53 : decode cX3_drop 53 = .ok (.iload_n 2, 1) := by decide +kernel
theorem dX3_drop_54 : decode cX3_drop 54 = .ok (.aload_n 0, 1) := by decide +kernel
theorem dX3_drop_55 : decode cX3_drop 55 = .ok (.getfield 15, 3) := by decide +kernel
theorem dX3_drop_58 : decode cX3_drop 58 = .ok (.iload_n 2, 1) := by decide +kernel
theorem dX3_drop_59 : decode cX3_drop 59 = .ok (.iconst 1, 1) := by decide +kernel
theorem dX3_drop_60 : decode cX3_drop 60 = .ok (.iadd, 1) := by decide +kernel
theorem dX3_drop_61 : decode cX3_drop 61 = .ok (.iaload, 1) := by decide +kernel
theorem dX3_drop_62 : decode cX3_drop 62 = .ok (.iastore, 1) := by decide +kernel
theorem dX3_drop_63 : decode cX3_drop 63 = .ok (.iinc 2 1, 3) := by decide +kernel
theorem dX3_drop_66 : decode cX3_drop 66 = .ok (.goto (-39), 3) := by decide +kernel
theorem dX3_drop_69 : decode cX3_drop 69 = .ok (.return_, 1) := by decide +kernel
abbrev j3_drop : xJ := (cX3_drop, 3, RX3, 1, 0, 0)
def F3_drop_b27 (z : Nat) (w : Nat) (x2 : Int32) (c_list : (Nat → Int32)) (c_weights : (Nat → Int32)) (c_many : Int32) (c_all : Int32) : Option ((Nat → Int32) × (Nat → Int32) × Int32 × Int32) := match w with
  | 0 => none
  | w + 1 => if c_many ≤ x2 then (some (c_list, c_weights, c_many, c_all)) else (xg (xin (x2 + (1 : Int32)) 8) (xg (xin x2 8) (xg (xin (x2 + (1 : Int32)) 8) (xg (xin x2 8) (F3_drop_b27 z w (x2 + (1 : Int32)) (upd c_list (xn x2) (c_list (xn (x2 + (1 : Int32))))) (upd c_weights (xn x2) (c_weights (xn (x2 + (1 : Int32))))) c_many c_all)))))
theorem T3_drop_b27 {X : xX} {c_drawn : (Nat → Int32)} {c_turns : Int32} {z : Nat} {v : (Nat → Int32) × (Nat → Int32) × Int32 × Int32} (hX : xIs (j3_drop) X none none (hP v.1 v.2.1 c_drawn v.2.2.1 v.2.2.2 c_turns)) : ∀ (w : Nat) {x2 : Int32} {c_list : (Nat → Int32)} {c_weights : (Nat → Int32)} {c_many : Int32} {c_all : Int32}, F3_drop_b27 z w x2 c_list c_weights c_many c_all = some v → xV (j3_drop) X 0 0 (hP c_list c_weights c_drawn c_many c_all c_turns) 27 [(0, .ref 0), (2, .int x2)] [] := by
  intro w
  induction w with
  | zero => intro x2 c_list c_weights c_many c_all hf; cases hf
  | succ w ih =>
    intro x2 c_list c_weights c_many c_all hf
    unfold F3_drop_b27 at hf
    refine xV_iload_n 28 rfl dX3_drop_27 rfl 1 rfl ?_
    refine xV_aload_n 29 rfl dX3_drop_28 rfl 0 rfl ?_
    refine xV_get (v := .int c_many) 32 rfl dX3_drop_29 f3_27 rfl rfl ?_
    refine xV_icmp_ge (tgt := 69) 35 rfl dX3_drop_32 (by decide) (fun h32 => ?_) (fun h32 => ?_)
    · have hf := xif_t hf h32
      obtain rfl := Option.some.inj hf
      exact xV_vret hX dX3_drop_69 (Nat.zero_le _) (Nat.zero_le _)
    · have hf := xif_f hf h32
      refine xV_aload_n 36 rfl dX3_drop_35 rfl 0 rfl ?_
      refine xV_get (v := .ref 1) 39 rfl dX3_drop_36 f3_9 rfl rfl ?_
      refine xV_iload_n 40 rfl dX3_drop_39 rfl 1 rfl ?_
      refine xV_aload_n 41 rfl dX3_drop_40 rfl 0 rfl ?_
      refine xV_get (v := .ref 1) 44 rfl dX3_drop_41 f3_9 rfl rfl ?_
      refine xV_iload_n 45 rfl dX3_drop_44 rfl 1 rfl ?_
      refine xV_iconst 46 rfl dX3_drop_45 xy_i1 ?_
      refine xV_iadd 47 rfl dX3_drop_46 ?_
      obtain ⟨hg47, hf⟩ := xg_s hf
      refine xV_iaload 48 rfl dX3_drop_47 rfl (xin_ok hg47) rfl ?_
      obtain ⟨hg48, hf⟩ := xg_s hf
      refine xV_iastore (h' := (hP (upd c_list (xn x2) (c_list (xn (x2 + (1 : Int32))))) c_weights c_drawn c_many c_all c_turns)) (j := (xn x2)) 49 rfl dX3_drop_48 rfl (xin_ok hg48) rfl rfl ?_
      refine xV_aload_n 50 rfl dX3_drop_49 rfl 0 rfl ?_
      refine xV_get (v := .ref 2) 53 rfl dX3_drop_50 f3_15 rfl rfl ?_
      refine xV_iload_n 54 rfl dX3_drop_53 rfl 1 rfl ?_
      refine xV_aload_n 55 rfl dX3_drop_54 rfl 0 rfl ?_
      refine xV_get (v := .ref 2) 58 rfl dX3_drop_55 f3_15 rfl rfl ?_
      refine xV_iload_n 59 rfl dX3_drop_58 rfl 1 rfl ?_
      refine xV_iconst 60 rfl dX3_drop_59 xy_i1 ?_
      refine xV_iadd 61 rfl dX3_drop_60 ?_
      obtain ⟨hg61, hf⟩ := xg_s hf
      refine xV_iaload 62 rfl dX3_drop_61 rfl (xin_ok hg61) rfl ?_
      obtain ⟨hg62, hf⟩ := xg_s hf
      refine xV_iastore (h' := (hP (upd c_list (xn x2) (c_list (xn (x2 + (1 : Int32))))) (upd c_weights (xn x2) (c_weights (xn (x2 + (1 : Int32))))) c_drawn c_many c_all c_turns)) (j := (xn x2)) 63 rfl dX3_drop_62 rfl (xin_ok hg62) rfl rfl ?_
      refine xV_iinc (L' := [(2, .int (x2 + (1 : Int32))), (0, .ref 0)]) 66 rfl dX3_drop_63 1 rfl (xk_inc xy_i1) (xlt rfl) rfl ?_
      refine xV_goto (tgt := 27) dX3_drop_66 (by decide) ?_
      refine xV_sub [1, 0] rfl ?_
      exact ih hf
def F3_drop (z : Nat) (x1 : Int32) (c_list : (Nat → Int32)) (c_weights : (Nat → Int32)) (c_many : Int32) (c_all : Int32) : Option ((Nat → Int32) × (Nat → Int32) × Int32 × Int32) :=
  xg (xin x1 8) (F3_drop_b27 z z x1 c_list c_weights (c_many - (1 : Int32)) (c_all - (c_weights (xn x1))))
theorem T3_drop {X : xX} {z : Nat} {x1 : Int32} {c_list : (Nat → Int32)} {c_weights : (Nat → Int32)} {c_many : Int32} {c_all : Int32} {c_drawn : (Nat → Int32)} {c_turns : Int32} {v : (Nat → Int32) × (Nat → Int32) × Int32 × Int32} (hX : xIs (j3_drop) X none none (hP v.1 v.2.1 c_drawn v.2.2.1 v.2.2.2 c_turns)) (hf : F3_drop z x1 c_list c_weights c_many c_all = some v) : xV (j3_drop) X 0 0 (hP c_list c_weights c_drawn c_many c_all c_turns) 0 [(0, .ref 0), (1, .int x1)] [] := by
  unfold F3_drop at hf
  refine xV_aload_n 1 rfl dX3_drop_0 rfl 0 rfl ?_
  refine xV_dup 2 rfl dX3_drop_1 rfl ?_
  refine xV_get (v := .int c_all) 5 rfl dX3_drop_2 f3_31 rfl rfl ?_
  refine xV_aload_n 6 rfl dX3_drop_5 rfl 0 rfl ?_
  refine xV_get (v := .ref 2) 9 rfl dX3_drop_6 f3_15 rfl rfl ?_
  refine xV_iload_n 10 rfl dX3_drop_9 rfl 1 rfl ?_
  obtain ⟨hg10, hf⟩ := xg_s hf
  refine xV_iaload 11 rfl dX3_drop_10 rfl (xin_ok hg10) rfl ?_
  refine xV_isub 12 rfl dX3_drop_11 ?_
  refine xV_put (h' := (hP c_list c_weights c_drawn c_many (c_all - (c_weights (xn x1))) c_turns)) 15 rfl dX3_drop_12 f3_31 rfl nf3_4 (fun _ => rfl) (fun _ => rfl) (Nat.le_of_ble_eq_true rfl) rfl ?_
  refine xV_aload_n 16 rfl dX3_drop_15 rfl 0 rfl ?_
  refine xV_dup 17 rfl dX3_drop_16 rfl ?_
  refine xV_get (v := .int c_many) 20 rfl dX3_drop_17 f3_27 rfl rfl ?_
  refine xV_iconst 21 rfl dX3_drop_20 xy_i1 ?_
  refine xV_isub 22 rfl dX3_drop_21 ?_
  refine xV_put (h' := (hP c_list c_weights c_drawn (c_many - (1 : Int32)) (c_all - (c_weights (xn x1))) c_turns)) 25 rfl dX3_drop_22 f3_27 rfl nf3_3 (fun _ => rfl) (fun _ => rfl) (Nat.le_of_ble_eq_true rfl) rfl ?_
  refine xV_iload_n 26 rfl dX3_drop_25 rfl 1 rfl ?_
  refine xV_istore_n (L' := [(2, .int x1), (0, .ref 0), (1, .int x1)]) 27 rfl dX3_drop_26 rfl (xlt rfl) rfl ?_
  refine xV_sub [1, 0] rfl ?_
  exact T3_drop_b27 hX _ hf
theorem C3_drop (l : Launch) {z : Nat} {x1 : Int32} {c_list : (Nat → Int32)} {c_weights : (Nat → Int32)} {c_many : Int32} {c_all : Int32} {c_drawn : (Nat → Int32)} {c_turns : Int32} {v : (Nat → Int32) × (Nat → Int32) × Int32 × Int32} (hf : F3_drop z x1 c_list c_weights c_many c_all = some v) : xCt l yX3_drop none j3_drop [.ref 0, .int x1] (hP c_list c_weights c_drawn c_many c_all c_turns) none (hP v.1 v.2.1 c_drawn v.2.2.1 v.2.2.2 c_turns) := xCt_of (by decide) rfl (Nat.le_of_ble_eq_true rfl) (fun _ hX => T3_drop hX hf)
theorem m3_drop : xMd yX3_drop RX3 none j3_drop 1 := ⟨List.mem_of_getElem? (i := 1026) (by decide +kernel), List.mem_of_getElem? (i := 57) (by decide +kernel), rfl, by decide +kernel⟩
theorem v3_drop : xMv yX3_drop RX3 := ⟨List.mem_of_getElem? (i := 1024) (by decide +kernel), List.mem_of_getElem? (i := 1025) (by decide +kernel)⟩
theorem dX3_atPart_0 : decode cX3_atPart 0 = .ok (.iload_n 1, 1) := by decide +kernel
theorem dX3_atPart_1 : decode cX3_atPart 1 = .ok (.istore_n 2, 1) := by decide +kernel
theorem dX3_atPart_2 : decode cX3_atPart 2 = .ok (.iconst 0, 1) := by decide +kernel
theorem dX3_atPart_3 : decode cX3_atPart 3 = .ok (.istore_n 3, 1) := by decide +kernel
theorem dX3_atPart_4 : decode cX3_atPart 4 = .ok (.iload_n 3, 1) := by decide +kernel
theorem dX3_atPart_5 : decode cX3_atPart 5 = .ok (.aload_n 0, 1) := by decide +kernel
theorem dX3_atPart_6 : decode cX3_atPart 6 = .ok (.getfield 27, 3) := by decide +kernel
theorem dX3_atPart_9 : decode cX3_atPart 9 = .ok (.iconst 1, 1) := by decide +kernel
theorem dX3_atPart_10 : decode cX3_atPart 10 = .ok (.isub, 1) := by decide +kernel
theorem dX3_atPart_11 : decode cX3_atPart 11 = .ok (.if_icmp .ge 28, 3) := by decide +kernel
theorem dX3_atPart_14 : decode cX3_atPart 14 = .ok (.iload_n 2, 1) := by decide +kernel
theorem dX3_atPart_15 : decode cX3_atPart 15 = .ok (.aload_n 0, 1) := by decide +kernel
theorem dX3_atPart_16 : decode cX3_atPart 16 = .ok (.getfield 15, 3) := by decide +kernel
theorem dX3_atPart_19 : decode cX3_atPart 19 = .ok (.iload_n 3, 1) := by decide +kernel
theorem dX3_atPart_20 : decode cX3_atPart 20 = .ok (.iaload, 1) := by decide +kernel
theorem dX3_atPart_21 : decode cX3_atPart 21 = .ok (.if_icmp .lt 18, 3) := by decide +kernel
theorem dX3_atPart_24 : decode cX3_atPart 24 = .ok (.iload_n 2, 1) := by decide +kernel
theorem dX3_atPart_25 : decode cX3_atPart 25 = .ok (.aload_n 0, 1) := by decide +kernel
theorem dX3_atPart_26 : decode cX3_atPart 26 = .ok (.getfield 15, 3) := by decide +kernel
theorem dX3_atPart_29 : decode cX3_atPart 29 = .ok (.iload_n 3, 1) := by decide +kernel
theorem dX3_atPart_30 : decode cX3_atPart 30 = .ok (.iaload, 1) := by decide +kernel
theorem dX3_atPart_31 : decode cX3_atPart 31 = .ok (.isub, 1) := by decide +kernel
theorem dX3_atPart_32 : decode cX3_atPart 32 = .ok (.istore_n 2, 1) := by decide +kernel
theorem dX3_atPart_33 : decode cX3_atPart 33 = .ok (.iinc 3 1, 3) := by decide +kernel
theorem dX3_atPart_36 : decode cX3_atPart 36 = .ok (.goto (-32), 3) := by decide +kernel
theorem dX3_atPart_39 : decode cX3_atPart 39 = .ok (.aload_n 0, 1) := by decide +kernel
theorem dX3_atPart_40 : decode cX3_atPart 40 = .ok (.getfield 9, 3) := by decide +kernel
theorem dX3_atPart_43 : decode cX3_atPart 43 = .ok (.iload_n 3, 1) := by decide +kernel
theorem dX3_atPart_44 : decode cX3_atPart 44 = .ok (.iaload, 1) := by decide +kernel
theorem dX3_atPart_45 : decode cX3_atPart 45 = .ok (.ireturn, 1) := by decide +kernel
abbrev j3_atPart : xJ := (cX3_atPart, 4, RX3, 1, 0, 0)
def F3_atPart_b39 (z : Nat) (x3 : Int32) (c_list : (Nat → Int32)) (c_weights : (Nat → Int32)) (c_many : Int32) : Option (Int32) :=
  xg (xin x3 8) (some ((c_list (xn x3))))
theorem T3_atPart_b39 {X : xX} {c_drawn : (Nat → Int32)} {c_all : Int32} {c_turns : Int32} {x3 : Int32} {c_list : (Nat → Int32)} {c_weights : (Nat → Int32)} {c_many : Int32} {z : Nat} {v : Int32} (hX : xIs (j3_atPart) X ((some .int)) (some (.int v)) (hP c_list c_weights c_drawn c_many c_all c_turns)) (hf : F3_atPart_b39 z x3 c_list c_weights c_many = some v) : xV (j3_atPart) X 0 0 (hP c_list c_weights c_drawn c_many c_all c_turns) 39 [(0, .ref 0), (3, .int x3)] [] := by
  unfold F3_atPart_b39 at hf
  refine xV_aload_n 40 rfl dX3_atPart_39 rfl 0 rfl ?_
  refine xV_get (v := .ref 1) 43 rfl dX3_atPart_40 f3_9 rfl rfl ?_
  refine xV_iload_n 44 rfl dX3_atPart_43 rfl 1 rfl ?_
  obtain ⟨hg44, hf⟩ := xg_s hf
  refine xV_iaload 45 rfl dX3_atPart_44 rfl (xin_ok hg44) rfl ?_
  obtain rfl := Option.some.inj hf
  exact xV_iret hX dX3_atPart_45 rfl (Nat.zero_le _) (Nat.zero_le _)
def F3_atPart_b4 (z : Nat) (w : Nat) (x2 : Int32) (x3 : Int32) (c_list : (Nat → Int32)) (c_weights : (Nat → Int32)) (c_many : Int32) : Option (Int32) := match w with
  | 0 => none
  | w + 1 => if (c_many - (1 : Int32)) ≤ x3 then (F3_atPart_b39 z x3 c_list c_weights c_many) else (xg (xin x3 8) (if x2 < (c_weights (xn x3)) then (F3_atPart_b39 z x3 c_list c_weights c_many) else (xg (xin x3 8) (F3_atPart_b4 z w (x2 - (c_weights (xn x3))) (x3 + (1 : Int32)) c_list c_weights c_many))))
theorem T3_atPart_b4 {X : xX} {c_list : (Nat → Int32)} {c_weights : (Nat → Int32)} {c_drawn : (Nat → Int32)} {c_many : Int32} {c_all : Int32} {c_turns : Int32} {z : Nat} {v : Int32} (hX : xIs (j3_atPart) X ((some .int)) (some (.int v)) (hP c_list c_weights c_drawn c_many c_all c_turns)) : ∀ (w : Nat) {x2 : Int32} {x3 : Int32}, F3_atPart_b4 z w x2 x3 c_list c_weights c_many = some v → xV (j3_atPart) X 0 0 (hP c_list c_weights c_drawn c_many c_all c_turns) 4 [(0, .ref 0), (2, .int x2), (3, .int x3)] [] := by
  intro w
  induction w with
  | zero => intro x2 x3 hf; cases hf
  | succ w ih =>
    intro x2 x3 hf
    unfold F3_atPart_b4 at hf
    refine xV_iload_n 5 rfl dX3_atPart_4 rfl 2 rfl ?_
    refine xV_aload_n 6 rfl dX3_atPart_5 rfl 0 rfl ?_
    refine xV_get (v := .int c_many) 9 rfl dX3_atPart_6 f3_27 rfl rfl ?_
    refine xV_iconst 10 rfl dX3_atPart_9 xy_i1 ?_
    refine xV_isub 11 rfl dX3_atPart_10 ?_
    refine xV_icmp_ge (tgt := 39) 14 rfl dX3_atPart_11 (by decide) (fun h11 => ?_) (fun h11 => ?_)
    · have hf := xif_t hf h11
      refine xV_sub [0, 2] rfl ?_
      exact T3_atPart_b39 hX hf
    · have hf := xif_f hf h11
      refine xV_iload_n 15 rfl dX3_atPart_14 rfl 1 rfl ?_
      refine xV_aload_n 16 rfl dX3_atPart_15 rfl 0 rfl ?_
      refine xV_get (v := .ref 2) 19 rfl dX3_atPart_16 f3_15 rfl rfl ?_
      refine xV_iload_n 20 rfl dX3_atPart_19 rfl 2 rfl ?_
      obtain ⟨hg20, hf⟩ := xg_s hf
      refine xV_iaload 21 rfl dX3_atPart_20 rfl (xin_ok hg20) rfl ?_
      refine xV_icmp_lt (tgt := 39) 24 rfl dX3_atPart_21 (by decide) (fun h21 => ?_) (fun h21 => ?_)
      · have hf := xif_t hf h21
        refine xV_sub [0, 2] rfl ?_
        exact T3_atPart_b39 hX hf
      · have hf := xif_f hf h21
        refine xV_iload_n 25 rfl dX3_atPart_24 rfl 1 rfl ?_
        refine xV_aload_n 26 rfl dX3_atPart_25 rfl 0 rfl ?_
        refine xV_get (v := .ref 2) 29 rfl dX3_atPart_26 f3_15 rfl rfl ?_
        refine xV_iload_n 30 rfl dX3_atPart_29 rfl 2 rfl ?_
        obtain ⟨hg30, hf⟩ := xg_s hf
        refine xV_iaload 31 rfl dX3_atPart_30 rfl (xin_ok hg30) rfl ?_
        refine xV_isub 32 rfl dX3_atPart_31 ?_
        refine xV_istore_n (L' := [(2, .int (x2 - (c_weights (xn x3)))), (0, .ref 0), (3, .int x3)]) 33 rfl dX3_atPart_32 rfl (xlt rfl) rfl ?_
        refine xV_iinc (L' := [(3, .int (x3 + (1 : Int32))), (2, .int (x2 - (c_weights (xn x3)))), (0, .ref 0)]) 36 rfl dX3_atPart_33 2 rfl (xk_inc xy_i1) (xlt rfl) rfl ?_
        refine xV_goto (tgt := 4) dX3_atPart_36 (by decide) ?_
        refine xV_sub [2, 1, 0] rfl ?_
        exact ih hf
def F3_atPart (z : Nat) (x1 : Int32) (c_list : (Nat → Int32)) (c_weights : (Nat → Int32)) (c_many : Int32) : Option (Int32) :=
  F3_atPart_b4 z z x1 (0 : Int32) c_list c_weights c_many
theorem T3_atPart {X : xX} {z : Nat} {x1 : Int32} {c_list : (Nat → Int32)} {c_weights : (Nat → Int32)} {c_many : Int32} {c_drawn : (Nat → Int32)} {c_all : Int32} {c_turns : Int32} {v : Int32} (hX : xIs (j3_atPart) X ((some .int)) (some (.int v)) (hP c_list c_weights c_drawn c_many c_all c_turns)) (hf : F3_atPart z x1 c_list c_weights c_many = some v) : xV (j3_atPart) X 0 0 (hP c_list c_weights c_drawn c_many c_all c_turns) 0 [(0, .ref 0), (1, .int x1)] [] := by
  unfold F3_atPart at hf
  refine xV_iload_n 1 rfl dX3_atPart_0 rfl 1 rfl ?_
  refine xV_istore_n (L' := [(2, .int x1), (0, .ref 0), (1, .int x1)]) 2 rfl dX3_atPart_1 rfl (xlt rfl) rfl ?_
  refine xV_iconst 3 rfl dX3_atPart_2 xy_i0 ?_
  refine xV_istore_n (L' := [(3, .int (0 : Int32)), (2, .int x1), (0, .ref 0), (1, .int x1)]) 4 rfl dX3_atPart_3 rfl (xlt rfl) rfl ?_
  refine xV_sub [2, 1, 0] rfl ?_
  exact T3_atPart_b4 hX _ hf
theorem C3_atPart (l : Launch) {z : Nat} {x1 : Int32} {c_list : (Nat → Int32)} {c_weights : (Nat → Int32)} {c_many : Int32} {c_drawn : (Nat → Int32)} {c_all : Int32} {c_turns : Int32} {v : Int32} (hf : F3_atPart z x1 c_list c_weights c_many = some v) : xCt l yX3_atPart ((some .int)) j3_atPart [.ref 0, .int x1] (hP c_list c_weights c_drawn c_many c_all c_turns) (some (.int v)) (hP c_list c_weights c_drawn c_many c_all c_turns) := xCt_of (by decide) rfl (Nat.le_of_ble_eq_true rfl) (fun _ hX => T3_atPart hX hf)
theorem m3_atPart : xMd yX3_atPart RX3 ((some .int)) j3_atPart 1 := ⟨List.mem_of_getElem? (i := 1222) (by decide +kernel), List.mem_of_getElem? (i := 57) (by decide +kernel), rfl, by decide +kernel⟩
theorem v3_atPart : xMv yX3_atPart RX3 := ⟨List.mem_of_getElem? (i := 1220) (by decide +kernel), List.mem_of_getElem? (i := 1221) (by decide +kernel)⟩
theorem dX3_owed_0 : decode cX3_owed 0 = .ok (.aload_n 0, 1) := by decide +kernel
theorem dX3_owed_1 : decode cX3_owed 1 = .ok (.getfield 15, 3) := by decide +kernel
theorem dX3_owed_4 : decode cX3_owed 4 = .ok (.iload_n 1, 1) := by decide +kernel
theorem dX3_owed_5 : decode cX3_owed 5 = .ok (.iaload, 1) := by decide +kernel
theorem dX3_owed_6 : decode cX3_owed 6 = .ok (.aload_n 0, 1) := by decide +kernel
theorem dX3_owed_7 : decode cX3_owed 7 = .ok (.getfield 34, 3) := by decide +kernel
theorem dX3_owed_10 : decode cX3_owed 10 = .ok (.imul, 1) := by decide +kernel
theorem dX3_owed_11 : decode cX3_owed 11 = .ok (.aload_n 0, 1) := by decide +kernel
theorem dX3_owed_12 : decode cX3_owed 12 = .ok (.getfield 18, 3) := by decide +kernel
theorem dX3_owed_15 : decode cX3_owed 15 = .ok (.iload_n 1, 1) := by decide +kernel
theorem dX3_owed_16 : decode cX3_owed 16 = .ok (.iaload, 1) := by decide +kernel
theorem dX3_owed_17 : decode cX3_owed 17 = .ok (.aload_n 0, 1) := by decide +kernel
theorem dX3_owed_18 : decode cX3_owed 18 = .ok (.getfield 31, 3) := by decide +kernel
theorem dX3_owed_21 : decode cX3_owed 21 = .ok (.imul, 1) := by decide +kernel
theorem dX3_owed_22 : decode cX3_owed 22 = .ok (.isub, 1) := by decide +kernel
theorem dX3_owed_23 : decode cX3_owed 23 = .ok (.ireturn, 1) := by decide +kernel
abbrev j3_owed : xJ := (cX3_owed, 2, RX3, 1, 0, 0)
def F3_owed (x1 : Int32) (c_weights : (Nat → Int32)) (c_drawn : (Nat → Int32)) (c_all : Int32) (c_turns : Int32) : Option (Int32) :=
  xg (xin x1 8) (xg (xin x1 8) (some ((((c_weights (xn x1)) * c_turns) - ((c_drawn (xn x1)) * c_all)))))
theorem T3_owed {X : xX} {x1 : Int32} {c_weights : (Nat → Int32)} {c_drawn : (Nat → Int32)} {c_all : Int32} {c_turns : Int32} {c_list : (Nat → Int32)} {c_many : Int32} {v : Int32} (hX : xIs (j3_owed) X ((some .int)) (some (.int v)) (hP c_list c_weights c_drawn c_many c_all c_turns)) (hf : F3_owed x1 c_weights c_drawn c_all c_turns = some v) : xV (j3_owed) X 0 0 (hP c_list c_weights c_drawn c_many c_all c_turns) 0 [(0, .ref 0), (1, .int x1)] [] := by
  unfold F3_owed at hf
  refine xV_aload_n 1 rfl dX3_owed_0 rfl 0 rfl ?_
  refine xV_get (v := .ref 2) 4 rfl dX3_owed_1 f3_15 rfl rfl ?_
  refine xV_iload_n 5 rfl dX3_owed_4 rfl 1 rfl ?_
  obtain ⟨hg5, hf⟩ := xg_s hf
  refine xV_iaload 6 rfl dX3_owed_5 rfl (xin_ok hg5) rfl ?_
  refine xV_aload_n 7 rfl dX3_owed_6 rfl 0 rfl ?_
  refine xV_get (v := .int c_turns) 10 rfl dX3_owed_7 f3_34 rfl rfl ?_
  refine xV_imul 11 rfl dX3_owed_10 ?_
  refine xV_aload_n 12 rfl dX3_owed_11 rfl 0 rfl ?_
  refine xV_get (v := .ref 3) 15 rfl dX3_owed_12 f3_18 rfl rfl ?_
  refine xV_iload_n 16 rfl dX3_owed_15 rfl 1 rfl ?_
  obtain ⟨hg16, hf⟩ := xg_s hf
  refine xV_iaload 17 rfl dX3_owed_16 rfl (xin_ok hg16) rfl ?_
  refine xV_aload_n 18 rfl dX3_owed_17 rfl 0 rfl ?_
  refine xV_get (v := .int c_all) 21 rfl dX3_owed_18 f3_31 rfl rfl ?_
  refine xV_imul 22 rfl dX3_owed_21 ?_
  refine xV_isub 23 rfl dX3_owed_22 ?_
  obtain rfl := Option.some.inj hf
  exact xV_iret hX dX3_owed_23 rfl (Nat.zero_le _) (Nat.zero_le _)
theorem C3_owed (l : Launch) {x1 : Int32} {c_weights : (Nat → Int32)} {c_drawn : (Nat → Int32)} {c_all : Int32} {c_turns : Int32} {c_list : (Nat → Int32)} {c_many : Int32} {v : Int32} (hf : F3_owed x1 c_weights c_drawn c_all c_turns = some v) : xCt l yX3_owed ((some .int)) j3_owed [.ref 0, .int x1] (hP c_list c_weights c_drawn c_many c_all c_turns) (some (.int v)) (hP c_list c_weights c_drawn c_many c_all c_turns) := xCt_of (by decide) rfl (Nat.le_of_ble_eq_true rfl) (fun _ hX => T3_owed hX hf)
theorem m3_owed : xMd yX3_owed RX3 ((some .int)) j3_owed 1 := ⟨List.mem_of_getElem? (i := 1212) (by decide +kernel), List.mem_of_getElem? (i := 57) (by decide +kernel), rfl, by decide +kernel⟩
theorem v3_owed : xMv yX3_owed RX3 := ⟨List.mem_of_getElem? (i := 1210) (by decide +kernel), List.mem_of_getElem? (i := 1211) (by decide +kernel)⟩
theorem k3_44 : Cond.methodLink RX3 44 yX3_owed ∈ wsL_law0 := List.mem_of_getElem? (i := 1209) (by decide +kernel)
theorem dX3_byTurns_0 : decode cX3_byTurns 0 = .ok (.aload_n 0, 1) := by decide +kernel
theorem dX3_byTurns_1 : decode cX3_byTurns 1 = .ok (.dup, 1) := by decide +kernel
theorem dX3_byTurns_2 : decode cX3_byTurns 2 = .ok (.getfield 34, 3) := by decide +kernel
theorem dX3_byTurns_5 : decode cX3_byTurns 5 = .ok (.iconst 1, 1) := by decide +kernel
theorem dX3_byTurns_6 : decode cX3_byTurns 6 = .ok (.iadd, 1) := by decide +kernel
theorem dX3_byTurns_7 : decode cX3_byTurns 7 = .ok (.putfield 34, 3) := by decide +kernel
theorem dX3_byTurns_10 : decode cX3_byTurns 10 = .ok (.iconst 0, 1) := by decide +kernel
theorem dX3_byTurns_11 : decode cX3_byTurns 11 = .ok (.istore_n 1, 1) := by decide +kernel
theorem dX3_byTurns_12 : decode cX3_byTurns 12 = .ok (.iconst 1, 1) := by decide +kernel
theorem dX3_byTurns_13 : decode cX3_byTurns 13 = .ok (.istore_n 2, 1) := by decide +kernel
theorem dX3_byTurns_14 : decode cX3_byTurns 14 = .ok (.iload_n 2, 1) := by decide +kernel
theorem dX3_byTurns_15 : decode cX3_byTurns 15 = .ok (.aload_n 0, 1) := by decide +kernel
theorem dX3_byTurns_16 : decode cX3_byTurns 16 = .ok (.getfield 27, 3) := by decide +kernel
theorem dX3_byTurns_19 : decode cX3_byTurns 19 = .ok (.if_icmp .ge 24, 3) := by decide +kernel
theorem dX3_byTurns_22 : decode cX3_byTurns 22 = .ok (.aload_n 0, 1) := by decide +kernel
theorem dX3_byTurns_23 : decode cX3_byTurns 23 = .ok (.iload_n 2, 1) := by decide +kernel
theorem dX3_byTurns_24 : decode cX3_byTurns 24 = .ok (.invokevirtual 44, 3) := by decide +kernel
theorem dX3_byTurns_27 : decode cX3_byTurns 27 = .ok (.aload_n 0, 1) := by decide +kernel
theorem dX3_byTurns_28 : decode cX3_byTurns 28 = .ok (.iload_n 1, 1) := by decide +kernel
theorem dX3_byTurns_29 : decode cX3_byTurns 29 = .ok (.invokevirtual 44, 3) := by decide +kernel
theorem dX3_byTurns_32 : decode cX3_byTurns 32 = .ok (.if_icmp .le 5, 3) := by decide +kernel
theorem dX3_byTurns_35 : decode cX3_byTurns 35 = .ok (.iload_n 2, 1) := by decide +kernel
theorem dX3_byTurns_36 : decode cX3_byTurns 36 = .ok (.istore_n 1, 1) := by decide +kernel
theorem dX3_byTurns_37 : decode cX3_byTurns 37 = .ok (.iinc 2 1, 3) := by decide +kernel
theorem dX3_byTurns_40 : decode cX3_byTurns 40 = .ok (.goto (-26), 3) := by decide +kernel
theorem dX3_byTurns_43 : decode cX3_byTurns 43 = .ok (.aload_n 0, 1) := by decide +kernel
theorem dX3_byTurns_44 : decode cX3_byTurns 44 = .ok (.getfield 18, 3) := by decide +kernel
theorem dX3_byTurns_47 : decode cX3_byTurns 47 = .ok (.iload_n 1, 1) := by decide +kernel
theorem dX3_byTurns_48 : decode cX3_byTurns 48 = .ok (.dup2, 1) := by decide +kernel
theorem dX3_byTurns_49 : decode cX3_byTurns 49 = .ok (.iaload, 1) := by decide +kernel
theorem dX3_byTurns_50 : decode cX3_byTurns 50 = .ok (.iconst 1, 1) := by decide +kernel
theorem dX3_byTurns_51 : decode cX3_byTurns 51 = .ok (.iadd, 1) := by decide +kernel
theorem dX3_byTurns_52 : decode cX3_byTurns 52 = .ok (.iastore, 1) := by decide +kernel
theorem dX3_byTurns_53 : decode cX3_byTurns 53 = .ok (.aload_n 0, 1) := by decide +kernel
theorem dX3_byTurns_54 : decode cX3_byTurns 54 = .ok (.getfield 9, 3) := by decide +kernel
theorem dX3_byTurns_57 : decode cX3_byTurns 57 = .ok (.iload_n 1, 1) := by decide +kernel
theorem dX3_byTurns_58 : decode cX3_byTurns 58 = .ok (.iaload, 1) := by decide +kernel
theorem dX3_byTurns_59 : decode cX3_byTurns 59 = .ok (.ireturn, 1) := by decide +kernel
abbrev j3_byTurns : xJ := (cX3_byTurns, 3, RX3, 2, 0, 0)
def F3_byTurns_b43 (z : Nat) (x1 : Int32) (c_list : (Nat → Int32)) (c_weights : (Nat → Int32)) (c_drawn : (Nat → Int32)) (c_many : Int32) (c_all : Int32) (c_turns : Int32) : Option (Int32 × (Nat → Int32) × Int32) :=
  xg (xin x1 8) (xg (xin x1 8) (xg (xin x1 8) (some ((c_list (xn x1)), (upd c_drawn (xn x1) ((c_drawn (xn x1)) + (1 : Int32))), c_turns))))
theorem T3_byTurns_b43 {X : xX}  {x1 : Int32} {c_list : (Nat → Int32)} {c_weights : (Nat → Int32)} {c_drawn : (Nat → Int32)} {c_many : Int32} {c_all : Int32} {c_turns : Int32} {z : Nat} {v : Int32 × (Nat → Int32) × Int32} (hX : xIs (j3_byTurns) X ((some .int)) (some (.int v.1)) (hP c_list c_weights v.2.1 c_many c_all v.2.2)) (hf : F3_byTurns_b43 z x1 c_list c_weights c_drawn c_many c_all c_turns = some v) : xV (j3_byTurns) X 0 0 (hP c_list c_weights c_drawn c_many c_all c_turns) 43 [(0, .ref 0), (1, .int x1)] [] := by
  unfold F3_byTurns_b43 at hf
  refine xV_aload_n 44 rfl dX3_byTurns_43 rfl 0 rfl ?_
  refine xV_get (v := .ref 3) 47 rfl dX3_byTurns_44 f3_18 rfl rfl ?_
  refine xV_iload_n 48 rfl dX3_byTurns_47 rfl 1 rfl ?_
  refine xV_dup2 49 rfl dX3_byTurns_48 rfl rfl ?_
  obtain ⟨hg49, hf⟩ := xg_s hf
  refine xV_iaload 50 rfl dX3_byTurns_49 rfl (xin_ok hg49) rfl ?_
  refine xV_iconst 51 rfl dX3_byTurns_50 xy_i1 ?_
  refine xV_iadd 52 rfl dX3_byTurns_51 ?_
  obtain ⟨hg52, hf⟩ := xg_s hf
  refine xV_iastore (h' := (hP c_list c_weights (upd c_drawn (xn x1) ((c_drawn (xn x1)) + (1 : Int32))) c_many c_all c_turns)) (j := (xn x1)) 53 rfl dX3_byTurns_52 rfl (xin_ok hg52) rfl rfl ?_
  refine xV_aload_n 54 rfl dX3_byTurns_53 rfl 0 rfl ?_
  refine xV_get (v := .ref 1) 57 rfl dX3_byTurns_54 f3_9 rfl rfl ?_
  refine xV_iload_n 58 rfl dX3_byTurns_57 rfl 1 rfl ?_
  obtain ⟨hg58, hf⟩ := xg_s hf
  refine xV_iaload 59 rfl dX3_byTurns_58 rfl (xin_ok hg58) rfl ?_
  obtain rfl := Option.some.inj hf
  exact xV_iret hX dX3_byTurns_59 rfl (Nat.zero_le _) (Nat.zero_le _)
def F3_byTurns_b37 (z : Nat) (x1 : Int32) (x2 : Int32) (c_list : (Nat → Int32)) (c_weights : (Nat → Int32)) (c_drawn : (Nat → Int32)) (c_many : Int32) (c_all : Int32) (c_turns : Int32) (k14 : Int32 → Int32 → (Nat → Int32) → (Nat → Int32) → (Nat → Int32) → Int32 → Int32 → Int32 → Option (Int32 × (Nat → Int32) × Int32)) : Option (Int32 × (Nat → Int32) × Int32) :=
  k14 x1 (x2 + (1 : Int32)) c_list c_weights c_drawn c_many c_all c_turns
theorem T3_byTurns_b37 {X : xX}  {x1 : Int32} {x2 : Int32} {c_list : (Nat → Int32)} {c_weights : (Nat → Int32)} {c_drawn : (Nat → Int32)} {c_many : Int32} {c_all : Int32} {c_turns : Int32} {z : Nat} {v : Int32 × (Nat → Int32) × Int32} {k14 : Int32 → Int32 → (Nat → Int32) → (Nat → Int32) → (Nat → Int32) → Int32 → Int32 → Int32 → Option (Int32 × (Nat → Int32) × Int32)} (hX : xIs (j3_byTurns) X ((some .int)) (some (.int v.1)) (hP c_list c_weights v.2.1 c_many c_all v.2.2)) (hk14 : ∀ {x1 : Int32} {x2 : Int32} {c_drawn : (Nat → Int32)} {c_turns : Int32}, k14 x1 x2 c_list c_weights c_drawn c_many c_all c_turns = some v → xV (j3_byTurns) X 0 0 (hP c_list c_weights c_drawn c_many c_all c_turns) 14 [(0, .ref 0), (1, .int x1), (2, .int x2)] []) (hf : F3_byTurns_b37 z x1 x2 c_list c_weights c_drawn c_many c_all c_turns k14 = some v) : xV (j3_byTurns) X 0 0 (hP c_list c_weights c_drawn c_many c_all c_turns) 37 [(0, .ref 0), (1, .int x1), (2, .int x2)] [] := by
  unfold F3_byTurns_b37 at hf
  refine xV_iinc (L' := [(2, .int (x2 + (1 : Int32))), (0, .ref 0), (1, .int x1)]) 40 rfl dX3_byTurns_37 2 rfl (xk_inc xy_i1) (xlt rfl) rfl ?_
  refine xV_goto (tgt := 14) dX3_byTurns_40 (by decide) ?_
  refine xV_sub [1, 2, 0] rfl ?_
  exact hk14 hf
def F3_byTurns_b14 (z : Nat) (w : Nat) (x1 : Int32) (x2 : Int32) (c_list : (Nat → Int32)) (c_weights : (Nat → Int32)) (c_drawn : (Nat → Int32)) (c_many : Int32) (c_all : Int32) (c_turns : Int32) : Option (Int32 × (Nat → Int32) × Int32) := match w with
  | 0 => none
  | w + 1 => if c_many ≤ x2 then (F3_byTurns_b43 z x1 c_list c_weights c_drawn c_many c_all c_turns) else ((F3_owed x2 c_weights c_drawn c_all c_turns).bind (fun v24 => (F3_owed x1 c_weights c_drawn c_all c_turns).bind (fun v29 => if v24 ≤ v29 then (F3_byTurns_b37 z x1 x2 c_list c_weights c_drawn c_many c_all c_turns (fun q0 q1 q2 q3 q4 q5 q6 q7 => F3_byTurns_b14 z w q0 q1 q2 q3 q4 q5 q6 q7)) else (F3_byTurns_b37 z x2 x2 c_list c_weights c_drawn c_many c_all c_turns (fun q0 q1 q2 q3 q4 q5 q6 q7 => F3_byTurns_b14 z w q0 q1 q2 q3 q4 q5 q6 q7)))))
theorem T3_byTurns_b14 {X : xX} {c_list : (Nat → Int32)} {c_weights : (Nat → Int32)} {c_many : Int32} {c_all : Int32} {z : Nat} {v : Int32 × (Nat → Int32) × Int32} (hX : xIs (j3_byTurns) X ((some .int)) (some (.int v.1)) (hP c_list c_weights v.2.1 c_many c_all v.2.2)) : ∀ (w : Nat) {x1 : Int32} {x2 : Int32} {c_drawn : (Nat → Int32)} {c_turns : Int32}, F3_byTurns_b14 z w x1 x2 c_list c_weights c_drawn c_many c_all c_turns = some v → xV (j3_byTurns) X 0 0 (hP c_list c_weights c_drawn c_many c_all c_turns) 14 [(0, .ref 0), (1, .int x1), (2, .int x2)] [] := by
  intro w
  induction w with
  | zero => intro x1 x2 c_drawn c_turns hf; cases hf
  | succ w ih =>
    intro x1 x2 c_drawn c_turns hf
    unfold F3_byTurns_b14 at hf
    refine xV_iload_n 15 rfl dX3_byTurns_14 rfl 2 rfl ?_
    refine xV_aload_n 16 rfl dX3_byTurns_15 rfl 0 rfl ?_
    refine xV_get (v := .int c_many) 19 rfl dX3_byTurns_16 f3_27 rfl rfl ?_
    refine xV_icmp_ge (tgt := 43) 22 rfl dX3_byTurns_19 (by decide) (fun h19 => ?_) (fun h19 => ?_)
    · have hf := xif_t hf h19
      refine xV_sub [0, 1] rfl ?_
      exact T3_byTurns_b43 hX hf
    · have hf := xif_f hf h19
      refine xV_aload_n 23 rfl dX3_byTurns_22 rfl 0 rfl ?_
      refine xV_iload_n 24 rfl dX3_byTurns_23 rfl 2 rfl ?_
      obtain ⟨v24, hv24, hf⟩ := xb_s hf
      refine xV_same (rest := []) 27 rfl dX3_byTurns_24 rfl (C3_owed X.1.2.1 hv24) m3_owed v3_owed k3_44 rfl rfl rfl rfl rfl (Nat.le_of_ble_eq_true rfl) (Nat.le_of_ble_eq_true rfl) (Nat.le_of_ble_eq_true rfl) ⟨Nat.le_refl _, Nat.le_refl _⟩ ?_
      show xV (j3_byTurns) X 0 0 (hP c_list c_weights c_drawn c_many c_all c_turns) 27 [(0, .ref 0), (1, .int x1), (2, .int x2)] [.int v24]
      refine xV_aload_n 28 rfl dX3_byTurns_27 rfl 0 rfl ?_
      refine xV_iload_n 29 rfl dX3_byTurns_28 rfl 1 rfl ?_
      obtain ⟨v29, hv29, hf⟩ := xb_s hf
      refine xV_same (rest := [.int v24]) 32 rfl dX3_byTurns_29 rfl (C3_owed X.1.2.1 hv29) m3_owed v3_owed k3_44 rfl rfl rfl rfl rfl (Nat.le_of_ble_eq_true rfl) (Nat.le_of_ble_eq_true rfl) (Nat.le_of_ble_eq_true rfl) ⟨Nat.le_refl _, Nat.le_refl _⟩ ?_
      show xV (j3_byTurns) X 0 0 (hP c_list c_weights c_drawn c_many c_all c_turns) 32 [(0, .ref 0), (1, .int x1), (2, .int x2)] [.int v29, .int v24]
      refine xV_icmp_le (tgt := 37) 35 rfl dX3_byTurns_32 (by decide) (fun h32 => ?_) (fun h32 => ?_)
      · have hf := xif_t hf h32
        exact T3_byTurns_b37 hX (fun {_ _ _ _} hq => ih hq) hf
      · have hf := xif_f hf h32
        refine xV_iload_n 36 rfl dX3_byTurns_35 rfl 2 rfl ?_
        refine xV_istore_n (L' := [(1, .int x2), (0, .ref 0), (2, .int x2)]) 37 rfl dX3_byTurns_36 rfl (xlt rfl) rfl ?_
        refine xV_sub [1, 0, 2] rfl ?_
        exact T3_byTurns_b37 hX (fun {_ _ _ _} hq => ih hq) hf
def F3_byTurns (z : Nat) (c_list : (Nat → Int32)) (c_weights : (Nat → Int32)) (c_drawn : (Nat → Int32)) (c_many : Int32) (c_all : Int32) (c_turns : Int32) : Option (Int32 × (Nat → Int32) × Int32) :=
  F3_byTurns_b14 z z (0 : Int32) (1 : Int32) c_list c_weights c_drawn c_many c_all (c_turns + (1 : Int32))
theorem T3_byTurns {X : xX} {z : Nat} {c_list : (Nat → Int32)} {c_weights : (Nat → Int32)} {c_drawn : (Nat → Int32)} {c_many : Int32} {c_all : Int32} {c_turns : Int32}  {v : Int32 × (Nat → Int32) × Int32} (hX : xIs (j3_byTurns) X ((some .int)) (some (.int v.1)) (hP c_list c_weights v.2.1 c_many c_all v.2.2)) (hf : F3_byTurns z c_list c_weights c_drawn c_many c_all c_turns = some v) : xV (j3_byTurns) X 0 0 (hP c_list c_weights c_drawn c_many c_all c_turns) 0 [(0, .ref 0)] [] := by
  unfold F3_byTurns at hf
  refine xV_aload_n 1 rfl dX3_byTurns_0 rfl 0 rfl ?_
  refine xV_dup 2 rfl dX3_byTurns_1 rfl ?_
  refine xV_get (v := .int c_turns) 5 rfl dX3_byTurns_2 f3_34 rfl rfl ?_
  refine xV_iconst 6 rfl dX3_byTurns_5 xy_i1 ?_
  refine xV_iadd 7 rfl dX3_byTurns_6 ?_
  refine xV_put (h' := (hP c_list c_weights c_drawn c_many c_all (c_turns + (1 : Int32)))) 10 rfl dX3_byTurns_7 f3_34 rfl nf3_5 (fun _ => rfl) (fun _ => rfl) (Nat.le_of_ble_eq_true rfl) rfl ?_
  refine xV_iconst 11 rfl dX3_byTurns_10 xy_i0 ?_
  refine xV_istore_n (L' := [(1, .int (0 : Int32)), (0, .ref 0)]) 12 rfl dX3_byTurns_11 rfl (xlt rfl) rfl ?_
  refine xV_iconst 13 rfl dX3_byTurns_12 xy_i1 ?_
  refine xV_istore_n (L' := [(2, .int (1 : Int32)), (1, .int (0 : Int32)), (0, .ref 0)]) 14 rfl dX3_byTurns_13 rfl (xlt rfl) rfl ?_
  refine xV_sub [2, 1, 0] rfl ?_
  exact T3_byTurns_b14 hX _ hf
theorem C3_byTurns (l : Launch) {z : Nat} {c_list : (Nat → Int32)} {c_weights : (Nat → Int32)} {c_drawn : (Nat → Int32)} {c_many : Int32} {c_all : Int32} {c_turns : Int32}  {v : Int32 × (Nat → Int32) × Int32} (hf : F3_byTurns z c_list c_weights c_drawn c_many c_all c_turns = some v) : xCt l yX3_byTurns ((some .int)) j3_byTurns [.ref 0] (hP c_list c_weights c_drawn c_many c_all c_turns) (some (.int v.1)) (hP c_list c_weights v.2.1 c_many c_all v.2.2) := xCt_of (by decide) rfl (Nat.le_of_ble_eq_true rfl) (fun _ hX => T3_byTurns hX hf)
theorem m3_byTurns : xMd yX3_byTurns RX3 ((some .int)) j3_byTurns 0 := ⟨List.mem_of_getElem? (i := 1208) (by decide +kernel), List.mem_of_getElem? (i := 57) (by decide +kernel), rfl, by decide +kernel⟩
theorem v3_byTurns : xMv yX3_byTurns RX3 := ⟨List.mem_of_getElem? (i := 1206) (by decide +kernel), List.mem_of_getElem? (i := 1207) (by decide +kernel)⟩
theorem xy_b120 : (Int8.ofInt (120)).toInt32 = (120 : Int32) := by decide
theorem xy_in0_120 : vp_in (0 : Int32) 120 := xin_ok (by decide)
theorem f2_15 : xFl RX2 15 2 1 := ⟨_, rfl, by decide, List.mem_of_getElem? (i := 404) (by decide +kernel)⟩
theorem nf2_1 : ∀ q : vw_C, vwCl[2]? = some q → (q.2.1 1).2.2.2 = false := fun q e => by cases e; rfl
theorem f2_9 : xFl RX2 9 2 0 := ⟨_, rfl, by decide, List.mem_of_getElem? (i := 93) (by decide +kernel)⟩
theorem dX2_clear_0 : decode cX2_clear 0 = .ok (.aload_n 0, 1) := by decide +kernel
theorem dX2_clear_1 : decode cX2_clear 1 = .ok (.iconst 0, 1) := by decide +kernel
theorem dX2_clear_2 : decode cX2_clear 2 = .ok (.putfield 15, 3) := by decide +kernel
theorem dX2_clear_5 : decode cX2_clear 5 = .ok (.iconst 0, 1) := by decide +kernel
theorem dX2_clear_6 : decode cX2_clear 6 = .ok (.istore_n 1, 1) := by decide +kernel
theorem dX2_clear_7 : decode cX2_clear 7 = .ok (.iload_n 1, 1) := by decide +kernel
theorem dX2_clear_8 : decode cX2_clear 8 = .ok (.bipush 120, 2) := by decide +kernel
theorem dX2_clear_10 : decode cX2_clear 10 = .ok (.if_icmp .ge 16, 3) := by decide +kernel
theorem dX2_clear_13 : decode cX2_clear 13 = .ok (.aload_n 0, 1) := by decide +kernel
theorem dX2_clear_14 : decode cX2_clear 14 = .ok (.getfield 9, 3) := by decide +kernel
theorem dX2_clear_17 : decode cX2_clear 17 = .ok (.iload_n 1, 1) := by decide +kernel
theorem dX2_clear_18 : decode cX2_clear 18 = .ok (.iconst 0, 1) := by decide +kernel
theorem dX2_clear_19 : decode cX2_clear 19 = .ok (.iastore, 1) := by decide +kernel
theorem dX2_clear_20 : decode cX2_clear 20 = .ok (.iinc 1 1, 3) := by decide +kernel
theorem dX2_clear_23 : decode cX2_clear 23 = .ok (.goto (-16), 3) := by decide +kernel
theorem dX2_clear_26 : decode cX2_clear 26 = .ok (.return_, 1) := by decide +kernel
abbrev j2_clear : xJ := (cX2_clear, 2, RX2, 1, 0, 0)
def F2_clear_b7 (z : Nat) (w : Nat) (x1 : Int32) (c_seen : (Nat → Int32)) (c_many : Int32) : Option ((Nat → Int32) × Int32) := match w with
  | 0 => none
  | w + 1 => if (120 : Int32) ≤ x1 then (some (c_seen, c_many)) else (xg (xin x1 120) (F2_clear_b7 z w (x1 + (1 : Int32)) (upd c_seen (xn x1) (0 : Int32)) c_many))
theorem T2_clear_b7 {X : xX}  {z : Nat} {v : (Nat → Int32) × Int32} (hX : xIs (j2_clear) X none none (hNt v.1 v.2)) : ∀ (w : Nat) {x1 : Int32} {c_seen : (Nat → Int32)} {c_many : Int32}, F2_clear_b7 z w x1 c_seen c_many = some v → xV (j2_clear) X 0 0 (hNt c_seen c_many) 7 [(0, .ref 0), (1, .int x1)] [] := by
  intro w
  induction w with
  | zero => intro x1 c_seen c_many hf; cases hf
  | succ w ih =>
    intro x1 c_seen c_many hf
    unfold F2_clear_b7 at hf
    refine xV_iload_n 8 rfl dX2_clear_7 rfl 1 rfl ?_
    refine xV_bipush 10 rfl dX2_clear_8 xy_b120 ?_
    refine xV_icmp_ge (tgt := 26) 13 rfl dX2_clear_10 (by decide) (fun h10 => ?_) (fun h10 => ?_)
    · have hf := xif_t hf h10
      obtain rfl := Option.some.inj hf
      exact xV_vret hX dX2_clear_26 (Nat.zero_le _) (Nat.zero_le _)
    · have hf := xif_f hf h10
      refine xV_aload_n 14 rfl dX2_clear_13 rfl 0 rfl ?_
      refine xV_get (v := .ref 1) 17 rfl dX2_clear_14 f2_9 rfl rfl ?_
      refine xV_iload_n 18 rfl dX2_clear_17 rfl 1 rfl ?_
      refine xV_iconst 19 rfl dX2_clear_18 xy_i0 ?_
      obtain ⟨hg19, hf⟩ := xg_s hf
      refine xV_iastore (h' := (hNt (upd c_seen (xn x1) (0 : Int32)) c_many)) (j := (xn x1)) 20 rfl dX2_clear_19 rfl (xin_ok hg19) rfl rfl ?_
      refine xV_iinc (L' := [(1, .int (x1 + (1 : Int32))), (0, .ref 0)]) 23 rfl dX2_clear_20 1 rfl (xk_inc xy_i1) (xlt rfl) rfl ?_
      refine xV_goto (tgt := 7) dX2_clear_23 (by decide) ?_
      refine xV_sub [1, 0] rfl ?_
      exact ih hf
def F2_clear (z : Nat) (c_seen : (Nat → Int32)) (c_many : Int32) : Option ((Nat → Int32) × Int32) :=
  F2_clear_b7 z z (0 : Int32) c_seen (0 : Int32)
theorem T2_clear {X : xX} {z : Nat} {c_seen : (Nat → Int32)} {c_many : Int32}  {v : (Nat → Int32) × Int32} (hX : xIs (j2_clear) X none none (hNt v.1 v.2)) (hf : F2_clear z c_seen c_many = some v) : xV (j2_clear) X 0 0 (hNt c_seen c_many) 0 [(0, .ref 0)] [] := by
  unfold F2_clear at hf
  refine xV_aload_n 1 rfl dX2_clear_0 rfl 0 rfl ?_
  refine xV_iconst 2 rfl dX2_clear_1 xy_i0 ?_
  refine xV_put (h' := (hNt c_seen (0 : Int32))) 5 rfl dX2_clear_2 f2_15 rfl nf2_1 (fun _ => rfl) (fun _ => rfl) (Nat.le_of_ble_eq_true rfl) rfl ?_
  refine xV_iconst 6 rfl dX2_clear_5 xy_i0 ?_
  refine xV_istore_n (L' := [(1, .int (0 : Int32)), (0, .ref 0)]) 7 rfl dX2_clear_6 rfl (xlt rfl) rfl ?_
  refine xV_sub [1, 0] rfl ?_
  exact T2_clear_b7 hX _ hf
theorem C2_clear (l : Launch) {z : Nat} {c_seen : (Nat → Int32)} {c_many : Int32}  {v : (Nat → Int32) × Int32} (hf : F2_clear z c_seen c_many = some v) : xCt l yX2_clear none j2_clear [.ref 0] (hNt c_seen c_many) none (hNt v.1 v.2) := xCt_of (by decide) rfl (Nat.le_of_ble_eq_true rfl) (fun _ hX => T2_clear hX hf)
theorem m2_clear : xMd yX2_clear RX2 none j2_clear 0 := ⟨List.mem_of_getElem? (i := 403) (by decide +kernel), List.mem_of_getElem? (i := 26) (by decide +kernel), rfl, by decide +kernel⟩
theorem v2_clear : xMv yX2_clear RX2 := ⟨List.mem_of_getElem? (i := 401) (by decide +kernel), List.mem_of_getElem? (i := 402) (by decide +kernel)⟩
theorem dX2_put_0 : decode cX2_put 0 = .ok (.aload_n 0, 1) := by decide +kernel
theorem dX2_put_1 : decode cX2_put 1 = .ok (.getfield 9, 3) := by decide +kernel
theorem dX2_put_4 : decode cX2_put 4 = .ok (.iload_n 1, 1) := by decide +kernel
theorem dX2_put_5 : decode cX2_put 5 = .ok (.dup2, 1) := by decide +kernel
theorem dX2_put_6 : decode cX2_put 6 = .ok (.iaload, 1) := by decide +kernel
theorem dX2_put_7 : decode cX2_put 7 = .ok (.iconst 1, 1) := by decide +kernel
theorem dX2_put_8 : decode cX2_put 8 = .ok (.iadd, 1) := by decide +kernel
theorem dX2_put_9 : decode cX2_put 9 = .ok (.iastore, 1) := by decide +kernel
theorem dX2_put_10 : decode cX2_put 10 = .ok (.aload_n 0, 1) := by decide +kernel
theorem dX2_put_11 : decode cX2_put 11 = .ok (.dup, 1) := by decide +kernel
theorem dX2_put_12 : decode cX2_put 12 = .ok (.getfield 15, 3) := by decide +kernel
theorem dX2_put_15 : decode cX2_put 15 = .ok (.iconst 1, 1) := by decide +kernel
theorem dX2_put_16 : decode cX2_put 16 = .ok (.iadd, 1) := by decide +kernel
theorem dX2_put_17 : decode cX2_put 17 = .ok (.putfield 15, 3) := by decide +kernel
theorem dX2_put_20 : decode cX2_put 20 = .ok (.return_, 1) := by decide +kernel
abbrev j2_put : xJ := (cX2_put, 2, RX2, 1, 0, 0)
def F2_put (x1 : Int32) (c_seen : (Nat → Int32)) (c_many : Int32) : Option ((Nat → Int32) × Int32) :=
  xg (xin x1 120) (xg (xin x1 120) (some ((upd c_seen (xn x1) ((c_seen (xn x1)) + (1 : Int32))), (c_many + (1 : Int32)))))
theorem T2_put {X : xX} {x1 : Int32} {c_seen : (Nat → Int32)} {c_many : Int32}  {v : (Nat → Int32) × Int32} (hX : xIs (j2_put) X none none (hNt v.1 v.2)) (hf : F2_put x1 c_seen c_many = some v) : xV (j2_put) X 0 0 (hNt c_seen c_many) 0 [(0, .ref 0), (1, .int x1)] [] := by
  unfold F2_put at hf
  refine xV_aload_n 1 rfl dX2_put_0 rfl 0 rfl ?_
  refine xV_get (v := .ref 1) 4 rfl dX2_put_1 f2_9 rfl rfl ?_
  refine xV_iload_n 5 rfl dX2_put_4 rfl 1 rfl ?_
  refine xV_dup2 6 rfl dX2_put_5 rfl rfl ?_
  obtain ⟨hg6, hf⟩ := xg_s hf
  refine xV_iaload 7 rfl dX2_put_6 rfl (xin_ok hg6) rfl ?_
  refine xV_iconst 8 rfl dX2_put_7 xy_i1 ?_
  refine xV_iadd 9 rfl dX2_put_8 ?_
  obtain ⟨hg9, hf⟩ := xg_s hf
  refine xV_iastore (h' := (hNt (upd c_seen (xn x1) ((c_seen (xn x1)) + (1 : Int32))) c_many)) (j := (xn x1)) 10 rfl dX2_put_9 rfl (xin_ok hg9) rfl rfl ?_
  refine xV_aload_n 11 rfl dX2_put_10 rfl 0 rfl ?_
  refine xV_dup 12 rfl dX2_put_11 rfl ?_
  refine xV_get (v := .int c_many) 15 rfl dX2_put_12 f2_15 rfl rfl ?_
  refine xV_iconst 16 rfl dX2_put_15 xy_i1 ?_
  refine xV_iadd 17 rfl dX2_put_16 ?_
  refine xV_put (h' := (hNt (upd c_seen (xn x1) ((c_seen (xn x1)) + (1 : Int32))) (c_many + (1 : Int32)))) 20 rfl dX2_put_17 f2_15 rfl nf2_1 (fun _ => rfl) (fun _ => rfl) (Nat.le_of_ble_eq_true rfl) rfl ?_
  obtain rfl := Option.some.inj hf
  exact xV_vret hX dX2_put_20 (Nat.zero_le _) (Nat.zero_le _)
theorem C2_put (l : Launch) {x1 : Int32} {c_seen : (Nat → Int32)} {c_many : Int32}  {v : (Nat → Int32) × Int32} (hf : F2_put x1 c_seen c_many = some v) : xCt l yX2_put none j2_put [.ref 0, .int x1] (hNt c_seen c_many) none (hNt v.1 v.2) := xCt_of (by decide) rfl (Nat.le_of_ble_eq_true rfl) (fun _ hX => T2_put hX hf)
theorem m2_put : xMd yX2_put RX2 none j2_put 1 := ⟨List.mem_of_getElem? (i := 1257) (by decide +kernel), List.mem_of_getElem? (i := 26) (by decide +kernel), rfl, by decide +kernel⟩
theorem v2_put : xMv yX2_put RX2 := ⟨List.mem_of_getElem? (i := 1255) (by decide +kernel), List.mem_of_getElem? (i := 1256) (by decide +kernel)⟩
theorem dX9_isSide_0 : decode cX9_isSide 0 = .ok (.iload_n 0, 1) := by decide +kernel
theorem dX9_isSide_1 : decode cX9_isSide 1 = .ok (.ifCond .eq 8, 3) := by decide +kernel
theorem dX9_isSide_4 : decode cX9_isSide 4 = .ok (.iload_n 0, 1) := by decide +kernel
theorem dX9_isSide_5 : decode cX9_isSide 5 = .ok (.iconst 1, 1) := by decide +kernel
theorem dX9_isSide_6 : decode cX9_isSide 6 = .ok (.if_icmp .ne 7, 3) := by decide +kernel
theorem dX9_isSide_9 : decode cX9_isSide 9 = .ok (.iconst 1, 1) := by decide +kernel
theorem dX9_isSide_10 : decode cX9_isSide 10 = .ok (.goto 4, 3) := by decide +kernel
theorem dX9_isSide_13 : decode cX9_isSide 13 = .ok (.iconst 0, 1) := by decide +kernel
theorem dX9_isSide_14 : decode cX9_isSide 14 = .ok (.ireturn, 1) := by decide +kernel
abbrev j9_isSide : xJ := (cX9_isSide, 1, RX9, 1, 0, 0)
def F9_isSide (x0 : Int32) : Option (Int32) :=
  if x0 = 0 then (some ((1 : Int32))) else (if x0 = (1 : Int32) then (some ((1 : Int32))) else (some ((0 : Int32))))
theorem T9_isSide {X : xX} {x0 : Int32}  {v : Int32} (hX : xIs (j9_isSide) X ((some .boolean)) (some (.int v)) ([] : xHp)) (hf : F9_isSide x0 = some v) : xV (j9_isSide) X 0 0 ([] : xHp) 0 [(0, .int x0)] [] := by
  unfold F9_isSide at hf
  refine xV_iload_n 1 rfl dX9_isSide_0 rfl 0 rfl ?_
  refine xV_if_eq (tgt := 9) 4 rfl dX9_isSide_1 (by decide) (fun h1 => ?_) (fun h1 => ?_)
  · have hf := xif_t hf h1
    refine xV_iconst 10 rfl dX9_isSide_9 xy_i1 ?_
    refine xV_goto (tgt := 14) dX9_isSide_10 (by decide) ?_
    obtain rfl := Option.some.inj hf
    exact xV_iret hX dX9_isSide_14 (xbo_ok rfl) (Nat.zero_le _) (Nat.zero_le _)
  · have hf := xif_f hf h1
    refine xV_iload_n 5 rfl dX9_isSide_4 rfl 0 rfl ?_
    refine xV_iconst 6 rfl dX9_isSide_5 xy_i1 ?_
    refine xV_icmp_ne (tgt := 13) 9 rfl dX9_isSide_6 (by decide) (fun h6 => ?_) (fun h6 => ?_)
    · have hf := xif_f hf h6
      refine xV_iconst 14 rfl dX9_isSide_13 xy_i0 ?_
      obtain rfl := Option.some.inj hf
      exact xV_iret hX dX9_isSide_14 (xbo_ok rfl) (Nat.zero_le _) (Nat.zero_le _)
    · have hf := xif_t hf h6
      refine xV_iconst 10 rfl dX9_isSide_9 xy_i1 ?_
      refine xV_goto (tgt := 14) dX9_isSide_10 (by decide) ?_
      obtain rfl := Option.some.inj hf
      exact xV_iret hX dX9_isSide_14 (xbo_ok rfl) (Nat.zero_le _) (Nat.zero_le _)
theorem C9_isSide (l : Launch) {x0 : Int32}  {v : Int32} (hf : F9_isSide x0 = some v) : xCt l yX9_isSide ((some .boolean)) j9_isSide [.int x0] ([] : xHp) (some (.int v)) ([] : xHp) := xCt_of (by decide) rfl (Nat.le_of_ble_eq_true rfl) (fun _ hX => T9_isSide hX hf)
theorem m9_isSide : xMd yX9_isSide RX9 ((some .boolean)) j9_isSide 1 := ⟨List.mem_of_getElem? (i := 356) (by decide +kernel), List.mem_of_getElem? (i := 2) (by decide +kernel), rfl, by decide +kernel⟩
theorem s9_isSide : Cond.static yX9_isSide ∈ wsL_law0 := List.mem_of_getElem? (i := 355) (by decide +kernel)
theorem dX9_isPart_0 : decode cX9_isPart 0 = .ok (.iload_n 0, 1) := by decide +kernel
theorem dX9_isPart_1 : decode cX9_isPart 1 = .ok (.ifCond .eq 8, 3) := by decide +kernel
theorem dX9_isPart_4 : decode cX9_isPart 4 = .ok (.iload_n 0, 1) := by decide +kernel
theorem dX9_isPart_5 : decode cX9_isPart 5 = .ok (.iconst 1, 1) := by decide +kernel
theorem dX9_isPart_6 : decode cX9_isPart 6 = .ok (.if_icmp .ne 7, 3) := by decide +kernel
theorem dX9_isPart_9 : decode cX9_isPart 9 = .ok (.iconst 1, 1) := by decide +kernel
theorem dX9_isPart_10 : decode cX9_isPart 10 = .ok (.goto 4, 3) := by decide +kernel
theorem dX9_isPart_13 : decode cX9_isPart 13 = .ok (.iconst 0, 1) := by decide +kernel
theorem dX9_isPart_14 : decode cX9_isPart 14 = .ok (.ireturn, 1) := by decide +kernel
abbrev j9_isPart : xJ := (cX9_isPart, 1, RX9, 1, 0, 0)
def F9_isPart (x0 : Int32) : Option (Int32) :=
  if x0 = 0 then (some ((1 : Int32))) else (if x0 = (1 : Int32) then (some ((1 : Int32))) else (some ((0 : Int32))))
theorem T9_isPart {X : xX} {x0 : Int32}  {v : Int32} (hX : xIs (j9_isPart) X ((some .boolean)) (some (.int v)) ([] : xHp)) (hf : F9_isPart x0 = some v) : xV (j9_isPart) X 0 0 ([] : xHp) 0 [(0, .int x0)] [] := by
  unfold F9_isPart at hf
  refine xV_iload_n 1 rfl dX9_isPart_0 rfl 0 rfl ?_
  refine xV_if_eq (tgt := 9) 4 rfl dX9_isPart_1 (by decide) (fun h1 => ?_) (fun h1 => ?_)
  · have hf := xif_t hf h1
    refine xV_iconst 10 rfl dX9_isPart_9 xy_i1 ?_
    refine xV_goto (tgt := 14) dX9_isPart_10 (by decide) ?_
    obtain rfl := Option.some.inj hf
    exact xV_iret hX dX9_isPart_14 (xbo_ok rfl) (Nat.zero_le _) (Nat.zero_le _)
  · have hf := xif_f hf h1
    refine xV_iload_n 5 rfl dX9_isPart_4 rfl 0 rfl ?_
    refine xV_iconst 6 rfl dX9_isPart_5 xy_i1 ?_
    refine xV_icmp_ne (tgt := 13) 9 rfl dX9_isPart_6 (by decide) (fun h6 => ?_) (fun h6 => ?_)
    · have hf := xif_f hf h6
      refine xV_iconst 14 rfl dX9_isPart_13 xy_i0 ?_
      obtain rfl := Option.some.inj hf
      exact xV_iret hX dX9_isPart_14 (xbo_ok rfl) (Nat.zero_le _) (Nat.zero_le _)
    · have hf := xif_t hf h6
      refine xV_iconst 10 rfl dX9_isPart_9 xy_i1 ?_
      refine xV_goto (tgt := 14) dX9_isPart_10 (by decide) ?_
      obtain rfl := Option.some.inj hf
      exact xV_iret hX dX9_isPart_14 (xbo_ok rfl) (Nat.zero_le _) (Nat.zero_le _)
theorem C9_isPart (l : Launch) {x0 : Int32}  {v : Int32} (hf : F9_isPart x0 = some v) : xCt l yX9_isPart ((some .boolean)) j9_isPart [.int x0] ([] : xHp) (some (.int v)) ([] : xHp) := xCt_of (by decide) rfl (Nat.le_of_ble_eq_true rfl) (fun _ hX => T9_isPart hX hf)
theorem m9_isPart : xMd yX9_isPart RX9 ((some .boolean)) j9_isPart 1 := ⟨List.mem_of_getElem? (i := 848) (by decide +kernel), List.mem_of_getElem? (i := 2) (by decide +kernel), rfl, by decide +kernel⟩
theorem s9_isPart : Cond.static yX9_isPart ∈ wsL_law0 := List.mem_of_getElem? (i := 847) (by decide +kernel)
theorem xy_s200 : (Int16.ofInt (200)).toInt32 = (200 : Int32) := by decide
theorem k9_324 : Cond.methodLink RX9 324 Lib.MathLoose.abs_long.x ∈ wsL_law0 := List.mem_of_getElem? (i := 916) (by decide +kernel)
theorem dX9_lowest_0 : decode cX9_lowest 0 = .ok (.lload_n 2, 1) := by decide +kernel
theorem dX9_lowest_1 : decode cX9_lowest 1 = .ok (.lstore 5, 2) := by decide +kernel
theorem dX9_lowest_3 : decode cX9_lowest 3 = .ok (.lload_n 0, 1) := by decide +kernel
theorem dX9_lowest_4 : decode cX9_lowest 4 = .ok (.invokestatic 324, 3) := by decide +kernel
theorem dX9_lowest_7 : decode cX9_lowest 7 = .ok (.lstore 7, 2) := by decide +kernel
theorem dX9_lowest_9 : decode cX9_lowest 9 = .ok (.iconst 0, 1) := by decide +kernel
theorem dX9_lowest_10 : decode cX9_lowest 10 = .ok (.istore 9, 2) := by decide +kernel
theorem dX9_lowest_12 : decode cX9_lowest 12 = .ok (.iload 9, 2) := by decide +kernel
theorem dX9_lowest_14 : decode cX9_lowest 14 = .ok (.sipush 200, 3) := by decide +kernel
theorem dX9_lowest_17 : decode cX9_lowest 17 = .ok (.if_icmp .ge 31, 3) := by decide +kernel
theorem dX9_lowest_20 : decode cX9_lowest 20 = .ok (.lload 7, 2) := by decide +kernel
theorem dX9_lowest_22 : decode cX9_lowest 22 = .ok (.lconst 0, 1) := by decide +kernel
theorem dX9_lowest_23 : decode cX9_lowest 23 = .ok (.lcmp, 1) := by decide +kernel
theorem dX9_lowest_24 : decode cX9_lowest 24 = .ok (.ifCond .eq 24, 3) := by decide +kernel
theorem dX9_lowest_27 : decode cX9_lowest 27 = .ok (.lload 5, 2) := by decide +kernel
theorem dX9_lowest_29 : decode cX9_lowest 29 = .ok (.lload 7, 2) := by decide +kernel
theorem dX9_lowest_31 : decode cX9_lowest 31 = .ok (.lrem, 1) := by decide +kernel
theorem dX9_lowest_32 : decode cX9_lowest 32 = .ok (.lstore 10, 2) := by decide +kernel
theorem dX9_lowest_34 : decode cX9_lowest 34 = .ok (.lload 7, 2) := by decide +kernel
theorem dX9_lowest_36 : decode cX9_lowest 36 = .ok (.lstore 5, 2) := by decide +kernel
theorem dX9_lowest_38 : decode cX9_lowest 38 = .ok (.lload 10, 2) := by decide +kernel
theorem dX9_lowest_40 : decode cX9_lowest 40 = .ok (.lstore 7, 2) := by decide +kernel
theorem dX9_lowest_42 : decode cX9_lowest 42 = .ok (.iinc 9 1, 3) := by decide +kernel
theorem dX9_lowest_45 : decode cX9_lowest 45 = .ok (.goto (-33), 3) := by decide +kernel
theorem dX9_lowest_48 : decode cX9_lowest 48 = .ok (.lload 5, 2) := by decide +kernel
theorem dX9_lowest_50 : decode cX9_lowest 50 = .ok (.lconst 0, 1) := by decide +kernel
theorem dX9_lowest_51 : decode cX9_lowest 51 = .ok (.lcmp, 1) := by decide +kernel
theorem dX9_lowest_52 : decode cX9_lowest 52 = .ok (.ifCond .ne 5, 3) := by decide +kernel
theorem dX9_lowest_55 : decode cX9_lowest 55 = .ok (.iconst 0, 1) := by decide +kernel
theorem dX9_lowest_56 : decode cX9_lowest 56 = .ok (.ireturn, 1) := by decide +kernel
theorem dX9_lowest_57 : decode cX9_lowest 57 = .ok (.iload 4, 2) := by decide +kernel
theorem dX9_lowest_59 : decode cX9_lowest 59 = .ok (.ifCond .ne 7, 3) := by decide +kernel
theorem dX9_lowest_62 : decode cX9_lowest 62 = .ok (.lload_n 0, 1) := by decide +kernel
theorem dX9_lowest_63 : decode cX9_lowest 63 = .ok (.goto 4, 3) := by decide +kernel
theorem dX9_lowest_66 : decode cX9_lowest 66 = .ok (.lload_n 2, 1) := by decide +kernel
theorem dX9_lowest_67 : decode cX9_lowest 67 = .ok (.lload 5, 2) := by decide +kernel
theorem dX9_lowest_69 : decode cX9_lowest 69 = .ok (.ldiv, 1) := by decide +kernel
theorem dX9_lowest_70 : decode cX9_lowest 70 = .ok (.l2i, 1) := by decide +kernel
theorem dX9_lowest_71 : decode cX9_lowest 71 = .ok (.ireturn, 1) := by decide +kernel
abbrev j9_lowest : xJ := (cX9_lowest, 12, RX9, 1, 0, 0)
def F9_lowest_b67 (z : Nat) (x5 : Int64) (s0 : Int64) : Option (Int32) :=
  xg (xnzl x5) (some (((s0 / x5)).toInt32))
theorem T9_lowest_b67 {X : xX}  {x5 : Int64} {s0 : Int64} {z : Nat} {v : Int32} (hX : xIs (j9_lowest) X ((some .int)) (some (.int v)) ([] : xHp)) (hf : F9_lowest_b67 z x5 s0 = some v) : xV (j9_lowest) X 0 0 ([] : xHp) 67 [(5, .long x5)] [.long s0] := by
  unfold F9_lowest_b67 at hf
  refine xV_lload 69 rfl dX9_lowest_67 0 rfl ?_
  obtain ⟨hg69, hf⟩ := xg_s hf
  refine xV_ldiv 70 rfl dX9_lowest_69 (xnzl_ok hg69) ?_
  refine xV_l2i 71 rfl dX9_lowest_70 ?_
  obtain rfl := Option.some.inj hf
  exact xV_iret hX dX9_lowest_71 rfl (Nat.zero_le _) (Nat.zero_le _)
def F9_lowest_b48 (z : Nat) (x0 : Int64) (x2 : Int64) (x4 : Int32) (x5 : Int64) : Option (Int32) :=
  if (lg_cmp x5 (0 : Int64)) = 0 then (some ((0 : Int32))) else (if x4 = 0 then (F9_lowest_b67 z x5 x0) else (F9_lowest_b67 z x5 x2))
theorem T9_lowest_b48 {X : xX}  {x0 : Int64} {x2 : Int64} {x4 : Int32} {x5 : Int64} {z : Nat} {v : Int32} (hX : xIs (j9_lowest) X ((some .int)) (some (.int v)) ([] : xHp)) (hf : F9_lowest_b48 z x0 x2 x4 x5 = some v) : xV (j9_lowest) X 0 0 ([] : xHp) 48 [(0, .long x0), (2, .long x2), (4, .int x4), (5, .long x5)] [] := by
  unfold F9_lowest_b48 at hf
  refine xV_lload 50 rfl dX9_lowest_48 3 rfl ?_
  refine xV_lconst (v := 0) 51 rfl dX9_lowest_50 (by decide) ?_
  refine xV_lcmp 52 rfl dX9_lowest_51 ?_
  refine xV_if_ne (tgt := 57) 55 rfl dX9_lowest_52 (by decide) (fun h52 => ?_) (fun h52 => ?_)
  · have hf := xif_f hf h52
    refine xV_iload 59 rfl dX9_lowest_57 2 rfl ?_
    refine xV_if_ne (tgt := 66) 62 rfl dX9_lowest_59 (by decide) (fun h59 => ?_) (fun h59 => ?_)
    · have hf := xif_f hf h59
      refine xV_lload_n 67 rfl dX9_lowest_66 rfl 1 rfl ?_
      refine xV_sub [3] rfl ?_
      exact T9_lowest_b67 hX hf
    · have hf := xif_t hf h59
      refine xV_lload_n 63 rfl dX9_lowest_62 rfl 0 rfl ?_
      refine xV_goto (tgt := 67) dX9_lowest_63 (by decide) ?_
      refine xV_sub [3] rfl ?_
      exact T9_lowest_b67 hX hf
  · have hf := xif_t hf h52
    refine xV_iconst 56 rfl dX9_lowest_55 xy_i0 ?_
    obtain rfl := Option.some.inj hf
    exact xV_iret hX dX9_lowest_56 rfl (Nat.zero_le _) (Nat.zero_le _)
def F9_lowest_b12 (z : Nat) (w : Nat) (x0 : Int64) (x2 : Int64) (x4 : Int32) (x5 : Int64) (x7 : Int64) (x9 : Int32) : Option (Int32) := match w with
  | 0 => none
  | w + 1 => if (200 : Int32) ≤ x9 then (F9_lowest_b48 z x0 x2 x4 x5) else (if (lg_cmp x7 (0 : Int64)) = 0 then (F9_lowest_b48 z x0 x2 x4 x5) else (xg (xnzl x7) (F9_lowest_b12 z w x0 x2 x4 x7 (x5 - x5 / x7 * x7) (x9 + (1 : Int32)))))
theorem T9_lowest_b12 {X : xX}  {z : Nat} {v : Int32} (hX : xIs (j9_lowest) X ((some .int)) (some (.int v)) ([] : xHp)) : ∀ (w : Nat) {x0 : Int64} {x2 : Int64} {x4 : Int32} {x5 : Int64} {x7 : Int64} {x9 : Int32}, F9_lowest_b12 z w x0 x2 x4 x5 x7 x9 = some v → xV (j9_lowest) X 0 0 ([] : xHp) 12 [(0, .long x0), (2, .long x2), (4, .int x4), (5, .long x5), (7, .long x7), (9, .int x9)] [] := by
  intro w
  induction w with
  | zero => intro x0 x2 x4 x5 x7 x9 hf; cases hf
  | succ w ih =>
    intro x0 x2 x4 x5 x7 x9 hf
    unfold F9_lowest_b12 at hf
    refine xV_iload 14 rfl dX9_lowest_12 5 rfl ?_
    refine xV_sipush 17 rfl dX9_lowest_14 xy_s200 ?_
    refine xV_icmp_ge (tgt := 48) 20 rfl dX9_lowest_17 (by decide) (fun h17 => ?_) (fun h17 => ?_)
    · have hf := xif_t hf h17
      refine xV_sub [0, 1, 2, 3] rfl ?_
      exact T9_lowest_b48 hX hf
    · have hf := xif_f hf h17
      refine xV_lload 22 rfl dX9_lowest_20 4 rfl ?_
      refine xV_lconst (v := 0) 23 rfl dX9_lowest_22 (by decide) ?_
      refine xV_lcmp 24 rfl dX9_lowest_23 ?_
      refine xV_if_eq (tgt := 48) 27 rfl dX9_lowest_24 (by decide) (fun h24 => ?_) (fun h24 => ?_)
      · have hf := xif_t hf h24
        refine xV_sub [0, 1, 2, 3] rfl ?_
        exact T9_lowest_b48 hX hf
      · have hf := xif_f hf h24
        refine xV_lload 29 rfl dX9_lowest_27 3 rfl ?_
        refine xV_lload 31 rfl dX9_lowest_29 4 rfl ?_
        obtain ⟨hg31, hf⟩ := xg_s hf
        refine xV_lrem 32 rfl dX9_lowest_31 (xnzl_ok hg31) ?_
        refine xV_lstore (L' := [(10, .long (x5 - x5 / x7 * x7)), (0, .long x0), (2, .long x2), (4, .int x4), (5, .long x5), (7, .long x7), (9, .int x9)]) 34 rfl dX9_lowest_32 (xlt rfl) rfl ?_
        refine xV_lload 36 rfl dX9_lowest_34 5 rfl ?_
        refine xV_lstore (L' := [(5, .long x7), (10, .long (x5 - x5 / x7 * x7)), (0, .long x0), (2, .long x2), (4, .int x4), (7, .long x7), (9, .int x9)]) 38 rfl dX9_lowest_36 (xlt rfl) rfl ?_
        refine xV_lload 40 rfl dX9_lowest_38 1 rfl ?_
        refine xV_lstore (L' := [(7, .long (x5 - x5 / x7 * x7)), (5, .long x7), (10, .long (x5 - x5 / x7 * x7)), (0, .long x0), (2, .long x2), (4, .int x4), (9, .int x9)]) 42 rfl dX9_lowest_40 (xlt rfl) rfl ?_
        refine xV_iinc (L' := [(9, .int (x9 + (1 : Int32))), (7, .long (x5 - x5 / x7 * x7)), (5, .long x7), (10, .long (x5 - x5 / x7 * x7)), (0, .long x0), (2, .long x2), (4, .int x4)]) 45 rfl dX9_lowest_42 6 rfl (xk_inc xy_i1) (xlt rfl) rfl ?_
        refine xV_goto (tgt := 12) dX9_lowest_45 (by decide) ?_
        refine xV_sub [4, 5, 6, 2, 1, 0] rfl ?_
        exact ih hf
def F9_lowest (z : Nat) (x0 : Int64) (x2 : Int64) (x4 : Int32) : Option (Int32) :=
  F9_lowest_b12 z z x0 x2 x4 x2 (if 0 < x0 then x0 else -x0) (0 : Int32)
theorem T9_lowest {X : xX} {z : Nat} {x0 : Int64} {x2 : Int64} {x4 : Int32}  {v : Int32} (hX : xIs (j9_lowest) X ((some .int)) (some (.int v)) ([] : xHp)) (hf : F9_lowest z x0 x2 x4 = some v) : xV (j9_lowest) X 0 0 ([] : xHp) 0 [(0, .long x0), (2, .long x2), (4, .int x4)] [] := by
  unfold F9_lowest at hf
  refine xV_lload_n 1 rfl dX9_lowest_0 rfl 1 rfl ?_
  refine xV_lstore (L' := [(5, .long x2), (0, .long x0), (2, .long x2), (4, .int x4)]) 3 rfl dX9_lowest_1 (xlt rfl) rfl ?_
  refine xV_lload_n 4 rfl dX9_lowest_3 rfl 1 rfl ?_
  refine xV_mabsl 7 rfl dX9_lowest_4 k9_324 (Nat.le_of_ble_eq_true rfl) (Nat.le_of_ble_eq_true rfl) (Nat.zero_le _) (Nat.zero_le _) ?_
  refine xV_lstore (L' := [(7, .long (if 0 < x0 then x0 else -x0)), (5, .long x2), (0, .long x0), (2, .long x2), (4, .int x4)]) 9 rfl dX9_lowest_7 (xlt rfl) rfl ?_
  refine xV_iconst 10 rfl dX9_lowest_9 xy_i0 ?_
  refine xV_istore (L' := [(9, .int (0 : Int32)), (7, .long (if 0 < x0 then x0 else -x0)), (5, .long x2), (0, .long x0), (2, .long x2), (4, .int x4)]) 12 rfl dX9_lowest_10 (xlt rfl) rfl ?_
  refine xV_sub [3, 4, 5, 2, 1, 0] rfl ?_
  exact T9_lowest_b12 hX _ hf
theorem C9_lowest (l : Launch) {z : Nat} {x0 : Int64} {x2 : Int64} {x4 : Int32}  {v : Int32} (hf : F9_lowest z x0 x2 x4 = some v) : xCt l yX9_lowest ((some .int)) j9_lowest [.long x0, .long x2, .int x4] ([] : xHp) (some (.int v)) ([] : xHp) := xCt_of (by decide) rfl (Nat.le_of_ble_eq_true rfl) (fun _ hX => T9_lowest hX hf)
theorem m9_lowest : xMd yX9_lowest RX9 ((some .int)) j9_lowest 3 := ⟨List.mem_of_getElem? (i := 915) (by decide +kernel), List.mem_of_getElem? (i := 2) (by decide +kernel), rfl, by decide +kernel⟩
theorem s9_lowest : Cond.static yX9_lowest ∈ wsL_law0 := List.mem_of_getElem? (i := 914) (by decide +kernel)
