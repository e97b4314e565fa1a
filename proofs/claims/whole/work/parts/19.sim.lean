theorem sim_add {A B : St} (h : Rel A B) (x1 x2 x3 x4 x5 x6 : Int32) : ∃ (r : Int32) (A2 : St) (B2 : St), f_X5_add x1 x2 x3 x4 x5 x6 A = some (r, A2) ∧ f_X6_add x1 x2 x3 x4 x5 x6 B = some (r, B2) ∧ Rel A2 B2 := SM_add h x1 x2 x3 x4 x5 x6
theorem sim_of {A B : St} (h : Rel A B) (x1 x2 : Int32) : ∃ (r : Int32) (A2 : St) (B2 : St), f_X5_of x1 x2 A = some (r, A2) ∧ f_X6_of x1 x2 B = some (r, B2) ∧ Rel A2 B2 := SM_of h x1 x2
theorem sim_change {A B : St} (h : Rel A B) (x1 x2 x3 : Int32) : ∃ (r : Int32) (A2 : St) (B2 : St), f_X5_change x1 x2 x3 A = some (r, A2) ∧ f_X6_change x1 x2 x3 B = some (r, B2) ∧ Rel A2 B2 := SM_change h x1 x2 x3
theorem sim_drop {A B : St} (h : Rel A B) : ∃ (r : Int32) (A2 : St) (B2 : St), f_X5_drop A = some (r, A2) ∧ f_X6_drop B = some (r, B2) ∧ Rel A2 B2 := SM_drop h
theorem sim_as {A B : St} (h : Rel A B) (x1 x2 : Int32) : ∃ (r : Int32) (A2 : St) (B2 : St), f_X5_as x1 x2 A = some (r, A2) ∧ f_X6_as x1 x2 B = some (r, B2) ∧ Rel A2 B2 := SM_as h x1 x2
theorem sim_enemy {A B : St} (h : Rel A B) (x1 x2 x3 : Int32) (hx : x3 = 0 ∨ x3 = 1) : ∃ (r : Int32) (A2 : St) (B2 : St), f_X5_enemy x1 x2 x3 A = some (r, A2) ∧ f_X6_enemy x1 x2 x3 B = some (r, B2) ∧ Rel A2 B2 := SM_enemy h x1 x2 x3 hx
theorem sim_slope {A B : St} (h : Rel A B) (x1 : Int32) : ∃ (r : Int32) (A2 : St) (B2 : St), f_X5_slope x1 A = some (r, A2) ∧ f_X6_slope x1 B = some (r, B2) ∧ Rel A2 B2 := SM_slope h x1
theorem sim_tells {A B : St} (h : Rel A B) (x1 x2 : Int32) : ∃ (r : Int64) (A2 : St) (B2 : St), f_X5_tells x1 x2 A = some (r, A2) ∧ f_X6_tells x1 x2 B = some (r, B2) ∧ Rel A2 B2 := SM_tells h x1 x2
theorem sim_chance {A B : St} (h : Rel A B) (x1 x2 : Int32) : ∃ (r : Int64) (A2 : St) (B2 : St), f_X5_chance x1 x2 A = some (r, A2) ∧ f_X6_chance x1 x2 B = some (r, B2) ∧ Rel A2 B2 := SM_chance h x1 x2
theorem sim_aim {A B : St} (h : Rel A B) (x1 x2 x3 : Int32) : ∃ (r : Int32) (A2 : St) (B2 : St), f_X5_aim x1 x2 x3 A = some (r, A2) ∧ f_X6_aim x1 x2 x3 B = some (r, B2) ∧ Rel A2 B2 := SM_aim h x1 x2 x3
theorem sim_value {A B : St} (h : Rel A B) (x1 : Int32) : ∃ (r : Int64) (A2 : St) (B2 : St), f_X5_value x1 A = some (r, A2) ∧ f_X6_value x1 B = some (r, B2) ∧ Rel A2 B2 := SM_value h x1
theorem sim_worth {A B : St} (h : Rel A B) (x1 : Int32) : ∃ (r : Int32) (A2 : St) (B2 : St), f_X5_worth x1 A = some (r, A2) ∧ f_X6_worth x1 B = some (r, B2) ∧ Rel A2 B2 := SM_worth h x1
theorem sim_peak {A B : St} (h : Rel A B) (x1 x2 x3 : Int32) : ∃ (r : Int32) (A2 : St) (B2 : St), f_X5_peak x1 x2 x3 A = some (r, A2) ∧ f_X6_peak x1 x2 x3 B = some (r, B2) ∧ Rel A2 B2 := SM_peak h x1 x2 x3
theorem sim_topic {A B : St} (h : Rel A B) (x1 x2 x3 : Int32) : ∃ (r : Int32) (A2 : St) (B2 : St), f_X5_topic x1 x2 x3 A = some (r, A2) ∧ f_X6_topic x1 x2 x3 B = some (r, B2) ∧ Rel A2 B2 := SM_topic h x1 x2 x3
theorem sim_rule {A B : St} (h : Rel A B) (x1 x2 : Int32) : ∃ (r : Int32) (A2 : St) (B2 : St), f_X5_rule x1 x2 A = some (r, A2) ∧ f_X6_rule x1 x2 B = some (r, B2) ∧ Rel A2 B2 := SM_rule h x1 x2
theorem sim_told {A B : St} (h : Rel A B) (x1 : Int32) : ∃ (r : Int32) (A2 : St) (B2 : St), f_X5_told x1 A = some (r, A2) ∧ f_X6_told x1 B = some (r, B2) ∧ Rel A2 B2 := SM_told h x1
theorem sim_against {A B : St} (h : Rel A B) (x1 : Int32) : ∃ (r : Int32) (A2 : St) (B2 : St), f_X5_against x1 A = some (r, A2) ∧ f_X6_against x1 B = some (r, B2) ∧ Rel A2 B2 := SM_against h x1
theorem sim_papers {A B : St} (h : Rel A B) : ∃ (r : Int32) (A2 : St), f_X5_papers A = some (r, A2) ∧ f_X6_papers B = some r ∧ Rel A2 B := SM_papers h
theorem sim_without {A B : St} (h : Rel A B) (x1 : Int32) : ∃ (r : Int32) (A2 : St) (B2 : St), f_X5_without x1 A = some (r, A2) ∧ f_X6_without x1 B = some (r, B2) ∧ Rel A2 B2 := SM_without h x1
theorem sim_best {A B : St} (h : Rel A B) : ∃ (r : Int32) (A2 : St) (B2 : St), f_X5_best A = some (r, A2) ∧ f_X6_best B = some (r, B2) ∧ Rel A2 B2 := SM_best h
theorem sim_rank {A B : St} (h : Rel A B) (x1 : Int32) : ∃ (r : Int32) (A2 : St) (B2 : St), f_X5_rank x1 A = some (r, A2) ∧ f_X6_rank x1 B = some (r, B2) ∧ Rel A2 B2 := SM_rank h x1
theorem sim_swap {A B : St} (h : Rel A B) (x1 x2 : Int32) : ∃ (r : Int32) (A2 : St) (B2 : St), f_X5_swap x1 x2 A = some (r, A2) ∧ f_X6_swap x1 x2 B = some (r, B2) ∧ Rel A2 B2 := SM_swap h x1 x2
theorem sim_forms {A B : St} (h : Rel A B) (x1 : Int32) : ∃ (r : Int32) (A2 : St) (B2 : St), f_X5_forms x1 A = some (r, A2) ∧ f_X6_forms x1 B = some (r, B2) ∧ Rel A2 B2 := SM_forms h x1
theorem sim_gap {A B : St} (h : Rel A B) : ∃ (r : Int64) (A2 : St) (B2 : St), f_X5_gap A = some (r, A2) ∧ f_X6_gap B = some (r, B2) ∧ Rel A2 B2 := SM_gap h
theorem sim_use {A B : St} (h : Rel A B) (x1 : Int32) : ∃ (r : Int32) (A2 : St) (B2 : St), f_X5_use x1 A = some (r, A2) ∧ f_X6_use x1 B = some (r, B2) ∧ Rel A2 B2 := SM_use h x1
theorem sim_uses {A B : St} (h : Rel A B) (x1 : Int32) : ∃ (r : Int32) (A2 : St) (B2 : St), f_X5_uses x1 A = some (r, A2) ∧ f_X6_uses x1 B = some (r, B2) ∧ Rel A2 B2 := SM_uses h x1
theorem sim_loose {A B : St} (h : Rel A B) (x1 : Int32) : ∃ (r : Int32) (A2 : St) (B2 : St), f_X5_loose x1 A = some (r, A2) ∧ f_X6_loose x1 B = some (r, B2) ∧ Rel A2 B2 := SM_loose h x1
theorem sim_seed {A B : St} (h : Rel A B) (x1 : Int32) : ∃ (r : Int32) (A2 : St) (B2 : St), f_X5_seed x1 A = some (r, A2) ∧ f_X6_seed x1 B = some (r, B2) ∧ Rel A2 B2 := SM_seed h x1
theorem sim_shelf {A B : St} (h : Rel A B) (x1 x2 : Int32) : ∃ (r : Int32) (A2 : St) (B2 : St), f_X5_shelf x1 x2 A = some (r, A2) ∧ f_X6_shelf x1 x2 B = some (r, B2) ∧ Rel A2 B2 := SM_shelf h x1 x2
theorem sim_lay {A B : St} (h : Rel A B) (x1 x2 x3 : Int32) : ∃ (r : Int32) (A2 : St) (B2 : St), f_X5_lay x1 x2 x3 A = some (r, A2) ∧ f_X6_lay x1 x2 x3 B = some (r, B2) ∧ Rel A2 B2 := SM_lay h x1 x2 x3
theorem sim_stands {A B : St} (h : Rel A B) (x1 x2 x3 : Int32) : ∃ (r : Int32) (A2 : St) (B2 : St), f_X5_stands x1 x2 x3 A = some (r, A2) ∧ f_X6_stands x1 x2 x3 B = some (r, B2) ∧ Rel A2 B2 := SM_stands h x1 x2 x3
theorem sim_moves {A B : St} (h : Rel A B) (x1 x2 : Int32) : ∃ (r : Int32) (A2 : St) (B2 : St), f_X5_moves x1 x2 A = some (r, A2) ∧ f_X6_moves x1 x2 B = some (r, B2) ∧ Rel A2 B2 := SM_moves h x1 x2
theorem sim_sheet {A B : St} (h : Rel A B) (x1 x2 x3 : Int32) : ∃ (r : Int32) (A2 : St) (B2 : St), f_X5_sheet x1 x2 x3 A = some (r, A2) ∧ f_X6_sheet x1 x2 x3 B = some (r, B2) ∧ Rel A2 B2 := SM_sheet h x1 x2 x3
theorem sim_write {A B : St} (h : Rel A B) (x1 x2 x3 : Int32) : ∃ (r : Int32) (A2 : St) (B2 : St), f_X5_write x1 x2 x3 A = some (r, A2) ∧ f_X6_write x1 x2 x3 B = some (r, B2) ∧ Rel A2 B2 := SM_write h x1 x2 x3
theorem sim_item {A B : St} (h : Rel A B) (x1 x2 : Int32) : ∃ (r : Int64) (A2 : St) (B2 : St), f_X5_item x1 x2 A = some (r, A2) ∧ f_X6_item x1 x2 B = some (r, B2) ∧ Rel A2 B2 := SM_item h x1 x2
theorem sim_copy {A B : St} (h : Rel A B) (x1 x2 x3 x4 x5 : Int32) : ∃ (r : Int32) (A2 : St) (B2 : St), f_X5_copy x1 x2 x3 x4 x5 A = some (r, A2) ∧ f_X6_copy x1 x2 x3 x4 x5 B = some (r, B2) ∧ Rel A2 B2 := SM_copy h x1 x2 x3 x4 x5
theorem sim_casts {A B : St} (h : Rel A B) (x1 x2 : Int32) : ∃ (r : Int32) (A2 : St) (B2 : St), f_X5_casts x1 x2 A = some (r, A2) ∧ f_X6_casts x1 x2 B = some (r, B2) ∧ Rel A2 B2 := SM_casts h x1 x2
theorem sim_table {A B : St} (h : Rel A B) (x1 x2 x3 x4 : Int32) : ∃ (r : Int32) (A2 : St) (B2 : St), f_X5_table x1 x2 x3 x4 A = some (r, A2) ∧ f_X6_table x1 x2 x3 x4 B = some (r, B2) ∧ Rel A2 B2 := SM_table h x1 x2 x3 x4
theorem sim_rests {A B : St} (h : Rel A B) (x1 x2 : Int32) : ∃ (r : Int32) (A2 : St) (B2 : St), f_X5_rests x1 x2 A = some (r, A2) ∧ f_X6_rests x1 x2 B = some (r, B2) ∧ Rel A2 B2 := SM_rests h x1 x2
theorem sim_sum {A B : St} (h : Rel A B) (x1 : Int32) : ∃ (r : Int64) (A2 : St) (B2 : St), f_X5_sum x1 A = some (r, A2) ∧ f_X6_sum x1 B = some (r, B2) ∧ Rel A2 B2 := SM_sum h x1
theorem sim_image {A B : St} (h : Rel A B) : ∃ (r : Int32) (A2 : St) (B2 : St), f_X5_image A = some (r, A2) ∧ f_X6_image B = some (r, B2) ∧ Rel A2 B2 := SM_image h
theorem sim_back {A B : St} (h : Rel A B) : ∃ (r : Int32) (A2 : St) (B2 : St), f_X5_back A = some (r, A2) ∧ f_X6_back B = some (r, B2) ∧ Rel A2 B2 := SM_back h
theorem sim_count {A B : St} (h : Rel A B) (x1 : Int32) : ∃ (r : Int32) (A2 : St) (B2 : St), f_X5_count x1 A = some (r, A2) ∧ f_X6_count x1 B = some (r, B2) ∧ Rel A2 B2 := SM_count h x1
theorem sim_status {A B : St} (h : Rel A B) (x1 : Int32) : ∃ (r : Int32) (A2 : St) (B2 : St), f_X5_status x1 A = some (r, A2) ∧ f_X6_status x1 B = some (r, B2) ∧ Rel A2 B2 := SM_status h x1
