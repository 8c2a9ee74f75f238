/-! what is still wanting: a call's two answers -/
theorem ag_X7_write (a : Int32) : agr (fX7_write WN 0 a) (fun w => fX8_write w 72 a) := sorry
theorem ag_X7_wipe : agr (fX7_wipe WN 0) (fun w => fX8_wipe w 72) := sorry
theorem ag_X7_fault : agr (fX7_fault WN 0) (fun w => fX8_fault w 72) := sorry
theorem ag_X7_lay : agr (fX7_lay WN 0) (fun w => fX8_lay w 72) := sorry
theorem ag_X7_fraction (a : Int32) (b : Int32) : agr (fX7_fraction WN 0 a b) (fun w => fX8_fraction_ w 72 a b) := sorry
theorem ag_X7_number (a : Int32) : agr (fX7_number WN 0 a) (fun w => fX8_number_ w 72 a) := sorry
theorem ag_X7_steps (a : Int32) : agr (fX7_steps WN 0 a) (fun w => fX8_steps w 72 a) := sorry
theorem ag_X7_multiply (a : Int32) (b : Int32) : agr (fX7_multiply WN 0 a b) (fun w => fX8_multiply w 72 a b) := sorry
theorem ag_X7_move (a : Int32) (b : Int32) : agr (fX7_move WN 0 a b) (fun w => fX8_move w 72 a b) := sorry
theorem ag_X7_drop (a : Int32) : agr (fX7_drop WN 0 a) (fun w => fX8_drop w 72 a) := sorry
theorem ag_X7_undo : agr (fX7_undo WN 0) (fun w => fX8_undo w 72) := sorry
theorem ag_X7_power (a : Int32) (b : Int32) : agr (fX7_power WN 0 a b) (fun w => fX8_power w 72 a b) := sorry
theorem ag_X7_used (a : Int32) : agr (fX7_used WN 0 a) (fun w => fX8_used w 72 a) := sorry
theorem ag_X7_rests : agr (fX7_rests WN 0) (fun w => fX8_rests w 72) := sorry
theorem ag_X7_round (a : Int32) : agr (fX7_round WN 0 a) (fun w => fX8_round w 72 a) := sorry
theorem ag_X7_greatest (a : Int32) : agr (fX7_greatest WN 0 a) (fun w => fX8_greatest w 72 a) := sorry
theorem ag_X7_often (a : Int32) : agr (fX7_often WN 0 a) (fun w => fX8_often w 72 a) := sorry
theorem ag_X7_needed : agr (fX7_needed WN 0) (fun w => fX8_needed w 72) := sorry
theorem ag_X7_order (a : Int32) : agr (fX7_order WN 0 a) (fun w => fX8_order w 72 a) := sorry
theorem ag_X7_map (a : Int32) (b : Int32) : agr (fX7_map WN 0 a b) (fun w => fX8_map w 72 a b) := sorry
theorem ag_X7_sources (a : Int32) (b : Int32) (c : Int32) : agr (fX7_sources WN 0 a b c) (fun w => fX8_sources w 72 a b c) := sorry
theorem ag_X7_whence : agr (fX7_whence WN 0) (fun w => fX8_whence w 72) := sorry
theorem ag_X7_see (a : Int32) (b : Int32) : agr (fX7_see WN 0 a b) (fun w => fX8_see w 72 a b) := sorry
theorem ag_X7_forget : agr (fX7_forget WN 0) (fun w => fX8_forget w 72) := sorry
theorem ag_X7_kinds (a : Int32) : agr (fX7_kinds WN 0 a) (fun w => fX8_kinds w 72 a) := sorry
theorem ag_X7_look (a : Int32) (b : Int32) : agr (fX7_look WN 0 a b) (fun w => fX8_look w 72 a b) := sorry
theorem ag_X7_duel (a : Int32) : agr (fX7_duel WN 0 a) (fun w => fX8_duel w 72 a) := sorry
theorem ag_X7_odds (a : Int32) (b : Int32) (c : Int32) : agr (fX7_odds WN 0 a b c) (fun w => fX8_odds w 72 a b c) := sorry
theorem ag_X7_day (a : Int32) (b : Int32) (c : Int32) : agr (fX7_day WN 0 a b c) (fun w => fX8_day w 72 a b c) := sorry
theorem ag_X7_keep : agr (fX7_keep WN 0) (fun w => fX8_keep w 72) := sorry
theorem ag_X7_back : agr (fX7_back WN 0) (fun w => fX8_back w 72) := sorry
theorem ag_X7_count (a : Int32) : agr (fX7_count WN 0 a) (fun w => fX8_count w 72 a) := sorry
