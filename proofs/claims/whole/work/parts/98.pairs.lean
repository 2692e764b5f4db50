/-! ===== THE PAIRS ===== -/
theorem pairs_all : Pairs :=
  ⟨c_feed, c_end, c_fault, c_text, c_thing, c_person, c_firsts, c_spoil, c_coming, c_taste, c_theft, c_joy, c_have, c_sell, c_steal, c_pledge, c_pledged, c_redeem, c_days, c_undo, c_log, c_step, c_run, c_perform, c_order, c_clean, c_rings, c_pairing, c_sale, c_awaits, c_repeats, c_kept, c_habit, c_found, c_must, c_sure, c_claim, c_could, c_alone, c_years, c_richest, c_last, c_image, c_back, c_count⟩
