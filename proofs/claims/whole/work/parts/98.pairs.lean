/-! ===== THE PAIRS ===== -/
/-- what is left makes all of them -/
theorem pairs_of
    (h_fault : (∀ (a : Int) (σ : Mem), Inv σ → rg a → Pair mF_fault mR_fault [aI a] σ))
    (h_text : (∀ (a : Int) (σ : Mem), Inv σ → rg a → Pair mF_text mR_text [aI a] σ))
    (h_order : (∀ (a b c : Int) (σ : Mem), Inv σ → rg a → rg b → rg c → Pair mF_order mR_order [aI a, aI b, aI c] σ))
    (h_kept : (∀ (a b c : Int) (σ : Mem), Inv σ → rg a → rg b → rg c → Pair mF_kept mR_kept [aI a, aI b, aI c] σ))
    (h_habit : (∀ (a b c : Int) (σ : Mem), Inv σ → rg a → rg b → rg c → Pair mF_habit mR_habit [aI a, aI b, aI c] σ))
    (h_years : (∀ (a b : Int) (σ : Mem), Inv σ → rg a → rgL b → Pair mF_years mR_years [aI a, aJ b] σ)) : Pairs :=
  ⟨c_feed, c_end, h_fault, h_text, c_thing, c_person, c_firsts, c_spoil, c_coming, c_taste, c_theft, c_joy, c_have, c_sell, c_steal, c_pledge, c_pledged, c_redeem, c_days, c_undo, c_log, c_step, c_run, c_perform, h_order, c_clean, c_rings, c_pairing, c_sale, c_awaits, c_repeats, h_kept, h_habit, c_found, c_must, c_sure, c_claim, c_could, c_alone, h_years, c_richest, c_last, c_image, c_back, c_count⟩
