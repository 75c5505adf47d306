/-! THE END -/
theorem pu_VV : PU VV 76 := ⟨PB_VV, P_feed_VV, P_river_VV, P_fault_VV, P_count_VV, P_book_VV, P_hearing_VV, P_walker_VV, P_docket_VV, P_lay_VV, P_up_VV, P_planks_VV, P_crosses_VV, P_bar_VV, P_over_VV, P_best_VV, P_lays_VV, P_suit_VV, P_settled_VV, P_feud_VV, P_see_VV, P_forget_VV, P_explains_VV, P_heard_VV, P_first_VV, P_terms_VV, P_image_VV, P_restore_VV⟩
theorem i_vc : Claimed_1_1 ∧ Claimed_1_2 := i_vc_of pu_VV ps_VV
