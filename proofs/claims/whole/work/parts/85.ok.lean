/-! every call keeps the relation and gives the same -/
theorem ok_0 : LawOK0 Inv := fun σC σM h a1 a2 => by
  obtain ⟨r, τC, τM, h1, h2, h3⟩ := P_place h a1 a2
  exact ⟨r, τC, τM, _, _, by decide, by decide, c_X10_place a1 a2 σC h1, c_X11_place a1 a2 σM h2, h3⟩
theorem ok_1 : LawOK1 Inv := fun σC σM h a1 a2 a3 => by
  obtain ⟨r, τC, τM, h1, h2, h3⟩ := P_places h a1 a2 a3
  exact ⟨r, τC, τM, _, _, by decide, by decide, c_X10_places a1 a2 a3 σC h1, c_X11_places a1 a2 a3 σM h2, h3⟩
theorem ok_2 : LawOK2 Inv := fun σC σM h a1 a2 a3 => by
  obtain ⟨r, τC, τM, h1, h2, h3⟩ := P_mend h a1 a2 a3
  exact ⟨r, τC, τM, _, _, by decide, by decide, c_X10_mend a1 a2 a3 σC h1, c_X11_mend a1 a2 a3 σM h2, h3⟩
theorem ok_3 : LawOK3 Inv := fun σC σM h a1 a2 => by
  obtain ⟨r, h1, h2⟩ := P_of h a1 a2
  exact ⟨r, σC, σM, _, _, by decide, by decide, c_X10_of a1 a2 σC h1, c_X11_of a1 a2 σM h2, h⟩
theorem ok_4 : LawOK4 Inv := fun σC σM h a1 a2 => by
  obtain ⟨r, h1, h2⟩ := P_wind h a1 a2
  exact ⟨r, σC, σM, _, _, by decide, by decide, c_X10_wind a1 a2 σC h1, c_X11_wind a1 a2 σM h2, h⟩
theorem ok_5 : LawOK5 Inv := fun σC σM h a1 => by
  obtain ⟨r, τC, τM, h1, h2, h3⟩ := P_feed h a1
  exact ⟨r, τC, τM, _, _, by decide, by decide, c_X10_feed a1 σC h1, c_X11_feed a1 σM h2, h3⟩
theorem ok_6 : LawOK6 Inv := fun σC σM h _u => by
  obtain ⟨r, τC, τM, h1, h2, h3⟩ := P_law h
  exact ⟨r, τC, τM, _, _, by decide, by decide, c_X10_law σC h1, c_X11_law σM h2, h3⟩
theorem ok_7 : LawOK7 Inv := fun σC σM h a1 a2 => by
  obtain ⟨r, τC, τM, h1, h2, h3⟩ := P_strain h a1 a2
  exact ⟨r, τC, τM, _, _, by decide, by decide, c_X10_strain a1 a2 σC h1, c_X11_strain a1 a2 σM h2, h3⟩
theorem ok_8 : LawOK8 Inv := fun σC σM h a1 a2 a3 => by
  obtain ⟨r, τC, τM, h1, h2, h3⟩ := P_walk h a1 a2 a3
  exact ⟨r, τC, τM, _, _, by decide, by decide, c_X10_walk a1 a2 a3 σC h1, c_X11_walk a1 a2 a3 σM h2, h3⟩
theorem ok_9 : LawOK9 Inv := fun σC σM h a1 a2 => by
  obtain ⟨r, τC, τM, h1, h2, h3⟩ := P_start h a1 a2
  exact ⟨r, τC, τM, _, _, by decide, by decide, c_X10_start a1 a2 σC h1, c_X11_start a1 a2 σM h2, h3⟩
theorem ok_10 : LawOK10 Inv := fun σC σM h a1 a2 => by
  obtain ⟨r, τC, τM, h1, h2, h3⟩ := P_hold h a1 a2
  exact ⟨r, τC, τM, _, _, by decide, by decide, c_X10_hold a1 a2 σC h1, c_X11_hold a1 a2 σM h2, h3⟩
theorem ok_11 : LawOK11 Inv := fun σC σM h a1 => by
  obtain ⟨r, τC, τM, h1, h2, h3⟩ := P_soonest h a1
  exact ⟨r, τC, τM, _, _, by decide, by decide, c_X10_soonest a1 σC h1, c_X11_soonest a1 σM h2, h3⟩
theorem ok_12 : LawOK12 Inv := fun σC σM h a1 a2 => by
  obtain ⟨r, τC, τM, h1, h2, h3⟩ := P_safest h a1 a2
  exact ⟨r, τC, τM, _, _, by decide, by decide, c_X10_safest a1 a2 σC h1, c_X11_safest a1 a2 σM h2, h3⟩
theorem ok_13 : LawOK13 Inv := fun σC σM h a1 a2 => by
  obtain ⟨r, τC, τM, h1, h2, h3⟩ := P_menFor h a1 a2
  exact ⟨r, τC, τM, _, _, by decide, by decide, c_X10_menFor a1 a2 σC h1, c_X11_menFor a1 a2 σM h2, h3⟩
theorem ok_14 : LawOK14 Inv := fun σC σM h a1 a2 => by
  obtain ⟨r, τC, τM, h1, h2, h3⟩ := P_van h a1 a2
  exact ⟨r, τC, τM, _, _, by decide, by decide, c_X10_van a1 a2 σC h1, c_X11_van a1 a2 σM h2, h3⟩
theorem ok_15 : LawOK15 Inv := fun σC σM h a1 a2 => by
  obtain ⟨r, τC, τM, h1, h2, h3⟩ := P_windFrom h a1 a2
  exact ⟨r, τC, τM, _, _, by decide, by decide, c_X10_windFrom a1 a2 σC h1, c_X11_windFrom a1 a2 σM h2, h3⟩
theorem ok_16 : LawOK16 Inv := fun σC σM h a1 a2 => by
  obtain ⟨r, τC, τM, h1, h2, h3⟩ := P_scratchFor h a1 a2
  exact ⟨r, τC, τM, _, _, by decide, by decide, c_X10_scratchFor a1 a2 σC h1, c_X11_scratchFor a1 a2 σM h2, h3⟩
theorem ok_17 : LawOK17 Inv := fun σC σM h a1 => by
  obtain ⟨r, h1, h2⟩ := P_free h a1
  exact ⟨r, σC, σM, _, _, by decide, by decide, c_X10_free a1 σC h1, c_X11_free a1 σM h2, h⟩
theorem ok_18 : LawOK18 Inv := fun σC σM h a1 => by
  obtain ⟨r, h1, h2⟩ := P_watch h a1
  exact ⟨r, σC, σM, _, _, by decide, by decide, c_X10_watch a1 σC h1, c_X11_watch a1 σM h2, h⟩
theorem ok_19 : LawOK19 Inv := fun σC σM h a1 a2 => by
  obtain ⟨r, h1, h2⟩ := P_earlier h a1 a2
  exact ⟨r, σC, σM, _, _, by decide, by decide, c_X10_earlier a1 a2 σC h1, c_X11_earlier a1 a2 σM h2, h⟩
theorem ok_20 : LawOK20 Inv := fun σC σM h a1 a2 a3 => by
  obtain ⟨r, τC, τM, h1, h2, h3⟩ := P_cost h a1 a2 a3
  exact ⟨r, τC, τM, _, _, by decide, by decide, c_X10_cost a1 a2 a3 σC h1, c_X11_cost a1 a2 a3 σM h2, h3⟩
theorem ok_21 : LawOK21 Inv := fun σC σM h a1 a2 => by
  obtain ⟨r, τC, τM, h1, h2, h3⟩ := P_begun h a1 a2
  exact ⟨r, τC, τM, _, _, by decide, by decide, c_X10_begun a1 a2 σC h1, c_X11_begun a1 a2 σM h2, h3⟩
theorem ok_22 : LawOK22 Inv := fun σC σM h a1 a2 => by
  obtain ⟨r, τC, τM, h1, h2, h3⟩ := P_judge h a1 a2
  exact ⟨r, τC, τM, _, _, by decide, by decide, c_X10_judge a1 a2 σC h1, c_X11_judge a1 a2 σM h2, h3⟩
theorem ok_23 : LawOK23 Inv := fun σC σM h a1 a2 a3 => by
  obtain ⟨r, τC, τM, h1, h2, h3⟩ := P_drawn h a1 a2 a3
  exact ⟨r, τC, τM, _, _, by decide, by decide, c_X10_drawn a1 a2 a3 σC h1, c_X11_drawn a1 a2 a3 σM h2, h3⟩
theorem ok_24 : LawOK24 Inv := fun σC σM h a1 a2 => by
  obtain ⟨r, τC, τM, h1, h2, h3⟩ := P_out h a1 a2
  exact ⟨r, τC, τM, _, _, by decide, by decide, c_X10_out a1 a2 σC h1, c_X11_out a1 a2 σM h2, h3⟩
theorem ok_25 : LawOK25 Inv := fun σC σM h a1 => by
  obtain ⟨r, τC, τM, h1, h2, h3⟩ := P_pace h a1
  exact ⟨r, τC, τM, _, _, by decide, by decide, c_X10_pace a1 σC h1, c_X11_pace a1 σM h2, h3⟩
theorem ok_26 : LawOK26 Inv := fun σC σM h a1 => by
  obtain ⟨r, τC, τM, h1, h2, h3⟩ := P_rest h a1
  exact ⟨r, τC, τM, _, _, by decide, by decide, c_X10_rest a1 σC h1, c_X11_rest a1 σM h2, h3⟩
theorem ok_27 : LawOK27 Inv := fun σC σM h a1 => ⟨_, σC, σM, _, _, by decide, by decide, c_X10_led a1 σC rfl, c_X11_led a1 σM (P_led h a1).symm, h⟩
theorem ok_28 : LawOK28 Inv := fun σC σM h _u => by
  obtain ⟨r, τC, τM, h1, h2, h3⟩ := P_image h
  exact ⟨r, τC, τM, _, _, by decide, by decide, c_X10_image σC h1, c_X11_image σM h2, h3⟩
theorem ok_29 : LawOK29 Inv := fun σC σM h _u => by
  obtain ⟨r, τC, τM, h1, h2, h3⟩ := P_back h
  exact ⟨r, τC, τM, _, _, by decide, by decide, c_X10_back σC h1, c_X11_back σM h2, h3⟩
theorem ok_30 : LawOK30 Inv := fun σC σM h _u => by
  obtain ⟨r, τC, τM, h1, h2, h3⟩ := P_undo h
  exact ⟨r, τC, τM, _, _, by decide, by decide, c_X10_undo σC h1, c_X11_undo σM h2, h3⟩
theorem ok_31 : LawOK31 Inv := fun σC σM h _u => by
  obtain ⟨r, τC, τM, h1, h2, h3⟩ := P_redo h
  exact ⟨r, τC, τM, _, _, by decide, by decide, c_X10_redo σC h1, c_X11_redo σM h2, h3⟩
theorem ok_32 : LawOK32 Inv := fun σC σM h a1 => by
  obtain ⟨r, τC, τM, h1, h2, h3⟩ := P_body h a1
  exact ⟨r, τC, τM, _, _, by decide, by decide, c_X10_body a1 σC h1, c_X11_body a1 σM h2, h3⟩
theorem ok_33 : LawOK33 Inv := fun σC σM h a1 a2 a3 => by
  obtain ⟨r, τC, τM, h1, h2, h3⟩ := P_act h a1 a2 a3
  exact ⟨r, τC, τM, _, _, by decide, by decide, c_X10_act a1 a2 a3 σC h1, c_X11_act a1 a2 a3 σM h2, h3⟩
theorem ok_34 : LawOK34 Inv := fun σC σM h a1 => ⟨_, σC, σM, _, _, by decide, by decide, c_X10_trace a1 σC rfl, c_X11_trace a1 σM (P_trace h a1).symm, h⟩
theorem ok_35 : LawOK35 Inv := fun σC σM h a1 a2 => by
  obtain ⟨r, τC, τM, h1, h2, h3⟩ := P_keep h a1 a2
  exact ⟨r, τC, τM, _, _, by decide, by decide, c_X10_keep a1 a2 σC h1, c_X11_keep a1 a2 σM h2, h3⟩
theorem ok_36 : LawOK36 Inv := fun σC σM h a1 a2 a3 => by
  obtain ⟨r, τC, τM, h1, h2, h3⟩ := P_row h a1 a2 a3
  exact ⟨r, τC, τM, _, _, by decide, by decide, c_X10_row a1 a2 a3 σC h1, c_X11_row a1 a2 a3 σM h2, h3⟩
theorem ok_37 : LawOK37 Inv := fun σC σM h a1 a2 a3 a4 => by
  obtain ⟨r, τC, τM, h1, h2, h3⟩ := P_put h a1 a2 ((a3.toInt64 <<< ((32 : Int32).toInt64 &&& 63)) ||| (a4.toInt64 &&& (4294967295 : Int64)))
  exact ⟨r, τC, τM, _, _, by decide, by decide, c_X10_put a1 a2 ((a3.toInt64 <<< ((32 : Int32).toInt64 &&& 63)) ||| (a4.toInt64 &&& (4294967295 : Int64))) σC h1, c_X11_put a1 a2 ((a3.toInt64 <<< ((32 : Int32).toInt64 &&& 63)) ||| (a4.toInt64 &&& (4294967295 : Int64))) σM h2, h3⟩
theorem ok_38 : LawOK38 Inv := fun σC σM h a1 a2 => by
  obtain ⟨r, h1, h2⟩ := P_element h a1 a2
  exact ⟨r, σC, σM, _, _, by decide, by decide, c_X10_element a1 a2 σC h1, c_X11_element a1 a2 σM h2, h⟩
theorem ok_39 : LawOK39 Inv := fun σC σM h a1 a2 a3 a4 a5 => by
  obtain ⟨r, τC, τM, h1, h2, h3⟩ := P_shift h a1 a2 a3 a4 a5
  exact ⟨r, τC, τM, _, _, by decide, by decide, c_X10_shift a1 a2 a3 a4 a5 σC h1, c_X11_shift a1 a2 a3 a4 a5 σM h2, h3⟩
theorem ok_40 : LawOK40 Inv := fun σC σM h a1 a2 => by
  obtain ⟨r, h1, h2⟩ := P_taken h a1 a2
  exact ⟨r, σC, σM, _, _, by decide, by decide, c_X10_taken a1 a2 σC h1, c_X11_taken a1 a2 σM h2, h⟩
theorem ok_41 : LawOK41 Inv := fun σC σM h a1 => ⟨_, σC, σM, _, _, by decide, by decide, c_X10_count a1 σC rfl, c_X11_count a1 σM (P_count h a1).symm, h⟩
theorem inv_ok : LawOK Inv := ⟨ok_0, ok_1, ok_2, ok_3, ok_4, ok_5, ok_6, ok_7, ok_8, ok_9, ok_10, ok_11, ok_12, ok_13, ok_14, ok_15, ok_16, ok_17, ok_18, ok_19, ok_20, ok_21, ok_22, ok_23, ok_24, ok_25, ok_26, ok_27, ok_28, ok_29, ok_30, ok_31, ok_32, ok_33, ok_34, ok_35, ok_36, ok_37, ok_38, ok_39, ok_40, ok_41⟩
