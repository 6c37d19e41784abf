theorem ll_nI6 {L i : Nat} (hL : L ≤ 384) (h : ¬ (nI L - 6 < nI i)) (hi : i < 1000) : i + 6 ≤ L := by
  have h1 : (nI L - nI 6).toInt = (L : Int) - 6 := pk_sub_toInt (by omega) (by omega)
  have h2 : (nI i).toInt = (i : Int) := nI_toInt (by omega)
  rw [Int32.lt_iff_toInt_lt] at h
  rw [show (6 : Int32) = nI 6 from rfl, h1, h2] at h
  omega
set_option maxHeartbeats 4000000 in
theorem ll_body {L : Nat} {xs : Nat → Int32} (hL : L ≤ 384) {Rel : ll_S → ll_S → Prop} (h_row : sim_row Rel) (h_lay : sim_lay Rel) (h_at : sim_at Rel) (h_tear : sim_tear Rel) (h_copy : sim_copy Rel) (h_mean : sim_mean Rel) (h_text : sim_text Rel) (h_put : sim_put Rel) (h_fault : sim_fault Rel) (h_front : sim_front Rel) (h_hut : sim_hut Rel) (h_mark : sim_mark Rel) (h_tires : sim_tires Rel) (h_winter : sim_winter Rel) (h_feed : sim_feed Rel) (h_sell : sim_sell Rel) (h_storm : sim_storm Rel) (h_undo : sim_undo Rel) (h_keep : sim_keep Rel) (h_on : sim_on Rel) (h_then : sim_then Rel) (h_lost : sim_lost Rel) (h_order : sim_order Rel) (h_least : sim_least Rel) (h_vee : sim_vee Rel) (h_pairs : sim_pairs Rel) (h_kinds : sim_kinds Rel) (h_test : sim_test Rel) (h_flown : sim_flown Rel) (h_duel : sim_duel Rel) (h_odds : sim_odds Rel) (h_mid : sim_mid Rel) (h_lots : sim_lots Rel) (h_asked : sim_asked Rel) (h_upper : sim_upper Rel) (h_lower : sim_lower Rel) (h_count : sim_count Rel) (h_finding : sim_finding Rel) (h_findings : sim_findings Rel) (h_digest : sim_digest Rel) (i : Nat) (hi : i < 1000) (s t : ll_S) (hR : Rel s t) (hn : ∀ s t, Rel s t → i + 6 ≤ L → ll_G L xs 18 [some (.ref 498), some (.ref 0), some (.ref 100), some (.int (nI (i + 6)))] [] (ll_w s t)) : ll_G L xs 18 [some (.ref 498), some (.ref 0), some (.ref 100), some (.int (nI i))] [] (ll_w s t) := by
  refine ll_iload_n dL_law_18 rfl ?_
  refine ll_aload_n dL_law_19 rfl ?_
  refine ll_slen dL_law_20 ?_
  refine ll_bipush 6 dL_law_21 (by decide) ?_
  refine ll_isub dL_law_23 ?_
  refine ll_gt 1317 dL_law_24 (by decide) (fun hc => ?_) (fun hc => ?_)
  · refine ll_iconst 1 dL_law_1317 (by decide) ?_
    exact ll_ret1 dL_law_1318
  have hiL : i + 6 ≤ L := ll_nI6 hL hc hi
  have hx0 : vp_in (nI i) L := vp_in_nI (by omega) (by omega)
  have hx1 : vp_in (nI i + 1) L := by rw [show (1 : Int32) = nI 1 from rfl, nI_add]; exact vp_in_nI (by omega) (by omega)
  have hx2 : vp_in (nI i + 2) L := by rw [show (2 : Int32) = nI 2 from rfl, nI_add]; exact vp_in_nI (by omega) (by omega)
  have hx3 : vp_in (nI i + 3) L := by rw [show (3 : Int32) = nI 3 from rfl, nI_add]; exact vp_in_nI (by omega) (by omega)
  have hx4 : vp_in (nI i + 4) L := by rw [show (4 : Int32) = nI 4 from rfl, nI_add]; exact vp_in_nI (by omega) (by omega)
  have hx5 : vp_in (nI i + 5) L := by rw [show (5 : Int32) = nI 5 from rfl, nI_add]; exact vp_in_nI (by omega) (by omega)
  have hend : ∀ s t, Rel s t → ll_G L xs 1311 [some (.ref 498), some (.ref 0), some (.ref 100), some (.int (nI i))] [] (ll_w s t) := by
    intro s t hR
    refine ll_iinc (nI (i + 6)) [some (.ref 498), some (.ref 0), some (.ref 100), some (.int (nI (i + 6)))] dL_law_1311 rfl (by rw [show Int32.ofInt 6 = nI 6 from rfl, nI_add]) rfl (by decide) rfl ?_
    refine ll_goto 18 dL_law_1314 (by decide) ?_
    exact hn s t hR hiL
  refine ll_aload_n dL_law_27 rfl ?_
  refine ll_iload_n dL_law_28 rfl ?_
  refine ll_sld dL_law_29 hx0 ?_
  refine ll_bipush 63 dL_law_30 (by decide) ?_
  refine ll_iand dL_law_32 ?_
  generalize xs (nI i).toNatClampNeg &&& 63 = y
  by_cases hs0 : y = (0 : Int32)
  · refine ll_swIn 208 dL_law_33 (by rw [hs0]; decide) (by rw [hs0]; decide) (off := (175)) (by rw [hs0]; decide) (by decide) ?_
    exact la_row h_row s t hR hx1 hx2 hx3 hx4 hx5 hend
  by_cases hs1 : y = (1 : Int32)
  · refine ll_swIn 241 dL_law_33 (by rw [hs1]; decide) (by rw [hs1]; decide) (off := (208)) (by rw [hs1]; decide) (by decide) ?_
    exact la_lay h_lay s t hR hx1 hx2 hx3 hx4 hx5 hend
  by_cases hs2 : y = (2 : Int32)
  · refine ll_swIn 284 dL_law_33 (by rw [hs2]; decide) (by rw [hs2]; decide) (off := (251)) (by rw [hs2]; decide) (by decide) ?_
    exact la_at h_at s t hR hx1 hx2 hx3 hx4 hx5 hend
  by_cases hs3 : y = (3 : Int32)
  · refine ll_swIn 317 dL_law_33 (by rw [hs3]; decide) (by rw [hs3]; decide) (off := (284)) (by rw [hs3]; decide) (by decide) ?_
    exact la_tear h_tear s t hR hx1 hx2 hx3 hx4 hx5 hend
  by_cases hs4 : y = (4 : Int32)
  · refine ll_swIn 340 dL_law_33 (by rw [hs4]; decide) (by rw [hs4]; decide) (off := (307)) (by rw [hs4]; decide) (by decide) ?_
    exact la_copy h_copy s t hR hx1 hx2 hx3 hx4 hx5 hend
  by_cases hs5 : y = (5 : Int32)
  · refine ll_swIn 403 dL_law_33 (by rw [hs5]; decide) (by rw [hs5]; decide) (off := (370)) (by rw [hs5]; decide) (by decide) ?_
    exact la_mean h_mean s t hR hx1 hx2 hx3 hx4 hx5 hend
  by_cases hs6 : y = (6 : Int32)
  · refine ll_swIn 426 dL_law_33 (by rw [hs6]; decide) (by rw [hs6]; decide) (off := (393)) (by rw [hs6]; decide) (by decide) ?_
    exact la_text h_text s t hR hx1 hx2 hx3 hx4 hx5 hend
  by_cases hs7 : y = (7 : Int32)
  · refine ll_swIn 459 dL_law_33 (by rw [hs7]; decide) (by rw [hs7]; decide) (off := (426)) (by rw [hs7]; decide) (by decide) ?_
    exact la_put h_put s t hR hx1 hx2 hx3 hx4 hx5 hend
  by_cases hs8 : y = (8 : Int32)
  · refine ll_swIn 502 dL_law_33 (by rw [hs8]; decide) (by rw [hs8]; decide) (off := (469)) (by rw [hs8]; decide) (by decide) ?_
    exact la_fault h_fault s t hR hx1 hx2 hx3 hx4 hx5 hend
  by_cases hs9 : y = (9 : Int32)
  · refine ll_swIn 525 dL_law_33 (by rw [hs9]; decide) (by rw [hs9]; decide) (off := (492)) (by rw [hs9]; decide) (by decide) ?_
    exact la_front h_front s t hR hx1 hx2 hx3 hx4 hx5 hend
  by_cases hs10 : y = (10 : Int32)
  · refine ll_swIn 548 dL_law_33 (by rw [hs10]; decide) (by rw [hs10]; decide) (off := (515)) (by rw [hs10]; decide) (by decide) ?_
    exact la_hut h_hut s t hR hx1 hx2 hx3 hx4 hx5 hend
  by_cases hs11 : y = (11 : Int32)
  · refine ll_swIn 581 dL_law_33 (by rw [hs11]; decide) (by rw [hs11]; decide) (off := (548)) (by rw [hs11]; decide) (by decide) ?_
    exact la_mark h_mark s t hR hx1 hx2 hx3 hx4 hx5 hend
  by_cases hs12 : y = (12 : Int32)
  · refine ll_swIn 614 dL_law_33 (by rw [hs12]; decide) (by rw [hs12]; decide) (off := (581)) (by rw [hs12]; decide) (by decide) ?_
    exact la_tires h_tires s t hR hx1 hx2 hx3 hx4 hx5 hend
  by_cases hs13 : y = (13 : Int32)
  · refine ll_swIn 647 dL_law_33 (by rw [hs13]; decide) (by rw [hs13]; decide) (off := (614)) (by rw [hs13]; decide) (by decide) ?_
    exact la_winter h_winter s t hR hx1 hx2 hx3 hx4 hx5 hend
  by_cases hs14 : y = (14 : Int32)
  · refine ll_swIn 660 dL_law_33 (by rw [hs14]; decide) (by rw [hs14]; decide) (off := (627)) (by rw [hs14]; decide) (by decide) ?_
    exact la_feed h_feed s t hR hx1 hx2 hx3 hx4 hx5 hend
  by_cases hs15 : y = (15 : Int32)
  · refine ll_swIn 683 dL_law_33 (by rw [hs15]; decide) (by rw [hs15]; decide) (off := (650)) (by rw [hs15]; decide) (by decide) ?_
    exact la_sell h_sell s t hR hx1 hx2 hx3 hx4 hx5 hend
  by_cases hs16 : y = (16 : Int32)
  · refine ll_swIn 716 dL_law_33 (by rw [hs16]; decide) (by rw [hs16]; decide) (off := (683)) (by rw [hs16]; decide) (by decide) ?_
    exact la_storm h_storm s t hR hx1 hx2 hx3 hx4 hx5 hend
  by_cases hs17 : y = (17 : Int32)
  · refine ll_swIn 739 dL_law_33 (by rw [hs17]; decide) (by rw [hs17]; decide) (off := (706)) (by rw [hs17]; decide) (by decide) ?_
    exact la_undo h_undo s t hR hx1 hx2 hx3 hx4 hx5 hend
  by_cases hs18 : y = (18 : Int32)
  · refine ll_swIn 762 dL_law_33 (by rw [hs18]; decide) (by rw [hs18]; decide) (off := (729)) (by rw [hs18]; decide) (by decide) ?_
    exact la_keep h_keep s t hR hx1 hx2 hx3 hx4 hx5 hend
  by_cases hs19 : y = (19 : Int32)
  · refine ll_swIn 785 dL_law_33 (by rw [hs19]; decide) (by rw [hs19]; decide) (off := (752)) (by rw [hs19]; decide) (by decide) ?_
    exact la_on h_on s t hR hx1 hx2 hx3 hx4 hx5 hend
  by_cases hs20 : y = (20 : Int32)
  · refine ll_swIn 808 dL_law_33 (by rw [hs20]; decide) (by rw [hs20]; decide) (off := (775)) (by rw [hs20]; decide) (by decide) ?_
    exact la_then h_then s t hR hx1 hx2 hx3 hx4 hx5 hend
  by_cases hs21 : y = (21 : Int32)
  · refine ll_swIn 841 dL_law_33 (by rw [hs21]; decide) (by rw [hs21]; decide) (off := (808)) (by rw [hs21]; decide) (by decide) ?_
    exact la_lost h_lost s t hR hx1 hx2 hx3 hx4 hx5 hend
  by_cases hs22 : y = (22 : Int32)
  · refine ll_swIn 864 dL_law_33 (by rw [hs22]; decide) (by rw [hs22]; decide) (off := (831)) (by rw [hs22]; decide) (by decide) ?_
    exact la_order h_order s t hR hx1 hx2 hx3 hx4 hx5 hend
  by_cases hs23 : y = (23 : Int32)
  · refine ll_swIn 887 dL_law_33 (by rw [hs23]; decide) (by rw [hs23]; decide) (off := (854)) (by rw [hs23]; decide) (by decide) ?_
    exact la_least h_least s t hR hx1 hx2 hx3 hx4 hx5 hend
  by_cases hs24 : y = (24 : Int32)
  · refine ll_swIn 920 dL_law_33 (by rw [hs24]; decide) (by rw [hs24]; decide) (off := (887)) (by rw [hs24]; decide) (by decide) ?_
    exact la_vee h_vee s t hR hx1 hx2 hx3 hx4 hx5 hend
  by_cases hs25 : y = (25 : Int32)
  · refine ll_swIn 953 dL_law_33 (by rw [hs25]; decide) (by rw [hs25]; decide) (off := (920)) (by rw [hs25]; decide) (by decide) ?_
    exact la_pairs h_pairs s t hR hx1 hx2 hx3 hx4 hx5 hend
  by_cases hs26 : y = (26 : Int32)
  · refine ll_swIn 976 dL_law_33 (by rw [hs26]; decide) (by rw [hs26]; decide) (off := (943)) (by rw [hs26]; decide) (by decide) ?_
    exact la_kinds h_kinds s t hR hx1 hx2 hx3 hx4 hx5 hend
  by_cases hs27 : y = (27 : Int32)
  · refine ll_swIn 1009 dL_law_33 (by rw [hs27]; decide) (by rw [hs27]; decide) (off := (976)) (by rw [hs27]; decide) (by decide) ?_
    exact la_test h_test s t hR hx1 hx2 hx3 hx4 hx5 hend
  by_cases hs28 : y = (28 : Int32)
  · refine ll_swIn 1042 dL_law_33 (by rw [hs28]; decide) (by rw [hs28]; decide) (off := (1009)) (by rw [hs28]; decide) (by decide) ?_
    exact la_flown h_flown s t hR hx1 hx2 hx3 hx4 hx5 hend
  by_cases hs29 : y = (29 : Int32)
  · refine ll_swIn 1085 dL_law_33 (by rw [hs29]; decide) (by rw [hs29]; decide) (off := (1052)) (by rw [hs29]; decide) (by decide) ?_
    exact la_duel h_duel s t hR hx1 hx2 hx3 hx4 hx5 hend
  by_cases hs30 : y = (30 : Int32)
  · refine ll_swIn 1108 dL_law_33 (by rw [hs30]; decide) (by rw [hs30]; decide) (off := (1075)) (by rw [hs30]; decide) (by decide) ?_
    exact la_odds h_odds s t hR hx1 hx2 hx3 hx4 hx5 hend
  by_cases hs31 : y = (31 : Int32)
  · refine ll_swIn 1141 dL_law_33 (by rw [hs31]; decide) (by rw [hs31]; decide) (off := (1108)) (by rw [hs31]; decide) (by decide) ?_
    exact la_mid h_mid s t hR hx1 hx2 hx3 hx4 hx5 hend
  by_cases hs32 : y = (32 : Int32)
  · refine ll_swIn 1164 dL_law_33 (by rw [hs32]; decide) (by rw [hs32]; decide) (off := (1131)) (by rw [hs32]; decide) (by decide) ?_
    exact la_lots h_lots s t hR hx1 hx2 hx3 hx4 hx5 hend
  by_cases hs33 : y = (33 : Int32)
  · refine ll_swIn 1197 dL_law_33 (by rw [hs33]; decide) (by rw [hs33]; decide) (off := (1164)) (by rw [hs33]; decide) (by decide) ?_
    exact la_asked h_asked s t hR hx1 hx2 hx3 hx4 hx5 hend
  by_cases hs34 : y = (34 : Int32)
  · refine ll_swIn 1210 dL_law_33 (by rw [hs34]; decide) (by rw [hs34]; decide) (off := (1177)) (by rw [hs34]; decide) (by decide) ?_
    exact la_upper h_upper s t hR hx1 hx2 hx3 hx4 hx5 hend
  by_cases hs35 : y = (35 : Int32)
  · refine ll_swIn 1224 dL_law_33 (by rw [hs35]; decide) (by rw [hs35]; decide) (off := (1191)) (by rw [hs35]; decide) (by decide) ?_
    exact la_lower h_lower s t hR hx1 hx2 hx3 hx4 hx5 hend
  by_cases hs36 : y = (36 : Int32)
  · refine ll_swIn 1238 dL_law_33 (by rw [hs36]; decide) (by rw [hs36]; decide) (off := (1205)) (by rw [hs36]; decide) (by decide) ?_
    exact la_count h_count s t hR hx1 hx2 hx3 hx4 hx5 hend
  by_cases hs37 : y = (37 : Int32)
  · refine ll_swIn 1261 dL_law_33 (by rw [hs37]; decide) (by rw [hs37]; decide) (off := (1228)) (by rw [hs37]; decide) (by decide) ?_
    exact la_finding h_finding s t hR hx1 hx2 hx3 hx4 hx5 hend
  by_cases hs38 : y = (38 : Int32)
  · refine ll_swIn 1274 dL_law_33 (by rw [hs38]; decide) (by rw [hs38]; decide) (off := (1241)) (by rw [hs38]; decide) (by decide) ?_
    exact la_findings h_findings s t hR hx1 hx2 hx3 hx4 hx5 hend
  by_cases hs39 : y = (39 : Int32)
  · refine ll_swIn 1297 dL_law_33 (by rw [hs39]; decide) (by rw [hs39]; decide) (off := (1264)) (by rw [hs39]; decide) (by decide) ?_
    exact la_digest h_digest s t hR hx1 hx2 hx3 hx4 hx5 hend
  refine ll_swOut 1311 dL_law_33 ?_ (by decide) (hend s t hR)
  have z0 := gg_ne32 hs0 (by decide : (0 : Int32).toInt = 0)
  have z1 := gg_ne32 hs1 (by decide : (1 : Int32).toInt = 1)
  have z2 := gg_ne32 hs2 (by decide : (2 : Int32).toInt = 2)
  have z3 := gg_ne32 hs3 (by decide : (3 : Int32).toInt = 3)
  have z4 := gg_ne32 hs4 (by decide : (4 : Int32).toInt = 4)
  have z5 := gg_ne32 hs5 (by decide : (5 : Int32).toInt = 5)
  have z6 := gg_ne32 hs6 (by decide : (6 : Int32).toInt = 6)
  have z7 := gg_ne32 hs7 (by decide : (7 : Int32).toInt = 7)
  have z8 := gg_ne32 hs8 (by decide : (8 : Int32).toInt = 8)
  have z9 := gg_ne32 hs9 (by decide : (9 : Int32).toInt = 9)
  have z10 := gg_ne32 hs10 (by decide : (10 : Int32).toInt = 10)
  have z11 := gg_ne32 hs11 (by decide : (11 : Int32).toInt = 11)
  have z12 := gg_ne32 hs12 (by decide : (12 : Int32).toInt = 12)
  have z13 := gg_ne32 hs13 (by decide : (13 : Int32).toInt = 13)
  have z14 := gg_ne32 hs14 (by decide : (14 : Int32).toInt = 14)
  have z15 := gg_ne32 hs15 (by decide : (15 : Int32).toInt = 15)
  have z16 := gg_ne32 hs16 (by decide : (16 : Int32).toInt = 16)
  have z17 := gg_ne32 hs17 (by decide : (17 : Int32).toInt = 17)
  have z18 := gg_ne32 hs18 (by decide : (18 : Int32).toInt = 18)
  have z19 := gg_ne32 hs19 (by decide : (19 : Int32).toInt = 19)
  have z20 := gg_ne32 hs20 (by decide : (20 : Int32).toInt = 20)
  have z21 := gg_ne32 hs21 (by decide : (21 : Int32).toInt = 21)
  have z22 := gg_ne32 hs22 (by decide : (22 : Int32).toInt = 22)
  have z23 := gg_ne32 hs23 (by decide : (23 : Int32).toInt = 23)
  have z24 := gg_ne32 hs24 (by decide : (24 : Int32).toInt = 24)
  have z25 := gg_ne32 hs25 (by decide : (25 : Int32).toInt = 25)
  have z26 := gg_ne32 hs26 (by decide : (26 : Int32).toInt = 26)
  have z27 := gg_ne32 hs27 (by decide : (27 : Int32).toInt = 27)
  have z28 := gg_ne32 hs28 (by decide : (28 : Int32).toInt = 28)
  have z29 := gg_ne32 hs29 (by decide : (29 : Int32).toInt = 29)
  have z30 := gg_ne32 hs30 (by decide : (30 : Int32).toInt = 30)
  have z31 := gg_ne32 hs31 (by decide : (31 : Int32).toInt = 31)
  have z32 := gg_ne32 hs32 (by decide : (32 : Int32).toInt = 32)
  have z33 := gg_ne32 hs33 (by decide : (33 : Int32).toInt = 33)
  have z34 := gg_ne32 hs34 (by decide : (34 : Int32).toInt = 34)
  have z35 := gg_ne32 hs35 (by decide : (35 : Int32).toInt = 35)
  have z36 := gg_ne32 hs36 (by decide : (36 : Int32).toInt = 36)
  have z37 := gg_ne32 hs37 (by decide : (37 : Int32).toInt = 37)
  have z38 := gg_ne32 hs38 (by decide : (38 : Int32).toInt = 38)
  have z39 := gg_ne32 hs39 (by decide : (39 : Int32).toInt = 39)
  omega
theorem ll_loop {L : Nat} {xs : Nat → Int32} (hL : L ≤ 384) {Rel : ll_S → ll_S → Prop} (h_row : sim_row Rel) (h_lay : sim_lay Rel) (h_at : sim_at Rel) (h_tear : sim_tear Rel) (h_copy : sim_copy Rel) (h_mean : sim_mean Rel) (h_text : sim_text Rel) (h_put : sim_put Rel) (h_fault : sim_fault Rel) (h_front : sim_front Rel) (h_hut : sim_hut Rel) (h_mark : sim_mark Rel) (h_tires : sim_tires Rel) (h_winter : sim_winter Rel) (h_feed : sim_feed Rel) (h_sell : sim_sell Rel) (h_storm : sim_storm Rel) (h_undo : sim_undo Rel) (h_keep : sim_keep Rel) (h_on : sim_on Rel) (h_then : sim_then Rel) (h_lost : sim_lost Rel) (h_order : sim_order Rel) (h_least : sim_least Rel) (h_vee : sim_vee Rel) (h_pairs : sim_pairs Rel) (h_kinds : sim_kinds Rel) (h_test : sim_test Rel) (h_flown : sim_flown Rel) (h_duel : sim_duel Rel) (h_odds : sim_odds Rel) (h_mid : sim_mid Rel) (h_lots : sim_lots Rel) (h_asked : sim_asked Rel) (h_upper : sim_upper Rel) (h_lower : sim_lower Rel) (h_count : sim_count Rel) (h_finding : sim_finding Rel) (h_findings : sim_findings Rel) (h_digest : sim_digest Rel) : ∀ (n i : Nat), i ≤ L + 6 → L < i + n → ∀ s t, Rel s t → ll_G L xs 18 [some (.ref 498), some (.ref 0), some (.ref 100), some (.int (nI i))] [] (ll_w s t) := by
  intro n
  induction n with
  | zero =>
    intro i hi hn s t hR
    exact ll_body hL h_row h_lay h_at h_tear h_copy h_mean h_text h_put h_fault h_front h_hut h_mark h_tires h_winter h_feed h_sell h_storm h_undo h_keep h_on h_then h_lost h_order h_least h_vee h_pairs h_kinds h_test h_flown h_duel h_odds h_mid h_lots h_asked h_upper h_lower h_count h_finding h_findings h_digest i (by omega) s t hR (fun s t hR h => by omega)
  | succ n ih =>
    intro i hi hn s t hR
    exact ll_body hL h_row h_lay h_at h_tear h_copy h_mean h_text h_put h_fault h_front h_hut h_mark h_tires h_winter h_feed h_sell h_storm h_undo h_keep h_on h_then h_lost h_order h_least h_vee h_pairs h_kinds h_test h_flown h_duel h_odds h_mid h_lots h_asked h_upper h_lower h_count h_finding h_findings h_digest i (by omega) s t hR (fun s t hR h => ih (i + 6) (by omega) (by omega) s t hR)
