set_option maxHeartbeats 4000000 in
set_option maxRecDepth 100000 in
theorem lw_body {p : Program} {l : Launch} {e : Env} {s : State} {m : MethodId} {below : List Frame} {meth : Method} {c : Code} {b L : Nat} {xs : Nat → Int32} {dC : Nat → ClassId} {dI : Nat → Nat → Nat} {dA : Nat → ClassId} {adK adV : Nat → Nat} {a_o : Nat} {ad : Nat → Nat} {n : Nat} {i cells slots : Nat} {H : Heap} {locs : List Loc} {ls : Array Slot} {Q : State → Prop} (hn : 10000000000000 ≤ n) (C0 : lw_At p s m meth c b L xs) (hZ : zx adK adV (fun q => s.heap.size ≤ q) s s.heap) (hK : va_K (dC, dI) zz_cls (zz_tys dA) s) (hi : i + 6 ≤ L) (hL : L ≤ 3072) (hroom : cells + 6 ≤ 600000 ∧ slots + 947 ≤ 7302250) (hst : lw_S dC dI dA (fun q => s.heap.size ≤ q) a_o ad H) (hS : va_S (fun q => s.heap.size ≤ q) s.heap H locs) (hl : lv_has ls 4 [(0, .ref b), (1, .ref a_o), (2, .ref (ad 0)), (3, .int (nI i))]) (hG : ∀ (H : Heap) (locs : List Loc), lw_S dC dI dA (fun q => s.heap.size ≤ q) a_o ad H → va_S (fun q => s.heap.size ≤ q) s.heap H locs → W p l e room_1 s m #[Value.ref b] below meth c H locs (cells + 6) (slots + 947) Q (F0 m 1394 ls [])) : W p l e room_1 s m #[Value.ref b] below meth c H locs cells slots Q (F0 m 27 ls []) := by
  obtain ⟨hx, hb, hr, hml, hown, hts, hX, hbl, hlocks, hgv⟩ := id C0
  have hbA : ¬ (fun q : Nat => s.heap.size ≤ q) b := Nat.not_le.mpr hbl
  refine lv_aload_n (pc := 27) hx hb d_law_27 rfl (lv_at hl 0 rfl) ?_
  refine lv_iload_n (pc := 28) hx hb d_law_28 rfl (lv_at hl 3 rfl) ?_
  refine va_sld (pc := 29) hx hb hX hbl hbA hS (vp_in_nI (by omega) (by omega)) d_law_29 ?_
  refine lv_bipush (v := (63 : Int32)) (pc := 30) hx hb d_law_30 (by decide) ?_
  refine lv_iand (pc := 32) hx hb d_law_32 ?_
  obtain ⟨v, hv⟩ : ∃ v : Int32, some (xs (nI i).toNatClampNeg &&& (63 : Int32)) = some v := ⟨_, rfl⟩
  refine zw_top hv ?_
  refine lw_open hst (fun q T I0 I1 a_tape a_c a_c_bars a_c_gives a_c_rough a_c_code a_sp a_sp_bars a_sp_gives a_sp_rough a_sp_code a_rd a_now a_tri a_pasts a_past a_trayss a_tr a_trn a_w a_w_told a_w_facts a_w_stack a_m a_m_deeds a_m_ends a_g a_g_order a_g_depth a_g_from a_rw a_rw_wanted a_k1 a_k2 a_lv a_sl a_dep a_sh a_ics a_ips a_s1 a_s2 f_o_undoable b_tape f_c_top f_c_things f_c_startRung f_c_startThings f_c_startStrength f_c_startWind f_c_slips f_c_lines f_c_coded f_c_tiresFrom f_c_tiresTo f_c_mayFrom f_c_mayTo b_c_bars b_c_gives b_c_rough b_c_code f_sp_top f_sp_things f_sp_startRung f_sp_startThings f_sp_startStrength f_sp_startWind f_sp_slips f_sp_lines f_sp_coded f_sp_tiresFrom f_sp_tiresTo f_sp_mayFrom f_sp_mayTo b_sp_bars b_sp_gives b_sp_rough b_sp_code f_rd_length f_rd_start f_rd_end f_rd_kind f_rd_value w_rd_cliff f_rd_inMay f_rd_fault f_rd_place f_now_deeds f_tri_stand f_tri_wind f_tri_deeds f_past_stand f_past_wind f_past_deeds f_tr_missing f_tr_size f_tr_sort b_trn b_w_told b_w_facts b_w_stack f_m_found b_m_deeds b_m_ends f_g_size f_g_known b_g_order b_g_depth b_g_from f_rw_length b_rw_wanted b_k1 b_k2 b_lv f_sl_size f_sl_rung f_sl_whole f_sl_result f_sl_firstDeed b_dep f_sh_rungs x0 x1 y0 y1 h_thrown h_at h_behind h_size h_kind h_number h_wrong h_wrongAt h_reading h_toldWhy h_x h_standMany h_bestMany h_tail h_round1 e_all e_hasImage e_tape e_fresh e_reckoned e_words e_was e_stand e_then e_far e_known e_many e_manyThen e_shared e_bestShared e_row e_first e_on e_standBy e_stood e_likely e_rowSort e_rowMany e_numbers hKK hN hPa hT hCC hall htp htr hord hI0 hI1 hP hD => ?_)
  by_cases hc0 : v = (0 : Int32)
  · refine lv_tableIn (tgt := 204) (off := 171) (pc := 33) hx hb d_law_33 (by rw [hc0]; decide) (by rw [hc0]; decide) (by rw [hc0]; decide) rfl ?_
    exact lw_c_feed hn C0 hZ hK rfl hi hL hroom hKK hN hPa hT hCC hall htp htr hord hI0 hI1 hP hD hS hl hG
  by_cases hc1 : v = (1 : Int32)
  · refine lv_tableIn (tgt := 267) (off := 234) (pc := 33) hx hb d_law_33 (by rw [hc1]; decide) (by rw [hc1]; decide) (by rw [hc1]; decide) rfl ?_
    exact lw_c_cliff hn C0 hZ hK rfl hi hL hroom hKK hN hPa hT hCC hall htp htr hord hI0 hI1 hP hD hS hl hG
  by_cases hc2 : v = (2 : Int32)
  · refine lv_tableIn (tgt := 290) (off := 257) (pc := 33) hx hb d_law_33 (by rw [hc2]; decide) (by rw [hc2]; decide) (by rw [hc2]; decide) rfl ?_
    exact lw_c_fault hn C0 hZ hK rfl hi hL hroom hKK hN hPa hT hCC hall htp htr hord hI0 hI1 hP hD hS hl hG
  by_cases hc3 : v = (3 : Int32)
  · refine lv_tableIn (tgt := 313) (off := 280) (pc := 33) hx hb d_law_33 (by rw [hc3]; decide) (by rw [hc3]; decide) (by rw [hc3]; decide) rfl ?_
    exact lw_c_hole hn C0 hZ hK rfl hi hL hroom hKK hN hPa hT hCC hall htp htr hord hI0 hI1 hP hD hS hl hG
  by_cases hc4 : v = (4 : Int32)
  · refine lv_tableIn (tgt := 346) (off := 313) (pc := 33) hx hb d_law_33 (by rw [hc4]; decide) (by rw [hc4]; decide) (by rw [hc4]; decide) rfl ?_
    exact lw_c_why hn C0 hZ hK rfl hi hL hroom hKK hN hPa hT hCC hall htp htr hord hI0 hI1 hP hD hS hl hG
  by_cases hc5 : v = (5 : Int32)
  · refine lv_tableIn (tgt := 369) (off := 336) (pc := 33) hx hb d_law_33 (by rw [hc5]; decide) (by rw [hc5]; decide) (by rw [hc5]; decide) rfl ?_
    exact lw_c_by hn C0 hZ hK rfl hi hL hroom hKK hN hPa hT hCC hall htp htr hord hI0 hI1 hP hD hS hl hG
  by_cases hc6 : v = (6 : Int32)
  · refine lv_tableIn (tgt := 402) (off := 369) (pc := 33) hx hb d_law_33 (by rw [hc6]; decide) (by rw [hc6]; decide) (by rw [hc6]; decide) rfl ?_
    exact lw_c_act hn C0 hZ hK rfl hi hL hroom hKK hN hPa hT hCC hall htp htr hord hI0 hI1 hP hD hS hl hG
  by_cases hc7 : v = (7 : Int32)
  · refine lv_tableIn (tgt := 425) (off := 392) (pc := 33) hx hb d_law_33 (by rw [hc7]; decide) (by rw [hc7]; decide) (by rw [hc7]; decide) rfl ?_
    exact lw_c_wind hn C0 hZ hK rfl hi hL hroom hKK hN hPa hT hCC hall htp htr hord hI0 hI1 hP hD hS hl hG
  by_cases hc8 : v = (8 : Int32)
  · refine lv_tableIn (tgt := 448) (off := 415) (pc := 33) hx hb d_law_33 (by rw [hc8]; decide) (by rw [hc8]; decide) (by rw [hc8]; decide) rfl ?_
    exact lw_c_habit hn C0 hZ hK rfl hi hL hroom hKK hN hPa hT hCC hall htp htr hord hI0 hI1 hP hD hS hl hG
  by_cases hc9 : v = (9 : Int32)
  · refine lv_tableIn (tgt := 471) (off := 438) (pc := 33) hx hb d_law_33 (by rw [hc9]; decide) (by rw [hc9]; decide) (by rw [hc9]; decide) rfl ?_
    exact lw_c_undo hn C0 hZ hK rfl hi hL hroom hKK hN hPa hT hCC hall htp htr hord hI0 hI1 hP hD hS hl hG
  by_cases hc10 : v = (10 : Int32)
  · refine lv_tableIn (tgt := 494) (off := 461) (pc := 33) hx hb d_law_33 (by rw [hc10]; decide) (by rw [hc10]; decide) (by rw [hc10]; decide) rfl ?_
    exact lw_c_judge hn C0 hZ hK rfl hi hL hroom hKK hN hPa hT hCC hall htp htr hord hI0 hI1 hP hD hS hl hG
  by_cases hc11 : v = (11 : Int32)
  · refine lv_tableIn (tgt := 527) (off := 494) (pc := 33) hx hb d_law_33 (by rw [hc11]; decide) (by rw [hc11]; decide) (by rw [hc11]; decide) rfl ?_
    exact lw_c_perform hn C0 hZ hK rfl hi hL hroom hKK hN hPa hT hCC hall htp htr hord hI0 hI1 hP hD hS hl hG
  by_cases hc12 : v = (12 : Int32)
  · refine lv_tableIn (tgt := 550) (off := 517) (pc := 33) hx hb d_law_33 (by rw [hc12]; decide) (by rw [hc12]; decide) (by rw [hc12]; decide) rfl ?_
    exact lw_c_year hn C0 hZ hK rfl hi hL hroom hKK hN hPa hT hCC hall htp htr hord hI0 hI1 hP hD hS hl hG
  by_cases hc13 : v = (13 : Int32)
  · refine lv_tableIn (tgt := 583) (off := 550) (pc := 33) hx hb d_law_33 (by rw [hc13]; decide) (by rw [hc13]; decide) (by rw [hc13]; decide) rfl ?_
    exact lw_c_soonest hn C0 hZ hK rfl hi hL hroom hKK hN hPa hT hCC hall htp htr hord hI0 hI1 hP hD hS hl hG
  by_cases hc14 : v = (14 : Int32)
  · refine lv_tableIn (tgt := 616) (off := 583) (pc := 33) hx hb d_law_33 (by rw [hc14]; decide) (by rw [hc14]; decide) (by rw [hc14]; decide) rfl ?_
    exact lw_c_way hn C0 hZ hK rfl hi hL hroom hKK hN hPa hT hCC hall htp htr hord hI0 hI1 hP hD hS hl hG
  by_cases hc15 : v = (15 : Int32)
  · refine lv_tableIn (tgt := 659) (off := 626) (pc := 33) hx hb d_law_33 (by rw [hc15]; decide) (by rw [hc15]; decide) (by rw [hc15]; decide) rfl ?_
    exact lw_c_rows hn C0 hZ hK rfl hi hL hroom hKK hN hPa hT hCC hall htp htr hord hI0 hI1 hP hD hS hl hG
  by_cases hc16 : v = (16 : Int32)
  · refine lv_tableIn (tgt := 703) (off := 670) (pc := 33) hx hb d_law_33 (by rw [hc16]; decide) (by rw [hc16]; decide) (by rw [hc16]; decide) rfl ?_
    exact lw_c_highest hn C0 hZ hK rfl hi hL hroom hKK hN hPa hT hCC hall htp htr hord hI0 hI1 hP hD hS hl hG
  by_cases hc17 : v = (17 : Int32)
  · refine lv_tableIn (tgt := 726) (off := 693) (pc := 33) hx hb d_law_33 (by rw [hc17]; decide) (by rw [hc17]; decide) (by rw [hc17]; decide) rfl ?_
    exact lw_c_most hn C0 hZ hK rfl hi hL hroom hKK hN hPa hT hCC hall htp htr hord hI0 hI1 hP hD hS hl hG
  by_cases hc18 : v = (18 : Int32)
  · refine lv_tableIn (tgt := 759) (off := 726) (pc := 33) hx hb d_law_33 (by rw [hc18]; decide) (by rw [hc18]; decide) (by rw [hc18]; decide) rfl ?_
    exact lw_c_loses hn C0 hZ hK rfl hi hL hroom hKK hN hPa hT hCC hall htp htr hord hI0 hI1 hP hD hS hl hG
  by_cases hc19 : v = (19 : Int32)
  · refine lv_tableIn (tgt := 782) (off := 749) (pc := 33) hx hb d_law_33 (by rw [hc19]; decide) (by rw [hc19]; decide) (by rw [hc19]; decide) rfl ?_
    exact lw_c_stands hn C0 hZ hK rfl hi hL hroom hKK hN hPa hT hCC hall htp htr hord hI0 hI1 hP hD hS hl hG
  by_cases hc20 : v = (20 : Int32)
  · refine lv_tableIn (tgt := 795) (off := 762) (pc := 33) hx hb d_law_33 (by rw [hc20]; decide) (by rw [hc20]; decide) (by rw [hc20]; decide) rfl ?_
    exact lw_c_lands hn C0 hZ hK rfl hi hL hroom hKK hN hPa hT hCC hall htp htr hord hI0 hI1 hP hD hS hl hG
  by_cases hc21 : v = (21 : Int32)
  · refine lv_tableIn (tgt := 828) (off := 795) (pc := 33) hx hb d_law_33 (by rw [hc21]; decide) (by rw [hc21]; decide) (by rw [hc21]; decide) rfl ?_
    exact lw_c_shares hn C0 hZ hK rfl hi hL hroom hKK hN hPa hT hCC hall htp htr hord hI0 hI1 hP hD hS hl hG
  by_cases hc22 : v = (22 : Int32)
  · refine lv_tableIn (tgt := 871) (off := 838) (pc := 33) hx hb d_law_33 (by rw [hc22]; decide) (by rw [hc22]; decide) (by rw [hc22]; decide) rfl ?_
    exact lw_c_lies hn C0 hZ hK rfl hi hL hroom hKK hN hPa hT hCC hall htp htr hord hI0 hI1 hP hD hS hl hG
  by_cases hc23 : v = (23 : Int32)
  · refine lv_tableIn (tgt := 894) (off := 861) (pc := 33) hx hb d_law_33 (by rw [hc23]; decide) (by rw [hc23]; decide) (by rw [hc23]; decide) rfl ?_
    exact lw_c_round hn C0 hZ hK rfl hi hL hroom hKK hN hPa hT hCC hall htp htr hord hI0 hI1 hP hD hS hl hG
  by_cases hc24 : v = (24 : Int32)
  · refine lv_tableIn (tgt := 917) (off := 884) (pc := 33) hx hb d_law_33 (by rw [hc24]; decide) (by rw [hc24]; decide) (by rw [hc24]; decide) rfl ?_
    exact lw_c_when hn C0 hZ hK rfl hi hL hroom hKK hN hPa hT hCC hall htp htr hord hI0 hI1 hP hD hS hl hG
  by_cases hc25 : v = (25 : Int32)
  · refine lv_tableIn (tgt := 940) (off := 907) (pc := 33) hx hb d_law_33 (by rw [hc25]; decide) (by rw [hc25]; decide) (by rw [hc25]; decide) rfl ?_
    exact lw_c_seen hn C0 hZ hK rfl hi hL hroom hKK hN hPa hT hCC hall htp htr hord hI0 hI1 hP hD hS hl hG
  by_cases hc26 : v = (26 : Int32)
  · refine lv_tableIn (tgt := 964) (off := 931) (pc := 33) hx hb d_law_33 (by rw [hc26]; decide) (by rw [hc26]; decide) (by rw [hc26]; decide) rfl ?_
    exact lw_c_seenBy hn C0 hZ hK rfl hi hL hroom hKK hN hPa hT hCC hall htp htr hord hI0 hI1 hP hD hS hl hG
  by_cases hc27 : v = (27 : Int32)
  · refine lv_tableIn (tgt := 997) (off := 964) (pc := 33) hx hb d_law_33 (by rw [hc27]; decide) (by rw [hc27]; decide) (by rw [hc27]; decide) rfl ?_
    exact lw_c_surely hn C0 hZ hK rfl hi hL hroom hKK hN hPa hT hCC hall htp htr hord hI0 hI1 hP hD hS hl hG
  by_cases hc28 : v = (28 : Int32)
  · refine lv_tableIn (tgt := 1020) (off := 987) (pc := 33) hx hb d_law_33 (by rw [hc28]; decide) (by rw [hc28]; decide) (by rw [hc28]; decide) rfl ?_
    exact lw_c_winds hn C0 hZ hK rfl hi hL hroom hKK hN hPa hT hCC hall htp htr hord hI0 hI1 hP hD hS hl hG
  by_cases hc29 : v = (29 : Int32)
  · refine lv_tableIn (tgt := 1043) (off := 1010) (pc := 33) hx hb d_law_33 (by rw [hc29]; decide) (by rw [hc29]; decide) (by rw [hc29]; decide) rfl ?_
    exact lw_c_attempt hn C0 hZ hK rfl hi hL hroom hKK hN hPa hT hCC hall htp htr hord hI0 hI1 hP hD hS hl hG
  by_cases hc30 : v = (30 : Int32)
  · refine lv_tableIn (tgt := 1066) (off := 1033) (pc := 33) hx hb d_law_33 (by rw [hc30]; decide) (by rw [hc30]; decide) (by rw [hc30]; decide) rfl ?_
    exact lw_c_withstands hn C0 hZ hK rfl hi hL hroom hKK hN hPa hT hCC hall htp htr hord hI0 hI1 hP hD hS hl hG
  by_cases hc31 : v = (31 : Int32)
  · refine lv_tableIn (tgt := 1089) (off := 1056) (pc := 33) hx hb d_law_33 (by rw [hc31]; decide) (by rw [hc31]; decide) (by rw [hc31]; decide) rfl ?_
    exact lw_c_chance hn C0 hZ hK rfl hi hL hroom hKK hN hPa hT hCC hall htp htr hord hI0 hI1 hP hD hS hl hG
  by_cases hc32 : v = (32 : Int32)
  · refine lv_tableIn (tgt := 1132) (off := 1099) (pc := 33) hx hb d_law_33 (by rw [hc32]; decide) (by rw [hc32]; decide) (by rw [hc32]; decide) rfl ?_
    exact lw_c_best hn C0 hZ hK rfl hi hL hroom hKK hN hPa hT hCC hall htp htr hord hI0 hI1 hP hD hS hl hG
  by_cases hc33 : v = (33 : Int32)
  · refine lv_tableIn (tgt := 1165) (off := 1132) (pc := 33) hx hb d_law_33 (by rw [hc33]; decide) (by rw [hc33]; decide) (by rw [hc33]; decide) rfl ?_
    exact lw_c_numbers hn C0 hZ hK rfl hi hL hroom hKK hN hPa hT hCC hall htp htr hord hI0 hI1 hP hD hS hl hG
  by_cases hc34 : v = (34 : Int32)
  · refine lv_tableIn (tgt := 1208) (off := 1175) (pc := 33) hx hb d_law_33 (by rw [hc34]; decide) (by rw [hc34]; decide) (by rw [hc34]; decide) rfl ?_
    exact lw_c_write hn C0 hZ hK rfl hi hL hroom hKK hN hPa hT hCC hall htp htr hord hI0 hI1 hP hD hS hl hG
  by_cases hc35 : v = (35 : Int32)
  · refine lv_tableIn (tgt := 1282) (off := 1249) (pc := 33) hx hb d_law_33 (by rw [hc35]; decide) (by rw [hc35]; decide) (by rw [hc35]; decide) rfl ?_
    exact lw_c_lists hn C0 hZ hK rfl hi hL hroom hKK hN hPa hT hCC hall htp htr hord hI0 hI1 hP hD hS hl hG
  by_cases hc36 : v = (36 : Int32)
  · refine lv_tableIn (tgt := 1325) (off := 1292) (pc := 33) hx hb d_law_33 (by rw [hc36]; decide) (by rw [hc36]; decide) (by rw [hc36]; decide) rfl ?_
    exact lw_c_image hn C0 hZ hK rfl hi hL hroom hKK hN hPa hT hCC hall htp htr hord hI0 hI1 hP hD hS hl hG
  by_cases hc37 : v = (37 : Int32)
  · refine lv_tableIn (tgt := 1348) (off := 1315) (pc := 33) hx hb d_law_33 (by rw [hc37]; decide) (by rw [hc37]; decide) (by rw [hc37]; decide) rfl ?_
    exact lw_c_restore hn C0 hZ hK rfl hi hL hroom hKK hN hPa hT hCC hall htp htr hord hI0 hI1 hP hD hS hl hG
  by_cases hc38 : v = (38 : Int32)
  · refine lv_tableIn (tgt := 1371) (off := 1338) (pc := 33) hx hb d_law_33 (by rw [hc38]; decide) (by rw [hc38]; decide) (by rw [hc38]; decide) rfl ?_
    exact lw_c_count hn C0 hZ hK rfl hi hL hroom hKK hN hPa hT hCC hall htp htr hord hI0 hI1 hP hD hS hl hG
  refine lv_tableOut (tgt := 1394) (pc := 33) hx hb d_law_33 (by have q0 := lv_neT (a := 0) hc0 (by decide); have q1 := lv_neT (a := 1) hc1 (by decide); have q2 := lv_neT (a := 2) hc2 (by decide); have q3 := lv_neT (a := 3) hc3 (by decide); have q4 := lv_neT (a := 4) hc4 (by decide); have q5 := lv_neT (a := 5) hc5 (by decide); have q6 := lv_neT (a := 6) hc6 (by decide); have q7 := lv_neT (a := 7) hc7 (by decide); have q8 := lv_neT (a := 8) hc8 (by decide); have q9 := lv_neT (a := 9) hc9 (by decide); have q10 := lv_neT (a := 10) hc10 (by decide); have q11 := lv_neT (a := 11) hc11 (by decide); have q12 := lv_neT (a := 12) hc12 (by decide); have q13 := lv_neT (a := 13) hc13 (by decide); have q14 := lv_neT (a := 14) hc14 (by decide); have q15 := lv_neT (a := 15) hc15 (by decide); have q16 := lv_neT (a := 16) hc16 (by decide); have q17 := lv_neT (a := 17) hc17 (by decide); have q18 := lv_neT (a := 18) hc18 (by decide); have q19 := lv_neT (a := 19) hc19 (by decide); have q20 := lv_neT (a := 20) hc20 (by decide); have q21 := lv_neT (a := 21) hc21 (by decide); have q22 := lv_neT (a := 22) hc22 (by decide); have q23 := lv_neT (a := 23) hc23 (by decide); have q24 := lv_neT (a := 24) hc24 (by decide); have q25 := lv_neT (a := 25) hc25 (by decide); have q26 := lv_neT (a := 26) hc26 (by decide); have q27 := lv_neT (a := 27) hc27 (by decide); have q28 := lv_neT (a := 28) hc28 (by decide); have q29 := lv_neT (a := 29) hc29 (by decide); have q30 := lv_neT (a := 30) hc30 (by decide); have q31 := lv_neT (a := 31) hc31 (by decide); have q32 := lv_neT (a := 32) hc32 (by decide); have q33 := lv_neT (a := 33) hc33 (by decide); have q34 := lv_neT (a := 34) hc34 (by decide); have q35 := lv_neT (a := 35) hc35 (by decide); have q36 := lv_neT (a := 36) hc36 (by decide); have q37 := lv_neT (a := 37) hc37 (by decide); have q38 := lv_neT (a := 38) hc38 (by decide); omega) rfl ?_
  refine W.widen (k := cells + 6) (n := slots + 947) (by omega) (by omega) ?_
  exact hG _ _ hst hS
theorem lw_cmp {i L : Nat} (hi : i ≤ 4000) (hL : L ≤ 3072) : Int32.ofNat L - (6 : Int32) < nI i ↔ L < i + 6 := by
  rw [Int32.lt_iff_toInt_lt, pn_toInt (by omega)]
  have h1 : (Int32.ofNat L - (6 : Int32)).toInt = (L : Int) - 6 := by
    by_cases h : 6 ≤ L
    · rw [show Int32.ofNat L - (6 : Int32) = nI (L - 6) from pn_sub h, pn_toInt (by omega)]; omega
    · have : L = 0 ∨ L = 1 ∨ L = 2 ∨ L = 3 ∨ L = 4 ∨ L = 5 := by omega
      rcases this with rfl | rfl | rfl | rfl | rfl | rfl <;> decide
  rw [h1]; omega
set_option maxHeartbeats 4000000 in
set_option maxRecDepth 100000 in
theorem lw_loop {p : Program} {l : Launch} {e : Env} {s : State} {m : MethodId} {below : List Frame} {meth : Method} {c : Code} {b L : Nat} {xs : Nat → Int32} {dC : Nat → ClassId} {dI : Nat → Nat → Nat} {dA : Nat → ClassId} {adK adV : Nat → Nat} {a_o : Nat} {ad : Nat → Nat} {n : Nat} (hn : 10000000000000 ≤ n) (hL : L ≤ 3072) (C0 : lw_At p s m meth c b L xs) (hZ : zx adK adV (fun q => s.heap.size ≤ q) s s.heap) (hK : va_K (dC, dI) zz_cls (zz_tys dA) s) : ∀ (k i cells slots : Nat) (H : Heap) (locs : List Loc) (ls : Array Slot), L < i + 6 * k + 6 → i ≤ 3072 → cells + 6 * k ≤ 600000 → slots + 947 * k ≤ 7302250 → lw_S dC dI dA (fun q => s.heap.size ≤ q) a_o ad H → va_S (fun q => s.heap.size ≤ q) s.heap H locs → lv_has ls 4 [(0, .ref b), (1, .ref a_o), (2, .ref (ad 0)), (3, .int (nI i))] → W p l e room_1 s m #[Value.ref b] below meth c H locs cells slots (lw_Z below #[Value.ref b] s) (F0 m 18 ls []) := by
  obtain ⟨hx, hb, hr, hml, hown, hts, hX, hbl, hlocks, hgv⟩ := id C0
  have hbA : ¬ (fun q : Nat => s.heap.size ≤ q) b := Nat.not_le.mpr hbl
  intro k
  induction k with
  | zero =>
    intro i cells slots H locs ls h1 h2 h3 h4 hst hS hl
    refine lv_iload_n (pc := 18) hx hb d_law_18 rfl (lv_at hl 3 rfl) ?_
    refine lv_aload_n (pc := 19) hx hb d_law_19 rfl (lv_at hl 0 rfl) ?_
    refine va_slen (pc := 20) hx hb hX hbl hbA hS d_law_20 ?_
    refine lv_bipush (v := (6 : Int32)) (pc := 21) hx hb d_law_21 (by decide) ?_
    refine lv_isub (pc := 23) hx hb d_law_23 ?_
    refine lv_icmp_gt (tgt := 1400) (pc := 24) hx hb d_law_24 rfl (fun hc => ?_) (fun hc => absurd ((lw_cmp (by omega) hL).mpr (by omega)) hc)
    refine lv_iconst (v := (1 : Int32)) (pc := 1400) hx hb d_law_1400 (by decide) ?_
    refine va_forget (fun q hq => hS.2.2 q hq) ?_
    refine W.widen (k := 600000) (n := 7302250) (by omega) (by omega) ?_
    exact lw_ret hx hb hr hlocks d_law_1401
  | succ k ih =>
    intro i cells slots H locs ls h1 h2 h3 h4 hst hS hl
    refine lv_iload_n (pc := 18) hx hb d_law_18 rfl (lv_at hl 3 rfl) ?_
    refine lv_aload_n (pc := 19) hx hb d_law_19 rfl (lv_at hl 0 rfl) ?_
    refine va_slen (pc := 20) hx hb hX hbl hbA hS d_law_20 ?_
    refine lv_bipush (v := (6 : Int32)) (pc := 21) hx hb d_law_21 (by decide) ?_
    refine lv_isub (pc := 23) hx hb d_law_23 ?_
    refine lv_icmp_gt (tgt := 1400) (pc := 24) hx hb d_law_24 rfl (fun hc => ?_) (fun hc => ?_)
    · refine lv_iconst (v := (1 : Int32)) (pc := 1400) hx hb d_law_1400 (by decide) ?_
      refine va_forget (fun q hq => hS.2.2 q hq) ?_
      refine W.widen (k := 600000) (n := 7302250) (by omega) (by omega) ?_
      exact lw_ret hx hb hr hlocks d_law_1401
    · have hi : i + 6 ≤ L := by
        rcases Nat.lt_or_ge L (i + 6) with z | z
        · exact absurd ((lw_cmp (by omega) hL).mpr z) hc
        · exact z
      refine lw_body hn C0 hZ hK hi hL ⟨by omega, by omega⟩ hst hS hl (fun H locs hst hS => ?_)
      refine lv_iinc (v := nI (i + 6)) (lv' := [(3, .int (nI (i + 6))), (0, .ref b), (1, .ref a_o), (2, .ref (ad 0))]) (k := 3) (pc := 1394) hx hb d_law_1394 hl rfl (show nI i + (6 : Int32) = nI (i + 6) from pn_add i 6) (by decide) rfl (fun ls hl => ?_)
      refine lv_goto (tgt := 18) (pc := 1397) hx hb d_law_1397 rfl ?_
      exact ih (i + 6) (cells + 6) (slots + 947) H locs ls (by omega) (by omega) (by omega) (by omega) hst hS (lv_sub hl [1, 2, 3, 0] rfl)
