abbrev rm_ShutWays_count : Room := { frames := 2, cells := 0, slots := 0, locals := 42 }
def Wd_ShutWays_count (g : Gd) (p_a0 : Nat) (p_a0_plan : Nat) (p_a0_plan_streets : Nat) (p_a0_plan_lanes : Nat) (p_a0_today : Nat) (p_a0_today_shut : Nat) (p_a0_text : Nat) (u_a0_draft : Value) (u_a0_trial : Value) (u_a0_kept : Value) (u_a0_isKept : Value) (u_a0_levels : Value) (u_a0_way : Value) (u_a0_councils : Value) (u_a0_told : Value) (v_a0_toldCount : Int32) (u_a0_trail : Value) (u_a0_passes : Value) (v_a0_plan_corners : Int32) (v_a0_plan_market : Int32) (v_a0_plan_quay : Int32) (v_a0_plan_hasOddEnds : Int32) (v_a0_plan_oddMarket : Int32) (v_a0_plan_oddQuay : Int32) (v_a0_plan_kind : Int32) (v_a0_plan_nights : Int32) (v_a0_plan_cart : Int32) (u_a0_plan_streets_from : Value) (u_a0_plan_streets_to : Value) (u_a0_plan_streets_yards : Value) (u_a0_plan_streets_paid : Value) (v_a0_plan_streets_count : Int32) (u_a0_plan_lanes_from : Value) (u_a0_plan_lanes_to : Value) (u_a0_plan_lanes_yards : Value) (u_a0_plan_lanes_paid : Value) (v_a0_plan_lanes_count : Int32) (v_a0_today_gone : Int32) (n_a0_today_shut : Nat) (f_a0_today_shut : Nat → Int32) (v_a0_text_length : Int32) (v_a0_text_lines : Int32) (u_a0_text_bytes : Value) (u_a0_text_sorts : Value) (v_a0_text_sort : Int32) (v_a0_text_start : Int32) (v_a0_text_at : Int32) (v_a0_text_value : Int32) (v_a0_text_corner : Int32) (v_a0_text_otherCorner : Int32) : va_W := [(p_a0, .inr (10, [.ref p_a0_text, .ref p_a0_plan, u_a0_draft, .ref p_a0_today, u_a0_trial, u_a0_kept, u_a0_isKept, u_a0_levels, u_a0_way, u_a0_councils, u_a0_told, .int v_a0_toldCount, u_a0_trail, u_a0_passes])), (p_a0_plan, .inr (5, [.ref p_a0_plan_streets, .ref p_a0_plan_lanes, .int v_a0_plan_corners, .int v_a0_plan_market, .int v_a0_plan_quay, .int v_a0_plan_hasOddEnds, .int v_a0_plan_oddMarket, .int v_a0_plan_oddQuay, .int v_a0_plan_kind, .int v_a0_plan_nights, .int v_a0_plan_cart])), (p_a0_plan_streets, .inr (6, [u_a0_plan_streets_from, u_a0_plan_streets_to, u_a0_plan_streets_yards, u_a0_plan_streets_paid, .int v_a0_plan_streets_count])), (p_a0_plan_lanes, .inr (6, [u_a0_plan_lanes_from, u_a0_plan_lanes_to, u_a0_plan_lanes_yards, u_a0_plan_lanes_paid, .int v_a0_plan_lanes_count])), (p_a0_today, .inr (0, [.int v_a0_today_gone, .ref p_a0_today_shut])), (p_a0_today_shut, .inl (g.2.1 0, n_a0_today_shut, .inl f_a0_today_shut)), (p_a0_text, .inr (7, [.int v_a0_text_length, .int v_a0_text_lines, u_a0_text_bytes, u_a0_text_sorts, .int v_a0_text_sort, .int v_a0_text_start, .int v_a0_text_at, .int v_a0_text_value, .int v_a0_text_corner, .int v_a0_text_otherCorner]))]
theorem iw_ShutWays_count_1 : ∀ w ∈ wsX10, w ∈ wsX11_count := fun w h => List.mem_cons_of_mem _ (List.mem_append_left _ (List.mem_append_right _ h))
theorem iw_ShutWays_count_6 : ∀ w ∈ wsX60, w ∈ wsX11_count := fun w h => List.mem_cons_of_mem _ (List.mem_append_left _ (List.mem_append_left _ (List.mem_append_left _ (List.mem_append_right _ h))))
theorem iw_ShutWays_count_7 : ∀ w ∈ wsX70, w ∈ wsX11_count := fun w h => List.mem_cons_of_mem _ (List.mem_append_left _ (List.mem_append_left _ (List.mem_append_right _ h)))
theorem iw_ShutWays_count_8 : ∀ w ∈ wsX80, w ∈ wsX11_count := fun w h => List.mem_cons_of_mem _ (List.mem_append_right _ h)
theorem iw_ShutWays_count_11 : ∀ w ∈ wsX110, w ∈ wsX11_count := fun w h => List.mem_cons_of_mem _ (List.mem_append_left _ (List.mem_append_left _ (List.mem_append_left _ (List.mem_append_left _ (List.mem_append_right _ h)))))
theorem fl_19_ShutWays_count : Cond.fieldLink RX11 19 "ShutWays" (TX11 1).2.1 (TX11 1).2.2.1 ∈ wsX11_count := by decide +kernel
theorem fl_200_ShutWays_count : Cond.fieldLink RX11 200 "ShutWays$Plan" (TX6 2).2.1 (TX6 2).2.2.1 ∈ wsX11_count := by decide +kernel
theorem fl_115_ShutWays_count : Cond.fieldLink RX11 115 "ShutWays$Plan" (TX6 0).2.1 (TX6 0).2.2.1 ∈ wsX11_count := by decide +kernel
theorem fl_223_ShutWays_count : Cond.fieldLink RX11 223 "ShutWays$Roads" (TX7 4).2.1 (TX7 4).2.2.1 ∈ wsX11_count := by decide +kernel
theorem fl_132_ShutWays_count : Cond.fieldLink RX11 132 "ShutWays$Plan" (TX6 1).2.1 (TX6 1).2.2.1 ∈ wsX11_count := by decide +kernel
theorem fl_244_ShutWays_count : Cond.fieldLink RX11 244 "ShutWays$Plan" (TX6 8).2.1 (TX6 8).2.2.1 ∈ wsX11_count := by decide +kernel
theorem fl_247_ShutWays_count : Cond.fieldLink RX11 247 "ShutWays$Plan" (TX6 9).2.1 (TX6 9).2.2.1 ∈ wsX11_count := by decide +kernel
theorem fl_250_ShutWays_count : Cond.fieldLink RX11 250 "ShutWays$Plan" (TX6 10).2.1 (TX6 10).2.2.1 ∈ wsX11_count := by decide +kernel
theorem fl_29_ShutWays_count : Cond.fieldLink RX11 29 "ShutWays" (TX11 3).2.1 (TX11 3).2.2.1 ∈ wsX11_count := by decide +kernel
theorem fl_163_ShutWays_count : Cond.fieldLink RX11 163 "ShutWays$Days" (TX1 0).2.1 (TX1 0).2.2.1 ∈ wsX11_count := by decide +kernel
theorem fl_76_ShutWays_count : Cond.fieldLink RX11 76 "ShutWays" (TX11 11).2.1 (TX11 11).2.2.1 ∈ wsX11_count := by decide +kernel
theorem fl_12_ShutWays_count : Cond.fieldLink RX11 12 "ShutWays" (TX11 0).2.1 (TX11 0).2.2.1 ∈ wsX11_count := by decide +kernel
theorem fl_98_ShutWays_count : Cond.fieldLink RX11 98 "ShutWays$Text" (TX8 0).2.1 (TX8 0).2.2.1 ∈ wsX11_count := by decide +kernel
noncomputable def f_ShutWays_count (x1 : Int32) (v_a0_toldCount : Int32) (v_a0_plan_corners : Int32) (v_a0_plan_market : Int32) (v_a0_plan_quay : Int32) (v_a0_plan_hasOddEnds : Int32) (v_a0_plan_oddMarket : Int32) (v_a0_plan_oddQuay : Int32) (v_a0_plan_kind : Int32) (v_a0_plan_nights : Int32) (v_a0_plan_cart : Int32) (v_a0_plan_streets_count : Int32) (v_a0_plan_lanes_count : Int32) (v_a0_today_gone : Int32) (n_a0_today_shut : Nat) (f_a0_today_shut : Nat → Int32) (v_a0_text_length : Int32) : Option (Int32) := if x1 = 0 then some v_a0_plan_corners else if x1 = 1 then some v_a0_plan_streets_count else if x1 = 2 then some v_a0_plan_lanes_count else if x1 = 3 then some v_a0_plan_kind else if x1 = 4 then some v_a0_plan_nights else if x1 = 5 then some v_a0_plan_cart else if x1 = 6 then some v_a0_today_gone else if x1 = 7 then some v_a0_toldCount else if x1 = 8 then (f_Days_shutSet n_a0_today_shut f_a0_today_shut).bind (fun r10 => some r10) else if x1 = 9 then (f_Plan_marketOf v_a0_today_gone v_a0_plan_market v_a0_plan_hasOddEnds v_a0_plan_oddMarket).bind (fun r13 => some r13) else if x1 = 10 then (f_Plan_quayOf v_a0_today_gone v_a0_plan_quay v_a0_plan_hasOddEnds v_a0_plan_oddQuay).bind (fun r16 => some r16) else if x1 = 11 then some v_a0_text_length else some (-3)
set_option maxHeartbeats 4000000 in
set_option maxRecDepth 100000 in
theorem c_ShutWays_count (l : Launch) (g : Gd) (p_a0 : Nat) (p_a0_plan : Nat) (p_a0_plan_streets : Nat) (p_a0_plan_lanes : Nat) (p_a0_today : Nat) (p_a0_today_shut : Nat) (p_a0_text : Nat) (u_a0_draft : Value) (u_a0_trial : Value) (u_a0_kept : Value) (u_a0_isKept : Value) (u_a0_levels : Value) (u_a0_way : Value) (u_a0_councils : Value) (u_a0_told : Value) (v_a0_toldCount : Int32) (u_a0_trail : Value) (u_a0_passes : Value) (v_a0_plan_corners : Int32) (v_a0_plan_market : Int32) (v_a0_plan_quay : Int32) (v_a0_plan_hasOddEnds : Int32) (v_a0_plan_oddMarket : Int32) (v_a0_plan_oddQuay : Int32) (v_a0_plan_kind : Int32) (v_a0_plan_nights : Int32) (v_a0_plan_cart : Int32) (u_a0_plan_streets_from : Value) (u_a0_plan_streets_to : Value) (u_a0_plan_streets_yards : Value) (u_a0_plan_streets_paid : Value) (v_a0_plan_streets_count : Int32) (u_a0_plan_lanes_from : Value) (u_a0_plan_lanes_to : Value) (u_a0_plan_lanes_yards : Value) (u_a0_plan_lanes_paid : Value) (v_a0_plan_lanes_count : Int32) (v_a0_today_gone : Int32) (n_a0_today_shut : Nat) (f_a0_today_shut : Nat → Int32) (v_a0_text_length : Int32) (v_a0_text_lines : Int32) (u_a0_text_bytes : Value) (u_a0_text_sorts : Value) (v_a0_text_sort : Int32) (v_a0_text_start : Int32) (v_a0_text_at : Int32) (v_a0_text_value : Int32) (v_a0_text_corner : Int32) (v_a0_text_otherCorner : Int32) (x1 : Int32) {ρ : Int32} (hf : f_ShutWays_count x1 v_a0_toldCount v_a0_plan_corners v_a0_plan_market v_a0_plan_quay v_a0_plan_hasOddEnds v_a0_plan_oddMarket v_a0_plan_oddQuay v_a0_plan_kind v_a0_plan_nights v_a0_plan_cart v_a0_plan_streets_count v_a0_plan_lanes_count v_a0_today_gone n_a0_today_shut f_a0_today_shut v_a0_text_length = some ρ) : CtI l g yX11_count wsX11_count rm_ShutWays_count [.ref p_a0, .int x1] (Wd_ShutWays_count g p_a0 p_a0_plan p_a0_plan_streets p_a0_plan_lanes p_a0_today p_a0_today_shut p_a0_text u_a0_draft u_a0_trial u_a0_kept u_a0_isKept u_a0_levels u_a0_way u_a0_councils u_a0_told v_a0_toldCount u_a0_trail u_a0_passes v_a0_plan_corners v_a0_plan_market v_a0_plan_quay v_a0_plan_hasOddEnds v_a0_plan_oddMarket v_a0_plan_oddQuay v_a0_plan_kind v_a0_plan_nights v_a0_plan_cart u_a0_plan_streets_from u_a0_plan_streets_to u_a0_plan_streets_yards u_a0_plan_streets_paid v_a0_plan_streets_count u_a0_plan_lanes_from u_a0_plan_lanes_to u_a0_plan_lanes_yards u_a0_plan_lanes_paid v_a0_plan_lanes_count v_a0_today_gone n_a0_today_shut f_a0_today_shut v_a0_text_length v_a0_text_lines u_a0_text_bytes u_a0_text_sorts v_a0_text_sort v_a0_text_start v_a0_text_at v_a0_text_value v_a0_text_corner v_a0_text_otherCorner) ρ (Wd_ShutWays_count g p_a0 p_a0_plan p_a0_plan_streets p_a0_plan_lanes p_a0_today p_a0_today_shut p_a0_text u_a0_draft u_a0_trial u_a0_kept u_a0_isKept u_a0_levels u_a0_way u_a0_councils u_a0_told v_a0_toldCount u_a0_trail u_a0_passes v_a0_plan_corners v_a0_plan_market v_a0_plan_quay v_a0_plan_hasOddEnds v_a0_plan_oddMarket v_a0_plan_oddQuay v_a0_plan_kind v_a0_plan_nights v_a0_plan_cart u_a0_plan_streets_from u_a0_plan_streets_to u_a0_plan_streets_yards u_a0_plan_streets_paid v_a0_plan_streets_count u_a0_plan_lanes_from u_a0_plan_lanes_to u_a0_plan_lanes_yards u_a0_plan_lanes_paid v_a0_plan_lanes_count v_a0_today_gone n_a0_today_shut f_a0_today_shut v_a0_text_length v_a0_text_lines u_a0_text_bytes u_a0_text_sorts v_a0_text_sort v_a0_text_start v_a0_text_at v_a0_text_value v_a0_text_corner v_a0_text_otherCorner) := by
  refine CtI.of (by decide) rfl rfl (Nat.le_of_ble_eq_true rfl) (fun E A _ C => ?_)
  unfold f_ShutWays_count at hf
  show J E rm_ShutWays_count g A 2 (QI E g A ρ (Wd_ShutWays_count g p_a0 p_a0_plan p_a0_plan_streets p_a0_plan_lanes p_a0_today p_a0_today_shut p_a0_text u_a0_draft u_a0_trial u_a0_kept u_a0_isKept u_a0_levels u_a0_way u_a0_councils u_a0_told v_a0_toldCount u_a0_trail u_a0_passes v_a0_plan_corners v_a0_plan_market v_a0_plan_quay v_a0_plan_hasOddEnds v_a0_plan_oddMarket v_a0_plan_oddQuay v_a0_plan_kind v_a0_plan_nights v_a0_plan_cart u_a0_plan_streets_from u_a0_plan_streets_to u_a0_plan_streets_yards u_a0_plan_streets_paid v_a0_plan_streets_count u_a0_plan_lanes_from u_a0_plan_lanes_to u_a0_plan_lanes_yards u_a0_plan_lanes_paid v_a0_plan_lanes_count v_a0_today_gone n_a0_today_shut f_a0_today_shut v_a0_text_length v_a0_text_lines u_a0_text_bytes u_a0_text_sorts v_a0_text_sort v_a0_text_start v_a0_text_at v_a0_text_value v_a0_text_corner v_a0_text_otherCorner) 0 0) 0 0 (Wd_ShutWays_count g p_a0 p_a0_plan p_a0_plan_streets p_a0_plan_lanes p_a0_today p_a0_today_shut p_a0_text u_a0_draft u_a0_trial u_a0_kept u_a0_isKept u_a0_levels u_a0_way u_a0_councils u_a0_told v_a0_toldCount u_a0_trail u_a0_passes v_a0_plan_corners v_a0_plan_market v_a0_plan_quay v_a0_plan_hasOddEnds v_a0_plan_oddMarket v_a0_plan_oddQuay v_a0_plan_kind v_a0_plan_nights v_a0_plan_cart u_a0_plan_streets_from u_a0_plan_streets_to u_a0_plan_streets_yards u_a0_plan_streets_paid v_a0_plan_streets_count u_a0_plan_lanes_from u_a0_plan_lanes_to u_a0_plan_lanes_yards u_a0_plan_lanes_paid v_a0_plan_lanes_count v_a0_today_gone n_a0_today_shut f_a0_today_shut v_a0_text_length v_a0_text_lines u_a0_text_bytes u_a0_text_sorts v_a0_text_sort v_a0_text_start v_a0_text_at v_a0_text_value v_a0_text_corner v_a0_text_otherCorner) [(0, .ref p_a0), (1, .int x1)] 0 []
  refine j_iload_n C 1 dX11_count_0 rfl rfl ?_
  by_cases c_1 : x1 = 0
  · replace hf := ifp c_1 hf
    refine j_tsIn C (v := 0) 64 dX11_count_1 c_1 (by decide) (by decide) (by rfl) (by decide) ?_
    refine j_aload_n C 0 dX11_count_64 rfl rfl ?_
    refine j_get C (ci := 10) 0 1 iw_ShutWays_count_11 rfl rfl (by decide) fl_19_ShutWays_count rfl rfl dX11_count_65 ?_
    refine j_get C (ci := 5) 1 2 iw_ShutWays_count_6 rfl rfl (by decide) fl_200_ShutWays_count rfl rfl dX11_count_68 ?_
    obtain rfl := Option.some.inj hf
    exact j_iret C dX11_count_71 rfl rfl
  · replace hf := ifn c_1 hf
    by_cases c_2 : x1 = 1
    · replace hf := ifp c_2 hf
      refine j_tsIn C (v := 1) 72 dX11_count_1 c_2 (by decide) (by decide) (by rfl) (by decide) ?_
      refine j_aload_n C 0 dX11_count_72 rfl rfl ?_
      refine j_get C (ci := 10) 0 1 iw_ShutWays_count_11 rfl rfl (by decide) fl_19_ShutWays_count rfl rfl dX11_count_73 ?_
      refine j_get C (ci := 5) 1 0 iw_ShutWays_count_6 rfl rfl (by decide) fl_115_ShutWays_count rfl rfl dX11_count_76 ?_
      refine j_get C (ci := 6) 2 4 iw_ShutWays_count_7 rfl rfl (by decide) fl_223_ShutWays_count rfl rfl dX11_count_79 ?_
      obtain rfl := Option.some.inj hf
      exact j_iret C dX11_count_82 rfl rfl
    · replace hf := ifn c_2 hf
      by_cases c_3 : x1 = 2
      · replace hf := ifp c_3 hf
        refine j_tsIn C (v := 2) 83 dX11_count_1 c_3 (by decide) (by decide) (by rfl) (by decide) ?_
        refine j_aload_n C 0 dX11_count_83 rfl rfl ?_
        refine j_get C (ci := 10) 0 1 iw_ShutWays_count_11 rfl rfl (by decide) fl_19_ShutWays_count rfl rfl dX11_count_84 ?_
        refine j_get C (ci := 5) 1 1 iw_ShutWays_count_6 rfl rfl (by decide) fl_132_ShutWays_count rfl rfl dX11_count_87 ?_
        refine j_get C (ci := 6) 3 4 iw_ShutWays_count_7 rfl rfl (by decide) fl_223_ShutWays_count rfl rfl dX11_count_90 ?_
        obtain rfl := Option.some.inj hf
        exact j_iret C dX11_count_93 rfl rfl
      · replace hf := ifn c_3 hf
        by_cases c_4 : x1 = 3
        · replace hf := ifp c_4 hf
          refine j_tsIn C (v := 3) 94 dX11_count_1 c_4 (by decide) (by decide) (by rfl) (by decide) ?_
          refine j_aload_n C 0 dX11_count_94 rfl rfl ?_
          refine j_get C (ci := 10) 0 1 iw_ShutWays_count_11 rfl rfl (by decide) fl_19_ShutWays_count rfl rfl dX11_count_95 ?_
          refine j_get C (ci := 5) 1 8 iw_ShutWays_count_6 rfl rfl (by decide) fl_244_ShutWays_count rfl rfl dX11_count_98 ?_
          obtain rfl := Option.some.inj hf
          exact j_iret C dX11_count_101 rfl rfl
        · replace hf := ifn c_4 hf
          by_cases c_5 : x1 = 4
          · replace hf := ifp c_5 hf
            refine j_tsIn C (v := 4) 102 dX11_count_1 c_5 (by decide) (by decide) (by rfl) (by decide) ?_
            refine j_aload_n C 0 dX11_count_102 rfl rfl ?_
            refine j_get C (ci := 10) 0 1 iw_ShutWays_count_11 rfl rfl (by decide) fl_19_ShutWays_count rfl rfl dX11_count_103 ?_
            refine j_get C (ci := 5) 1 9 iw_ShutWays_count_6 rfl rfl (by decide) fl_247_ShutWays_count rfl rfl dX11_count_106 ?_
            obtain rfl := Option.some.inj hf
            exact j_iret C dX11_count_109 rfl rfl
          · replace hf := ifn c_5 hf
            by_cases c_6 : x1 = 5
            · replace hf := ifp c_6 hf
              refine j_tsIn C (v := 5) 110 dX11_count_1 c_6 (by decide) (by decide) (by rfl) (by decide) ?_
              refine j_aload_n C 0 dX11_count_110 rfl rfl ?_
              refine j_get C (ci := 10) 0 1 iw_ShutWays_count_11 rfl rfl (by decide) fl_19_ShutWays_count rfl rfl dX11_count_111 ?_
              refine j_get C (ci := 5) 1 10 iw_ShutWays_count_6 rfl rfl (by decide) fl_250_ShutWays_count rfl rfl dX11_count_114 ?_
              obtain rfl := Option.some.inj hf
              exact j_iret C dX11_count_117 rfl rfl
            · replace hf := ifn c_6 hf
              by_cases c_7 : x1 = 6
              · replace hf := ifp c_7 hf
                refine j_tsIn C (v := 6) 118 dX11_count_1 c_7 (by decide) (by decide) (by rfl) (by decide) ?_
                refine j_aload_n C 0 dX11_count_118 rfl rfl ?_
                refine j_get C (ci := 10) 0 3 iw_ShutWays_count_11 rfl rfl (by decide) fl_29_ShutWays_count rfl rfl dX11_count_119 ?_
                refine j_get C (ci := 0) 4 0 iw_ShutWays_count_1 rfl rfl (by decide) fl_163_ShutWays_count rfl rfl dX11_count_122 ?_
                obtain rfl := Option.some.inj hf
                exact j_iret C dX11_count_125 rfl rfl
              · replace hf := ifn c_7 hf
                by_cases c_8 : x1 = 7
                · replace hf := ifp c_8 hf
                  refine j_tsIn C (v := 7) 126 dX11_count_1 c_8 (by decide) (by decide) (by rfl) (by decide) ?_
                  refine j_aload_n C 0 dX11_count_126 rfl rfl ?_
                  refine j_get C (ci := 10) 0 11 iw_ShutWays_count_11 rfl rfl (by decide) fl_76_ShutWays_count rfl rfl dX11_count_127 ?_
                  obtain rfl := Option.some.inj hf
                  exact j_iret C dX11_count_130 rfl rfl
                · replace hf := ifn c_8 hf
                  by_cases c_9 : x1 = 8
                  · replace hf := ifp c_9 hf
                    refine j_tsIn C (v := 8) 131 dX11_count_1 c_9 (by decide) (by decide) (by rfl) (by decide) ?_
                    refine j_aload_n C 0 dX11_count_131 rfl rfl ?_
                    refine j_get C (ci := 10) 0 3 iw_ShutWays_count_11 rfl rfl (by decide) fl_29_ShutWays_count rfl rfl dX11_count_132 ?_
                    obtain ⟨r10, hc11, hf⟩ := bnd hf
                    refine j_cvI C (n := 0) (ci := 0) [] [4, 5] [0, 1, 2, 3, 6] [0, 1, 2, 3, 5, 6, 4] (Wd_ShutWays_count g p_a0 p_a0_plan p_a0_plan_streets p_a0_plan_lanes p_a0_today p_a0_today_shut p_a0_text u_a0_draft u_a0_trial u_a0_kept u_a0_isKept u_a0_levels u_a0_way u_a0_councils u_a0_told v_a0_toldCount u_a0_trail u_a0_passes v_a0_plan_corners v_a0_plan_market v_a0_plan_quay v_a0_plan_hasOddEnds v_a0_plan_oddMarket v_a0_plan_oddQuay v_a0_plan_kind v_a0_plan_nights v_a0_plan_cart u_a0_plan_streets_from u_a0_plan_streets_to u_a0_plan_streets_yards u_a0_plan_streets_paid v_a0_plan_streets_count u_a0_plan_lanes_from u_a0_plan_lanes_to u_a0_plan_lanes_yards u_a0_plan_lanes_paid v_a0_plan_lanes_count v_a0_today_gone n_a0_today_shut f_a0_today_shut v_a0_text_length v_a0_text_lines u_a0_text_bytes u_a0_text_sorts v_a0_text_sort v_a0_text_start v_a0_text_at v_a0_text_value v_a0_text_corner v_a0_text_otherCorner) (c_Days_shutSet E.2.1 g p_a0_today p_a0_today_shut v_a0_today_gone n_a0_today_shut f_a0_today_shut hc11) gX11_count_X1_shutSet rfl rfl rfl (by decide +kernel) ⟨Nat.le_of_ble_eq_true rfl, Nat.le_of_ble_eq_true rfl⟩ rfl rfl (by decide) (by decide) (by decide) 0 rfl rfl (by decide) rfl rfl rfl (Nat.le_of_ble_eq_true rfl) ⟨Nat.zero_le _, Nat.zero_le _⟩ dX11_count_135 ?_
                    obtain rfl := Option.some.inj hf
                    exact j_iret C dX11_count_138 rfl rfl
                  · replace hf := ifn c_9 hf
                    by_cases c_12 : x1 = 9
                    · replace hf := ifp c_12 hf
                      refine j_tsIn C (v := 9) 139 dX11_count_1 c_12 (by decide) (by decide) (by rfl) (by decide) ?_
                      refine j_aload_n C 0 dX11_count_139 rfl rfl ?_
                      refine j_get C (ci := 10) 0 1 iw_ShutWays_count_11 rfl rfl (by decide) fl_19_ShutWays_count rfl rfl dX11_count_140 ?_
                      refine j_aload_n C 0 dX11_count_143 rfl rfl ?_
                      refine j_get C (ci := 10) 0 3 iw_ShutWays_count_11 rfl rfl (by decide) fl_29_ShutWays_count rfl rfl dX11_count_144 ?_
                      refine j_get C (ci := 0) 4 0 iw_ShutWays_count_1 rfl rfl (by decide) fl_163_ShutWays_count rfl rfl dX11_count_147 ?_
                      obtain ⟨r13, hc14, hf⟩ := bnd hf
                      refine j_cvI C (n := 1) (ci := 5) [.int v_a0_today_gone] [1] [0, 2, 3, 4, 5, 6] [0, 6, 1, 2, 3, 4, 5] (Wd_ShutWays_count g p_a0 p_a0_plan p_a0_plan_streets p_a0_plan_lanes p_a0_today p_a0_today_shut p_a0_text u_a0_draft u_a0_trial u_a0_kept u_a0_isKept u_a0_levels u_a0_way u_a0_councils u_a0_told v_a0_toldCount u_a0_trail u_a0_passes v_a0_plan_corners v_a0_plan_market v_a0_plan_quay v_a0_plan_hasOddEnds v_a0_plan_oddMarket v_a0_plan_oddQuay v_a0_plan_kind v_a0_plan_nights v_a0_plan_cart u_a0_plan_streets_from u_a0_plan_streets_to u_a0_plan_streets_yards u_a0_plan_streets_paid v_a0_plan_streets_count u_a0_plan_lanes_from u_a0_plan_lanes_to u_a0_plan_lanes_yards u_a0_plan_lanes_paid v_a0_plan_lanes_count v_a0_today_gone n_a0_today_shut f_a0_today_shut v_a0_text_length v_a0_text_lines u_a0_text_bytes u_a0_text_sorts v_a0_text_sort v_a0_text_start v_a0_text_at v_a0_text_value v_a0_text_corner v_a0_text_otherCorner) (c_Plan_marketOf E.2.1 g p_a0_plan (.ref p_a0_plan_streets) (.ref p_a0_plan_lanes) v_a0_plan_corners v_a0_plan_market v_a0_plan_quay v_a0_plan_hasOddEnds v_a0_plan_oddMarket v_a0_plan_oddQuay v_a0_plan_kind v_a0_plan_nights v_a0_plan_cart v_a0_today_gone hc14) gX11_count_X6_marketOf rfl rfl rfl (by decide +kernel) ⟨Nat.le_of_ble_eq_true rfl, Nat.le_of_ble_eq_true rfl⟩ rfl rfl (by decide) (by decide) (by decide) 0 rfl rfl (by decide) rfl rfl rfl (Nat.le_of_ble_eq_true rfl) ⟨Nat.zero_le _, Nat.zero_le _⟩ dX11_count_150 ?_
                      obtain rfl := Option.some.inj hf
                      exact j_iret C dX11_count_153 rfl rfl
                    · replace hf := ifn c_12 hf
                      by_cases c_15 : x1 = 10
                      · replace hf := ifp c_15 hf
                        refine j_tsIn C (v := 10) 154 dX11_count_1 c_15 (by decide) (by decide) (by rfl) (by decide) ?_
                        refine j_aload_n C 0 dX11_count_154 rfl rfl ?_
                        refine j_get C (ci := 10) 0 1 iw_ShutWays_count_11 rfl rfl (by decide) fl_19_ShutWays_count rfl rfl dX11_count_155 ?_
                        refine j_aload_n C 0 dX11_count_158 rfl rfl ?_
                        refine j_get C (ci := 10) 0 3 iw_ShutWays_count_11 rfl rfl (by decide) fl_29_ShutWays_count rfl rfl dX11_count_159 ?_
                        refine j_get C (ci := 0) 4 0 iw_ShutWays_count_1 rfl rfl (by decide) fl_163_ShutWays_count rfl rfl dX11_count_162 ?_
                        obtain ⟨r16, hc17, hf⟩ := bnd hf
                        refine j_cvI C (n := 1) (ci := 5) [.int v_a0_today_gone] [1] [0, 2, 3, 4, 5, 6] [0, 6, 1, 2, 3, 4, 5] (Wd_ShutWays_count g p_a0 p_a0_plan p_a0_plan_streets p_a0_plan_lanes p_a0_today p_a0_today_shut p_a0_text u_a0_draft u_a0_trial u_a0_kept u_a0_isKept u_a0_levels u_a0_way u_a0_councils u_a0_told v_a0_toldCount u_a0_trail u_a0_passes v_a0_plan_corners v_a0_plan_market v_a0_plan_quay v_a0_plan_hasOddEnds v_a0_plan_oddMarket v_a0_plan_oddQuay v_a0_plan_kind v_a0_plan_nights v_a0_plan_cart u_a0_plan_streets_from u_a0_plan_streets_to u_a0_plan_streets_yards u_a0_plan_streets_paid v_a0_plan_streets_count u_a0_plan_lanes_from u_a0_plan_lanes_to u_a0_plan_lanes_yards u_a0_plan_lanes_paid v_a0_plan_lanes_count v_a0_today_gone n_a0_today_shut f_a0_today_shut v_a0_text_length v_a0_text_lines u_a0_text_bytes u_a0_text_sorts v_a0_text_sort v_a0_text_start v_a0_text_at v_a0_text_value v_a0_text_corner v_a0_text_otherCorner) (c_Plan_quayOf E.2.1 g p_a0_plan (.ref p_a0_plan_streets) (.ref p_a0_plan_lanes) v_a0_plan_corners v_a0_plan_market v_a0_plan_quay v_a0_plan_hasOddEnds v_a0_plan_oddMarket v_a0_plan_oddQuay v_a0_plan_kind v_a0_plan_nights v_a0_plan_cart v_a0_today_gone hc17) gX11_count_X6_quayOf rfl rfl rfl (by decide +kernel) ⟨Nat.le_of_ble_eq_true rfl, Nat.le_of_ble_eq_true rfl⟩ rfl rfl (by decide) (by decide) (by decide) 0 rfl rfl (by decide) rfl rfl rfl (Nat.le_of_ble_eq_true rfl) ⟨Nat.zero_le _, Nat.zero_le _⟩ dX11_count_165 ?_
                        obtain rfl := Option.some.inj hf
                        exact j_iret C dX11_count_168 rfl rfl
                      · replace hf := ifn c_15 hf
                        by_cases c_18 : x1 = 11
                        · replace hf := ifp c_18 hf
                          refine j_tsIn C (v := 11) 169 dX11_count_1 c_18 (by decide) (by decide) (by rfl) (by decide) ?_
                          refine j_aload_n C 0 dX11_count_169 rfl rfl ?_
                          refine j_get C (ci := 10) 0 0 iw_ShutWays_count_11 rfl rfl (by decide) fl_12_ShutWays_count rfl rfl dX11_count_170 ?_
                          refine j_get C (ci := 7) 6 0 iw_ShutWays_count_8 rfl rfl (by decide) fl_98_ShutWays_count rfl rfl dX11_count_173 ?_
                          obtain rfl := Option.some.inj hf
                          exact j_iret C dX11_count_176 rfl rfl
                        · replace hf := ifn c_18 hf
                          refine j_tsOut C 177 dX11_count_1 (by have t0 := lv_neT c_1 (show ((0 : Int32)).toInt = 0 by decide); have t1 := lv_neT c_2 (show ((1 : Int32)).toInt = 1 by decide); have t2 := lv_neT c_3 (show ((2 : Int32)).toInt = 2 by decide); have t3 := lv_neT c_4 (show ((3 : Int32)).toInt = 3 by decide); have t4 := lv_neT c_5 (show ((4 : Int32)).toInt = 4 by decide); have t5 := lv_neT c_6 (show ((5 : Int32)).toInt = 5 by decide); have t6 := lv_neT c_7 (show ((6 : Int32)).toInt = 6 by decide); have t7 := lv_neT c_8 (show ((7 : Int32)).toInt = 7 by decide); have t8 := lv_neT c_9 (show ((8 : Int32)).toInt = 8 by decide); have t9 := lv_neT c_12 (show ((9 : Int32)).toInt = 9 by decide); have t10 := lv_neT c_15 (show ((10 : Int32)).toInt = 10 by decide); have t11 := lv_neT c_18 (show ((11 : Int32)).toInt = 11 by decide); omega) (by decide) ?_
                          refine j_bipush C dX11_count_177 (v := (-3)) (by decide) ?_
                          obtain rfl := Option.some.inj hf
                          exact j_iret C dX11_count_179 rfl rfl
