def x0V : XV := ((0, (fun _ => 0), (fun _ => 0), (fun _ => 0)), (0, 0, 0, 0, 0, 0, 0, 0, (fun _ => 0), (fun _ => 0)), (4, 0, 1, 0, 0, 0, 0, 2, 10), (0, (fun _ => 0), (fun _ => 0), (fun _ => 0), (fun _ => 0)), (0, (fun _ => 0), (fun _ => 0), (fun _ => 0), (fun _ => 0)), (4, 0, 1, 0, 0, 0, 0, 2, 10), (0, (fun _ => 0), (fun _ => 0), (fun _ => 0), (fun _ => 0)), (0, (fun _ => 0), (fun _ => 0), (fun _ => 0), (fun _ => 0)), (0, (fun _ => 0)), (0, (fun _ => 0)), (0, (fun _ => 0)), (0, (fun _ => 0)), (0, (fun _ => 0)), (0, (fun _ => 0)), (0, (fun _ => 0)), (0, (fun _ => 0)), (0, (fun _ => 0)), (0, (fun _ => 0)), (0, 0, 0, (fun _ => 0), (fun _ => 0)), ((fun _ => 0), (fun _ => 0)))
def m0V : MV := ((4, 0, 0, 0, 2, 0, 10, 0, 0, 0, 0, 0), (0, 0, 0, 0, 0, 0, 0, 0, 0, 0, (fun _ => 0)), ((fun _ => 0), (fun _ => 0), (fun _ => 0), (fun _ => 0), (upd (upd (fun _ => 0) (0 : Int32).toNatClampNeg 0) (1 : Int32).toNatClampNeg 1), (fun _ => 0)), ((fun _ => 0)), ((fun _ => 0), (fun _ => 0), (fun _ => 0), (fun _ => 0), (fun _ => 0)), ((fun _ => 0), (fun _ => 0), (fun _ => 0), (fun _ => 0), (fun _ => 0), (fun _ => 0), (fun _ => 0), (fun _ => 0), (fun _ => 0)))
theorem law_ix {L i : Nat} (hL : L ≤ 2048) (hi : i ≤ 4096) (h : ¬ nI L - 4 < nI i) : i + 4 ≤ L := by
  rcases Nat.lt_or_ge L (i + 4) with q | q
  · exfalso
    apply h
    have e : (nI L - 4 : Int32) = nI L - nI 4 := rfl
    rw [e]
    apply Int32.lt_iff_toInt_lt.mpr
    rw [pk_sub_toInt (by omega) (by omega), nI_toInt (by omega)]
    omega
  · exact q
theorem law_in {L i k : Nat} (hL : L ≤ 2048) (h : i + k < L) : vp_in (nI i + nI k) L := by
  rw [nI_add]
  exact vp_in_nI h (by omega)

set_option maxHeartbeats 4000000 in
set_option maxRecDepth 100000 in
theorem law_loop {E : Ev} {g : Gd} {A : Nat → Prop} {ret : Option FieldType} (C : Cx E g A RL cL_law lw_tbl 4 ret) {b L : Nat} {xs : Nat → Int32} (hX : va_X b L xs (eS E) (eS E).heap) (hbl : b < (eS E).heap.size) (hbA : ¬ A b) (hL : L ≤ 2048) {INV : XV → MV → Prop} (hp_write : PL_write INV) (hp_erase : PL_erase INV) (hp_fault : PL_fault INV) (hp_town : PL_town INV) (hp_street : PL_street INV) (hp_lane : PL_lane INV) (hp_as : PL_as INV) (hp_way : PL_way INV) (hp_go : PL_go INV) (hp_flood : PL_flood INV) (hp_fair : PL_fair INV) (hp_keep : PL_keep INV) (hp_back : PL_back INV) (hp_later : PL_later INV) (hp_never : PL_never INV) (hp_apart : PL_apart INV) (hp_round : PL_round INV) (hp_passed : PL_passed INV) (hp_most : PL_most INV) (hp_build : PL_build INV) (hp_chosen : PL_chosen INV) (hp_carts : PL_carts INV) (hp_night : PL_night INV) (hp_forget : PL_forget INV) (hp_judge : PL_judge INV) (hp_fits : PL_fits INV) (hp_count : PL_count INV) {Q : State → Prop} (hQ : ∀ (ws : va_W) (lv : List (Nat × Value)), J E room_1 g A 4 Q 85 16577 ws lv 833 []) {am : Nat → Nat} : ∀ (n i : Nat), i ≤ L → L - i < n → ∀ (ax : Nat → Nat) (x : XV) (m : MV), INV x m → J E room_1 g A 4 Q 85 16577 (WL g ax am x m) [(0, .ref b), (1, .ref (ax 0)), (2, .ref (am 0)), (3, .int (nI i))] 18 [] := by
  intro n
  induction n with
  | zero => intro i _ h; exact absurd h (Nat.not_lt_zero _)
  | succ n ih =>
    intro i hi hn ax x m hI
    refine j_iload_n C 3 dL_law_18 rfl rfl ?_
    refine j_aload_n C 0 dL_law_19 rfl rfl ?_
    refine j_slen C hX hbl hbA dL_law_20 ?_
    refine j_iconst C dL_law_21 (v := 4) (by decide) ?_
    refine j_isub C dL_law_22 ?_
    refine j_icmp_gt C 833 dL_law_23 (by decide) (fun _ => hQ _ _) (fun c1 => ?_)
    have h4 : i + 4 ≤ L := law_ix hL (by omega) c1
    refine j_aload_n C 0 dL_law_26 rfl rfl ?_
    refine j_iload_n C 3 dL_law_27 rfl rfl ?_
    refine j_sld C hX hbl hbA (vp_in_nI (by omega) (by omega)) dL_law_28 ?_
    refine j_bipush C dL_law_29 (v := 31) (by decide) ?_
    refine j_iand C dL_law_31 ?_
    have h1 : vp_in (nI i + 1) L := law_in hL (by omega : i + 1 < L)
    have h2 : vp_in (nI i + 2) L := law_in hL (by omega : i + 2 < L)
    have h3 : vp_in (nI i + 3) L := law_in hL (by omega : i + 3 < L)
    have next : ∀ (ax : Nat → Nat) (x : XV) (m : MV), INV x m → J E room_1 g A 4 Q 85 16577 (WL g ax am x m) [(0, .ref b), (1, .ref (ax 0)), (2, .ref (am 0)), (3, .int (nI i))] 827 [] := by
      intro ax x m hI
      refine j_iinc C (v := nI (i + 4)) 3 [(3, .int (nI (i + 4))), (0, .ref b), (1, .ref (ax 0)), (2, .ref (am 0))] dL_law_827 rfl (nI_add i 4) (by decide) rfl ?_
      refine j_goto C 18 dL_law_830 (by decide) ?_
      refine j_lv [1, 2, 3, 0] rfl ?_
      exact ih (i + 4) h4 (by omega) ax x m hI
    generalize xs (nI i).toNatClampNeg &&& 31 = v
    by_cases c_0 : v = 0
    · exact j_tsIn C (v := 0) 156 dL_law_32 c_0 (by decide) (by decide) (by rfl) (by decide) (jl_write C hX hbl hbA hp_write h1 h2 h3 next ax x m hI)
    by_cases c_1 : v = 1
    · exact j_tsIn C (v := 1) 219 dL_law_32 c_1 (by decide) (by decide) (by rfl) (by decide) (jl_erase C hX hbl hbA hp_erase h1 h2 h3 next ax x m hI)
    by_cases c_2 : v = 2
    · exact j_tsIn C (v := 2) 232 dL_law_32 c_2 (by decide) (by decide) (by rfl) (by decide) (jl_fault C hX hbl hbA hp_fault h1 h2 h3 next ax x m hI)
    by_cases c_3 : v = 3
    · exact j_tsIn C (v := 3) 245 dL_law_32 c_3 (by decide) (by decide) (by rfl) (by decide) (jl_town C hX hbl hbA hp_town h1 h2 h3 next ax x m hI)
    by_cases c_4 : v = 4
    · exact j_tsIn C (v := 4) 258 dL_law_32 c_4 (by decide) (by decide) (by rfl) (by decide) (jl_street C hX hbl hbA hp_street h1 h2 h3 next ax x m hI)
    by_cases c_5 : v = 5
    · exact j_tsIn C (v := 5) 291 dL_law_32 c_5 (by decide) (by decide) (by rfl) (by decide) (jl_lane C hX hbl hbA hp_lane h1 h2 h3 next ax x m hI)
    by_cases c_6 : v = 6
    · exact j_tsIn C (v := 6) 324 dL_law_32 c_6 (by decide) (by decide) (by rfl) (by decide) (jl_as C hX hbl hbA hp_as h1 h2 h3 next ax x m hI)
    by_cases c_7 : v = 7
    · exact j_tsIn C (v := 7) 347 dL_law_32 c_7 (by decide) (by decide) (by rfl) (by decide) (jl_way C hX hbl hbA hp_way h1 h2 h3 next ax x m hI)
    by_cases c_8 : v = 8
    · exact j_tsIn C (v := 8) 370 dL_law_32 c_8 (by decide) (by decide) (by rfl) (by decide) (jl_go C hX hbl hbA hp_go h1 h2 h3 next ax x m hI)
    by_cases c_9 : v = 9
    · exact j_tsIn C (v := 9) 393 dL_law_32 c_9 (by decide) (by decide) (by rfl) (by decide) (jl_flood C hX hbl hbA hp_flood h1 h2 h3 next ax x m hI)
    by_cases c_10 : v = 10
    · exact j_tsIn C (v := 10) 426 dL_law_32 c_10 (by decide) (by decide) (by rfl) (by decide) (jl_fair C hX hbl hbA hp_fair h1 h2 h3 next ax x m hI)
    by_cases c_11 : v = 11
    · exact j_tsIn C (v := 11) 439 dL_law_32 c_11 (by decide) (by decide) (by rfl) (by decide) (jl_keep C hX hbl hbA hp_keep h1 h2 h3 next ax x m hI)
    by_cases c_12 : v = 12
    · exact j_tsIn C (v := 12) 462 dL_law_32 c_12 (by decide) (by decide) (by rfl) (by decide) (jl_back C hX hbl hbA hp_back h1 h2 h3 next ax x m hI)
    by_cases c_13 : v = 13
    · exact j_tsIn C (v := 13) 485 dL_law_32 c_13 (by decide) (by decide) (by rfl) (by decide) (jl_later C hX hbl hbA hp_later h1 h2 h3 next ax x m hI)
    by_cases c_14 : v = 14
    · exact j_tsIn C (v := 14) 508 dL_law_32 c_14 (by decide) (by decide) (by rfl) (by decide) (jl_never C hX hbl hbA hp_never h1 h2 h3 next ax x m hI)
    by_cases c_15 : v = 15
    · exact j_tsIn C (v := 15) 521 dL_law_32 c_15 (by decide) (by decide) (by rfl) (by decide) (jl_apart C hX hbl hbA hp_apart h1 h2 h3 next ax x m hI)
    by_cases c_16 : v = 16
    · exact j_tsIn C (v := 16) 534 dL_law_32 c_16 (by decide) (by decide) (by rfl) (by decide) (jl_round C hX hbl hbA hp_round h1 h2 h3 next ax x m hI)
    by_cases c_17 : v = 17
    · exact j_tsIn C (v := 17) 557 dL_law_32 c_17 (by decide) (by decide) (by rfl) (by decide) (jl_passed C hX hbl hbA hp_passed h1 h2 h3 next ax x m hI)
    by_cases c_18 : v = 18
    · exact j_tsIn C (v := 18) 590 dL_law_32 c_18 (by decide) (by decide) (by rfl) (by decide) (jl_most C hX hbl hbA hp_most h1 h2 h3 next ax x m hI)
    by_cases c_19 : v = 19
    · exact j_tsIn C (v := 19) 613 dL_law_32 c_19 (by decide) (by decide) (by rfl) (by decide) (jl_build C hX hbl hbA hp_build h1 h2 h3 next ax x m hI)
    by_cases c_20 : v = 20
    · exact j_tsIn C (v := 20) 656 dL_law_32 c_20 (by decide) (by decide) (by rfl) (by decide) (jl_chosen C hX hbl hbA hp_chosen h1 h2 h3 next ax x m hI)
    by_cases c_21 : v = 21
    · exact j_tsIn C (v := 21) 689 dL_law_32 c_21 (by decide) (by decide) (by rfl) (by decide) (jl_carts C hX hbl hbA hp_carts h1 h2 h3 next ax x m hI)
    by_cases c_22 : v = 22
    · exact j_tsIn C (v := 22) 722 dL_law_32 c_22 (by decide) (by decide) (by rfl) (by decide) (jl_night C hX hbl hbA hp_night h1 h2 h3 next ax x m hI)
    by_cases c_23 : v = 23
    · exact j_tsIn C (v := 23) 745 dL_law_32 c_23 (by decide) (by decide) (by rfl) (by decide) (jl_forget C hX hbl hbA hp_forget h1 h2 h3 next ax x m hI)
    by_cases c_24 : v = 24
    · exact j_tsIn C (v := 24) 758 dL_law_32 c_24 (by decide) (by decide) (by rfl) (by decide) (jl_judge C hX hbl hbA hp_judge h1 h2 h3 next ax x m hI)
    by_cases c_25 : v = 25
    · exact j_tsIn C (v := 25) 771 dL_law_32 c_25 (by decide) (by decide) (by rfl) (by decide) (jl_fits C hX hbl hbA hp_fits h1 h2 h3 next ax x m hI)
    by_cases c_26 : v = 26
    · exact j_tsIn C (v := 26) 804 dL_law_32 c_26 (by decide) (by decide) (by rfl) (by decide) (jl_count C hX hbl hbA hp_count h1 h2 h3 next ax x m hI)
    exact j_tsOut C 827 dL_law_32 (by have t0 := lv_neT c_0 (show ((0 : Int32)).toInt = 0 by decide); have t1 := lv_neT c_1 (show ((1 : Int32)).toInt = 1 by decide); have t2 := lv_neT c_2 (show ((2 : Int32)).toInt = 2 by decide); have t3 := lv_neT c_3 (show ((3 : Int32)).toInt = 3 by decide); have t4 := lv_neT c_4 (show ((4 : Int32)).toInt = 4 by decide); have t5 := lv_neT c_5 (show ((5 : Int32)).toInt = 5 by decide); have t6 := lv_neT c_6 (show ((6 : Int32)).toInt = 6 by decide); have t7 := lv_neT c_7 (show ((7 : Int32)).toInt = 7 by decide); have t8 := lv_neT c_8 (show ((8 : Int32)).toInt = 8 by decide); have t9 := lv_neT c_9 (show ((9 : Int32)).toInt = 9 by decide); have t10 := lv_neT c_10 (show ((10 : Int32)).toInt = 10 by decide); have t11 := lv_neT c_11 (show ((11 : Int32)).toInt = 11 by decide); have t12 := lv_neT c_12 (show ((12 : Int32)).toInt = 12 by decide); have t13 := lv_neT c_13 (show ((13 : Int32)).toInt = 13 by decide); have t14 := lv_neT c_14 (show ((14 : Int32)).toInt = 14 by decide); have t15 := lv_neT c_15 (show ((15 : Int32)).toInt = 15 by decide); have t16 := lv_neT c_16 (show ((16 : Int32)).toInt = 16 by decide); have t17 := lv_neT c_17 (show ((17 : Int32)).toInt = 17 by decide); have t18 := lv_neT c_18 (show ((18 : Int32)).toInt = 18 by decide); have t19 := lv_neT c_19 (show ((19 : Int32)).toInt = 19 by decide); have t20 := lv_neT c_20 (show ((20 : Int32)).toInt = 20 by decide); have t21 := lv_neT c_21 (show ((21 : Int32)).toInt = 21 by decide); have t22 := lv_neT c_22 (show ((22 : Int32)).toInt = 22 by decide); have t23 := lv_neT c_23 (show ((23 : Int32)).toInt = 23 by decide); have t24 := lv_neT c_24 (show ((24 : Int32)).toInt = 24 by decide); have t25 := lv_neT c_25 (show ((25 : Int32)).toInt = 25 by decide); have t26 := lv_neT c_26 (show ((26 : Int32)).toInt = 26 by decide); omega) (by decide) (next ax x m hI)
