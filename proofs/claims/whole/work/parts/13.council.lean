abbrev rm_First_pick : Room := { frames := 0, cells := 0, slots := 0, locals := 0 }
def Wd_First_pick (g : Gd) (p_a0 : Nat) (p_a1 : Nat) (p_a2 : Nat) (p_a1_street : Nat) (v_a1_count : Int32) (v_a1_set : Int32) (v_a1_yards : Int32) (u_a1_far : Value) (u_a2_from : Value) (u_a2_to : Value) (u_a2_yards : Value) (u_a2_paid : Value) (v_a2_count : Int32) (n_a1_street : Nat) (f_a1_street : Nat → Int32) : va_W := [(p_a0, .inr (1, [])), (p_a1, .inr (9, [.ref p_a1_street, .int v_a1_count, .int v_a1_set, .int v_a1_yards, u_a1_far])), (p_a2, .inr (6, [u_a2_from, u_a2_to, u_a2_yards, u_a2_paid, .int v_a2_count])), (p_a1_street, .inl (g.2.1 0, n_a1_street, .inl f_a1_street))]
theorem iw_First_pick_10 : ∀ w ∈ wsX100, w ∈ wsX2_pick := fun w h => List.mem_cons_of_mem _ (List.mem_append_right _ h)
theorem fl_7_First_pick : Cond.fieldLink RX2 7 "ShutWays$Way" (TX10 0).2.1 (TX10 0).2.2.1 ∈ wsX2_pick := by decide +kernel
noncomputable def f_First_pick (n_a1_street : Nat) (f_a1_street : Nat → Int32) : Option (Int32) := gix 0 n_a1_street (some (f_a1_street (0 : Int32).toNatClampNeg))
set_option maxHeartbeats 4000000 in
set_option maxRecDepth 100000 in
theorem c_First_pick (l : Launch) (g : Gd) (p_a0 : Nat) (p_a1 : Nat) (p_a2 : Nat) (p_a1_street : Nat) (v_a1_count : Int32) (v_a1_set : Int32) (v_a1_yards : Int32) (u_a1_far : Value) (u_a2_from : Value) (u_a2_to : Value) (u_a2_yards : Value) (u_a2_paid : Value) (v_a2_count : Int32) (n_a1_street : Nat) (f_a1_street : Nat → Int32) {ρ : Int32} (hf : f_First_pick n_a1_street f_a1_street = some ρ) : CtI l g yX2_pick wsX2_pick rm_First_pick [.ref p_a0, .ref p_a1, .ref p_a2] (Wd_First_pick g p_a0 p_a1 p_a2 p_a1_street v_a1_count v_a1_set v_a1_yards u_a1_far u_a2_from u_a2_to u_a2_yards u_a2_paid v_a2_count n_a1_street f_a1_street) ρ (Wd_First_pick g p_a0 p_a1 p_a2 p_a1_street v_a1_count v_a1_set v_a1_yards u_a1_far u_a2_from u_a2_to u_a2_yards u_a2_paid v_a2_count n_a1_street f_a1_street) := by
  refine CtI.of (by decide) rfl rfl (Nat.le_of_ble_eq_true rfl) (fun E A _ C => ?_)
  unfold f_First_pick at hf
  show J E rm_First_pick g A 3 (QI E g A ρ (Wd_First_pick g p_a0 p_a1 p_a2 p_a1_street v_a1_count v_a1_set v_a1_yards u_a1_far u_a2_from u_a2_to u_a2_yards u_a2_paid v_a2_count n_a1_street f_a1_street) 0 0) 0 0 (Wd_First_pick g p_a0 p_a1 p_a2 p_a1_street v_a1_count v_a1_set v_a1_yards u_a1_far u_a2_from u_a2_to u_a2_yards u_a2_paid v_a2_count n_a1_street f_a1_street) [(0, .ref p_a0), (1, .ref p_a1), (2, .ref p_a2)] 0 []
  refine j_aload_n C 1 dX2_pick_0 rfl rfl ?_
  refine j_get C (ci := 9) 1 0 iw_First_pick_10 rfl rfl (by decide) fl_7_First_pick rfl rfl dX2_pick_1 ?_
  refine j_iconst C dX2_pick_4 (v := 0) (by decide) ?_
  obtain ⟨hi1, hf⟩ := gix_some hf
  refine j_iald C 3 rfl hi1 dX2_pick_5 ?_
  obtain rfl := Option.some.inj hf
  exact j_iret C dX2_pick_6 rfl rfl
abbrev rm_Last_pick : Room := { frames := 0, cells := 0, slots := 0, locals := 0 }
def Wd_Last_pick (g : Gd) (p_a0 : Nat) (p_a1 : Nat) (p_a2 : Nat) (p_a1_street : Nat) (v_a1_count : Int32) (v_a1_set : Int32) (v_a1_yards : Int32) (u_a1_far : Value) (u_a2_from : Value) (u_a2_to : Value) (u_a2_yards : Value) (u_a2_paid : Value) (v_a2_count : Int32) (n_a1_street : Nat) (f_a1_street : Nat → Int32) : va_W := [(p_a0, .inr (2, [])), (p_a1, .inr (9, [.ref p_a1_street, .int v_a1_count, .int v_a1_set, .int v_a1_yards, u_a1_far])), (p_a2, .inr (6, [u_a2_from, u_a2_to, u_a2_yards, u_a2_paid, .int v_a2_count])), (p_a1_street, .inl (g.2.1 0, n_a1_street, .inl f_a1_street))]
theorem iw_Last_pick_10 : ∀ w ∈ wsX100, w ∈ wsX3_pick := fun w h => List.mem_cons_of_mem _ (List.mem_append_right _ h)
theorem fl_7_Last_pick : Cond.fieldLink RX3 7 "ShutWays$Way" (TX10 0).2.1 (TX10 0).2.2.1 ∈ wsX3_pick := by decide +kernel
theorem fl_13_Last_pick : Cond.fieldLink RX3 13 "ShutWays$Way" (TX10 1).2.1 (TX10 1).2.2.1 ∈ wsX3_pick := by decide +kernel
noncomputable def f_Last_pick (v_a1_count : Int32) (n_a1_street : Nat) (f_a1_street : Nat → Int32) : Option (Int32) := gix (v_a1_count - 1) n_a1_street (some (f_a1_street (v_a1_count - 1).toNatClampNeg))
set_option maxHeartbeats 4000000 in
set_option maxRecDepth 100000 in
theorem c_Last_pick (l : Launch) (g : Gd) (p_a0 : Nat) (p_a1 : Nat) (p_a2 : Nat) (p_a1_street : Nat) (v_a1_count : Int32) (v_a1_set : Int32) (v_a1_yards : Int32) (u_a1_far : Value) (u_a2_from : Value) (u_a2_to : Value) (u_a2_yards : Value) (u_a2_paid : Value) (v_a2_count : Int32) (n_a1_street : Nat) (f_a1_street : Nat → Int32) {ρ : Int32} (hf : f_Last_pick v_a1_count n_a1_street f_a1_street = some ρ) : CtI l g yX3_pick wsX3_pick rm_Last_pick [.ref p_a0, .ref p_a1, .ref p_a2] (Wd_Last_pick g p_a0 p_a1 p_a2 p_a1_street v_a1_count v_a1_set v_a1_yards u_a1_far u_a2_from u_a2_to u_a2_yards u_a2_paid v_a2_count n_a1_street f_a1_street) ρ (Wd_Last_pick g p_a0 p_a1 p_a2 p_a1_street v_a1_count v_a1_set v_a1_yards u_a1_far u_a2_from u_a2_to u_a2_yards u_a2_paid v_a2_count n_a1_street f_a1_street) := by
  refine CtI.of (by decide) rfl rfl (Nat.le_of_ble_eq_true rfl) (fun E A _ C => ?_)
  unfold f_Last_pick at hf
  show J E rm_Last_pick g A 3 (QI E g A ρ (Wd_Last_pick g p_a0 p_a1 p_a2 p_a1_street v_a1_count v_a1_set v_a1_yards u_a1_far u_a2_from u_a2_to u_a2_yards u_a2_paid v_a2_count n_a1_street f_a1_street) 0 0) 0 0 (Wd_Last_pick g p_a0 p_a1 p_a2 p_a1_street v_a1_count v_a1_set v_a1_yards u_a1_far u_a2_from u_a2_to u_a2_yards u_a2_paid v_a2_count n_a1_street f_a1_street) [(0, .ref p_a0), (1, .ref p_a1), (2, .ref p_a2)] 0 []
  refine j_aload_n C 1 dX3_pick_0 rfl rfl ?_
  refine j_get C (ci := 9) 1 0 iw_Last_pick_10 rfl rfl (by decide) fl_7_Last_pick rfl rfl dX3_pick_1 ?_
  refine j_aload_n C 1 dX3_pick_4 rfl rfl ?_
  refine j_get C (ci := 9) 1 1 iw_Last_pick_10 rfl rfl (by decide) fl_13_Last_pick rfl rfl dX3_pick_5 ?_
  refine j_iconst C dX3_pick_8 (v := 1) (by decide) ?_
  refine j_isub C dX3_pick_9 ?_
  obtain ⟨hi1, hf⟩ := gix_some hf
  refine j_iald C 3 rfl hi1 dX3_pick_10 ?_
  obtain rfl := Option.some.inj hf
  exact j_iret C dX3_pick_11 rfl rfl
abbrev rm_Longest_pick : Room := { frames := 0, cells := 0, slots := 0, locals := 0 }
def Wd_Longest_pick (g : Gd) (p_a0 : Nat) (p_a1 : Nat) (p_a2 : Nat) (p_a1_street : Nat) (p_a2_yards : Nat) (v_a1_count : Int32) (v_a1_set : Int32) (v_a1_yards : Int32) (u_a1_far : Value) (u_a2_from : Value) (u_a2_to : Value) (u_a2_paid : Value) (v_a2_count : Int32) (n_a1_street : Nat) (f_a1_street : Nat → Int32) (n_a2_yards : Nat) (f_a2_yards : Nat → Int32) : va_W := [(p_a0, .inr (4, [])), (p_a1, .inr (9, [.ref p_a1_street, .int v_a1_count, .int v_a1_set, .int v_a1_yards, u_a1_far])), (p_a2, .inr (6, [u_a2_from, u_a2_to, .ref p_a2_yards, u_a2_paid, .int v_a2_count])), (p_a1_street, .inl (g.2.1 0, n_a1_street, .inl f_a1_street)), (p_a2_yards, .inl (g.2.1 0, n_a2_yards, .inl f_a2_yards))]
theorem iw_Longest_pick_7 : ∀ w ∈ wsX70, w ∈ wsX5_pick := fun w h => List.mem_cons_of_mem _ (List.mem_append_right _ h)
theorem iw_Longest_pick_10 : ∀ w ∈ wsX100, w ∈ wsX5_pick := fun w h => List.mem_cons_of_mem _ (List.mem_append_left _ (List.mem_append_right _ h))
theorem fl_7_Longest_pick : Cond.fieldLink RX5 7 "ShutWays$Way" (TX10 0).2.1 (TX10 0).2.2.1 ∈ wsX5_pick := by decide +kernel
theorem fl_13_Longest_pick : Cond.fieldLink RX5 13 "ShutWays$Way" (TX10 1).2.1 (TX10 1).2.2.1 ∈ wsX5_pick := by decide +kernel
theorem fl_17_Longest_pick : Cond.fieldLink RX5 17 "ShutWays$Roads" (TX7 2).2.1 (TX7 2).2.2.1 ∈ wsX5_pick := by decide +kernel
noncomputable def f_Longest_pick_63 (k_10 : Int32 → Int32 → Int32 → Nat → (Nat → Int32) → Nat → (Nat → Int32) → Option (Int32)) (x3 : Int32) (x4 : Int32) (v_a1_count : Int32) (n_a1_street : Nat) (f_a1_street : Nat → Int32) (n_a2_yards : Nat) (f_a2_yards : Nat → Int32) : Option (Int32) := k_10 x3 (x4 + 1) v_a1_count n_a1_street f_a1_street n_a2_yards f_a2_yards
set_option maxHeartbeats 4000000 in
set_option maxRecDepth 100000 in
theorem j_Longest_pick_63 {E : Ev} {g : Gd} {A : Nat → Prop} (C : Cx E g A RX5 cX5_pick wsX5_pick 7 (some .int)) (p_a0 : Nat) (p_a1 : Nat) (p_a2 : Nat) (p_a1_street : Nat) (p_a2_yards : Nat) (v_a1_set : Int32) (v_a1_yards : Int32) (u_a1_far : Value) (u_a2_from : Value) (u_a2_to : Value) (u_a2_paid : Value) (v_a2_count : Int32) {ρ : Int32} {k_10 : Int32 → Int32 → Int32 → Nat → (Nat → Int32) → Nat → (Nat → Int32) → Option (Int32)} (hk_10 : ∀ (x3 : Int32) (x4 : Int32) (v_a1_count : Int32) (n_a1_street : Nat) (f_a1_street : Nat → Int32) (n_a2_yards : Nat) (f_a2_yards : Nat → Int32), k_10 x3 x4 v_a1_count n_a1_street f_a1_street n_a2_yards f_a2_yards = some ρ → J E rm_Longest_pick g A 7 (QI E g A ρ (Wd_Longest_pick g p_a0 p_a1 p_a2 p_a1_street p_a2_yards v_a1_count v_a1_set v_a1_yards u_a1_far u_a2_from u_a2_to u_a2_paid v_a2_count n_a1_street f_a1_street n_a2_yards f_a2_yards) 0 0) 0 0 (Wd_Longest_pick g p_a0 p_a1 p_a2 p_a1_street p_a2_yards v_a1_count v_a1_set v_a1_yards u_a1_far u_a2_from u_a2_to u_a2_paid v_a2_count n_a1_street f_a1_street n_a2_yards f_a2_yards) [(1, .ref p_a1), (2, .ref p_a2), (3, .int x3), (4, .int x4)] 10 []) (x3 : Int32) (x4 : Int32) (v_a1_count : Int32) (n_a1_street : Nat) (f_a1_street : Nat → Int32) (n_a2_yards : Nat) (f_a2_yards : Nat → Int32) (hf : f_Longest_pick_63 k_10 x3 x4 v_a1_count n_a1_street f_a1_street n_a2_yards f_a2_yards = some ρ) : J E rm_Longest_pick g A 7 (QI E g A ρ (Wd_Longest_pick g p_a0 p_a1 p_a2 p_a1_street p_a2_yards v_a1_count v_a1_set v_a1_yards u_a1_far u_a2_from u_a2_to u_a2_paid v_a2_count n_a1_street f_a1_street n_a2_yards f_a2_yards) 0 0) 0 0 (Wd_Longest_pick g p_a0 p_a1 p_a2 p_a1_street p_a2_yards v_a1_count v_a1_set v_a1_yards u_a1_far u_a2_from u_a2_to u_a2_paid v_a2_count n_a1_street f_a1_street n_a2_yards f_a2_yards) [(1, .ref p_a1), (2, .ref p_a2), (3, .int x3), (4, .int x4)] 63 [] := by
  unfold f_Longest_pick_63 at hf
  refine j_iinc C (v := (x4 + 1)) 3 [(4, .int (x4 + 1)), (1, .ref p_a1), (2, .ref p_a2), (3, .int x3)] dX5_pick_63 rfl (by first | rfl | decide) (by decide) rfl ?_
  refine j_goto C 10 dX5_pick_66 (by decide) ?_
  refine j_lv [1, 2, 3, 0] rfl ?_
  exact hk_10 x3 (x4 + 1) v_a1_count n_a1_street f_a1_street n_a2_yards f_a2_yards hf
noncomputable def f_Longest_pick_60 (k_10 : Int32 → Int32 → Int32 → Nat → (Nat → Int32) → Nat → (Nat → Int32) → Option (Int32)) (x4 : Int32) (x5 : Int32) (v_a1_count : Int32) (n_a1_street : Nat) (f_a1_street : Nat → Int32) (n_a2_yards : Nat) (f_a2_yards : Nat → Int32) : Option (Int32) := f_Longest_pick_63 k_10 x5 x4 v_a1_count n_a1_street f_a1_street n_a2_yards f_a2_yards
set_option maxHeartbeats 4000000 in
set_option maxRecDepth 100000 in
theorem j_Longest_pick_60 {E : Ev} {g : Gd} {A : Nat → Prop} (C : Cx E g A RX5 cX5_pick wsX5_pick 7 (some .int)) (p_a0 : Nat) (p_a1 : Nat) (p_a2 : Nat) (p_a1_street : Nat) (p_a2_yards : Nat) (v_a1_set : Int32) (v_a1_yards : Int32) (u_a1_far : Value) (u_a2_from : Value) (u_a2_to : Value) (u_a2_paid : Value) (v_a2_count : Int32) {ρ : Int32} {k_10 : Int32 → Int32 → Int32 → Nat → (Nat → Int32) → Nat → (Nat → Int32) → Option (Int32)} (hk_10 : ∀ (x3 : Int32) (x4 : Int32) (v_a1_count : Int32) (n_a1_street : Nat) (f_a1_street : Nat → Int32) (n_a2_yards : Nat) (f_a2_yards : Nat → Int32), k_10 x3 x4 v_a1_count n_a1_street f_a1_street n_a2_yards f_a2_yards = some ρ → J E rm_Longest_pick g A 7 (QI E g A ρ (Wd_Longest_pick g p_a0 p_a1 p_a2 p_a1_street p_a2_yards v_a1_count v_a1_set v_a1_yards u_a1_far u_a2_from u_a2_to u_a2_paid v_a2_count n_a1_street f_a1_street n_a2_yards f_a2_yards) 0 0) 0 0 (Wd_Longest_pick g p_a0 p_a1 p_a2 p_a1_street p_a2_yards v_a1_count v_a1_set v_a1_yards u_a1_far u_a2_from u_a2_to u_a2_paid v_a2_count n_a1_street f_a1_street n_a2_yards f_a2_yards) [(1, .ref p_a1), (2, .ref p_a2), (3, .int x3), (4, .int x4)] 10 []) (x4 : Int32) (x5 : Int32) (v_a1_count : Int32) (n_a1_street : Nat) (f_a1_street : Nat → Int32) (n_a2_yards : Nat) (f_a2_yards : Nat → Int32) (hf : f_Longest_pick_60 k_10 x4 x5 v_a1_count n_a1_street f_a1_street n_a2_yards f_a2_yards = some ρ) : J E rm_Longest_pick g A 7 (QI E g A ρ (Wd_Longest_pick g p_a0 p_a1 p_a2 p_a1_street p_a2_yards v_a1_count v_a1_set v_a1_yards u_a1_far u_a2_from u_a2_to u_a2_paid v_a2_count n_a1_street f_a1_street n_a2_yards f_a2_yards) 0 0) 0 0 (Wd_Longest_pick g p_a0 p_a1 p_a2 p_a1_street p_a2_yards v_a1_count v_a1_set v_a1_yards u_a1_far u_a2_from u_a2_to u_a2_paid v_a2_count n_a1_street f_a1_street n_a2_yards f_a2_yards) [(1, .ref p_a1), (2, .ref p_a2), (4, .int x4), (5, .int x5)] 60 [] := by
  unfold f_Longest_pick_60 at hf
  refine j_iload C 3 dX5_pick_60 rfl ?_
  refine j_istore_n C [(3, .int x5), (1, .ref p_a1), (2, .ref p_a2), (4, .int x4), (5, .int x5)] dX5_pick_62 rfl (by decide) rfl ?_
  refine j_lv [1, 2, 0, 3] rfl ?_
  exact j_Longest_pick_63 C p_a0 p_a1 p_a2 p_a1_street p_a2_yards v_a1_set v_a1_yards u_a1_far u_a2_from u_a2_to u_a2_paid v_a2_count hk_10 x5 x4 v_a1_count n_a1_street f_a1_street n_a2_yards f_a2_yards hf
noncomputable def b_Longest_pick_10 (k_10 : Int32 → Int32 → Int32 → Nat → (Nat → Int32) → Nat → (Nat → Int32) → Option (Int32)) (x3 : Int32) (x4 : Int32) (v_a1_count : Int32) (n_a1_street : Nat) (f_a1_street : Nat → Int32) (n_a2_yards : Nat) (f_a2_yards : Nat → Int32) : Option (Int32) := if v_a1_count ≤ x4 then some x3 else gix x4 n_a1_street (nmI (f_a1_street x4.toNatClampNeg) (fun z5 => gix z5 n_a2_yards (gix x3 n_a2_yards (nmI ((f_a2_yards z5.toNatClampNeg) - (f_a2_yards x3.toNatClampNeg)) (fun z8 => if 0 < z8 then f_Longest_pick_60 k_10 x4 z5 v_a1_count n_a1_street f_a1_street n_a2_yards f_a2_yards else if z8 = 0 then if x3 ≤ z5 then f_Longest_pick_63 k_10 x3 x4 v_a1_count n_a1_street f_a1_street n_a2_yards f_a2_yards else f_Longest_pick_60 k_10 x4 z5 v_a1_count n_a1_street f_a1_street n_a2_yards f_a2_yards else f_Longest_pick_63 k_10 x3 x4 v_a1_count n_a1_street f_a1_street n_a2_yards f_a2_yards)))))
noncomputable def f_Longest_pick_10 (n : Nat) : Int32 → Int32 → Int32 → Nat → (Nat → Int32) → Nat → (Nat → Int32) → Option (Int32) := Nat.rec (motive := fun _ => Int32 → Int32 → Int32 → Nat → (Nat → Int32) → Nat → (Nat → Int32) → Option (Int32)) (fun _ _ _ _ _ _ _ => none) (fun _ ih => b_Longest_pick_10 ih) n
set_option maxHeartbeats 4000000 in
set_option maxRecDepth 100000 in
theorem jb_Longest_pick_10 {E : Ev} {g : Gd} {A : Nat → Prop} (C : Cx E g A RX5 cX5_pick wsX5_pick 7 (some .int)) (p_a0 : Nat) (p_a1 : Nat) (p_a2 : Nat) (p_a1_street : Nat) (p_a2_yards : Nat) (v_a1_set : Int32) (v_a1_yards : Int32) (u_a1_far : Value) (u_a2_from : Value) (u_a2_to : Value) (u_a2_paid : Value) (v_a2_count : Int32) {ρ : Int32} {k_10 : Int32 → Int32 → Int32 → Nat → (Nat → Int32) → Nat → (Nat → Int32) → Option (Int32)} (hk_10 : ∀ (x3 : Int32) (x4 : Int32) (v_a1_count : Int32) (n_a1_street : Nat) (f_a1_street : Nat → Int32) (n_a2_yards : Nat) (f_a2_yards : Nat → Int32), k_10 x3 x4 v_a1_count n_a1_street f_a1_street n_a2_yards f_a2_yards = some ρ → J E rm_Longest_pick g A 7 (QI E g A ρ (Wd_Longest_pick g p_a0 p_a1 p_a2 p_a1_street p_a2_yards v_a1_count v_a1_set v_a1_yards u_a1_far u_a2_from u_a2_to u_a2_paid v_a2_count n_a1_street f_a1_street n_a2_yards f_a2_yards) 0 0) 0 0 (Wd_Longest_pick g p_a0 p_a1 p_a2 p_a1_street p_a2_yards v_a1_count v_a1_set v_a1_yards u_a1_far u_a2_from u_a2_to u_a2_paid v_a2_count n_a1_street f_a1_street n_a2_yards f_a2_yards) [(1, .ref p_a1), (2, .ref p_a2), (3, .int x3), (4, .int x4)] 10 []) (x3 : Int32) (x4 : Int32) (v_a1_count : Int32) (n_a1_street : Nat) (f_a1_street : Nat → Int32) (n_a2_yards : Nat) (f_a2_yards : Nat → Int32) (hf : b_Longest_pick_10 k_10 x3 x4 v_a1_count n_a1_street f_a1_street n_a2_yards f_a2_yards = some ρ) : J E rm_Longest_pick g A 7 (QI E g A ρ (Wd_Longest_pick g p_a0 p_a1 p_a2 p_a1_street p_a2_yards v_a1_count v_a1_set v_a1_yards u_a1_far u_a2_from u_a2_to u_a2_paid v_a2_count n_a1_street f_a1_street n_a2_yards f_a2_yards) 0 0) 0 0 (Wd_Longest_pick g p_a0 p_a1 p_a2 p_a1_street p_a2_yards v_a1_count v_a1_set v_a1_yards u_a1_far u_a2_from u_a2_to u_a2_paid v_a2_count n_a1_street f_a1_street n_a2_yards f_a2_yards) [(1, .ref p_a1), (2, .ref p_a2), (3, .int x3), (4, .int x4)] 10 [] := by
  unfold b_Longest_pick_10 at hf
  refine j_iload C 3 dX5_pick_10 rfl ?_
  refine j_aload_n C 0 dX5_pick_12 rfl rfl ?_
  refine j_get C (ci := 9) 1 1 iw_Longest_pick_10 rfl rfl (by decide) fl_13_Longest_pick rfl rfl dX5_pick_13 ?_
  refine j_icmp_ge C 69 dX5_pick_16 (by decide) (fun c_3 => ?_) (fun c_3 => ?_)
  · replace hf := ifp c_3 hf
    refine j_iload_n C 2 dX5_pick_69 rfl rfl ?_
    obtain rfl := Option.some.inj hf
    exact j_iret C dX5_pick_70 rfl rfl
  · replace hf := ifn c_3 hf
    refine j_aload_n C 0 dX5_pick_19 rfl rfl ?_
    refine j_get C (ci := 9) 1 0 iw_Longest_pick_10 rfl rfl (by decide) fl_7_Longest_pick rfl rfl dX5_pick_20 ?_
    refine j_iload C 3 dX5_pick_23 rfl ?_
    obtain ⟨hi4, hf⟩ := gix_some hf
    refine j_iald C 3 rfl hi4 dX5_pick_25 ?_
    obtain ⟨z5, e_z5, hf⟩ := nmI_some hf
    refine j_nmi e_z5 ?_
    refine j_istore C [(5, .int z5), (1, .ref p_a1), (2, .ref p_a2), (3, .int x3), (4, .int x4)] dX5_pick_26 (by decide) rfl ?_
    refine j_aload_n C 2 dX5_pick_28 rfl rfl ?_
    refine j_get C (ci := 6) 2 2 iw_Longest_pick_7 rfl rfl (by decide) fl_17_Longest_pick rfl rfl dX5_pick_29 ?_
    refine j_iload C 0 dX5_pick_32 rfl ?_
    refine j_pc 34 rfl ?_
    obtain ⟨hi6, hf⟩ := gix_some hf
    refine j_iald C 4 rfl hi6 dX5_pick_34 ?_
    refine j_aload_n C 2 dX5_pick_35 rfl rfl ?_
    refine j_get C (ci := 6) 2 2 iw_Longest_pick_7 rfl rfl (by decide) fl_17_Longest_pick rfl rfl dX5_pick_36 ?_
    refine j_iload_n C 3 dX5_pick_39 rfl rfl ?_
    obtain ⟨hi7, hf⟩ := gix_some hf
    refine j_iald C 4 rfl hi7 dX5_pick_40 ?_
    refine j_isub C dX5_pick_41 ?_
    obtain ⟨z8, e_z8, hf⟩ := nmI_some hf
    refine j_nmi e_z8 ?_
    refine j_istore C [(6, .int z8), (5, .int z5), (1, .ref p_a1), (2, .ref p_a2), (3, .int x3), (4, .int x4)] dX5_pick_42 (by decide) rfl ?_
    refine j_iload C 0 dX5_pick_44 rfl ?_
    refine j_if_gt C 60 dX5_pick_46 (by decide) (fun c_9 => ?_) (fun c_9 => ?_)
    · replace hf := ifp c_9 hf
      refine j_lv [2, 3, 5, 1] rfl ?_
      exact j_Longest_pick_60 C p_a0 p_a1 p_a2 p_a1_street p_a2_yards v_a1_set v_a1_yards u_a1_far u_a2_from u_a2_to u_a2_paid v_a2_count hk_10 x4 z5 v_a1_count n_a1_street f_a1_street n_a2_yards f_a2_yards hf
    · replace hf := ifn c_9 hf
      refine j_iload C 0 dX5_pick_49 rfl ?_
      refine j_if_ne C 63 dX5_pick_51 (by decide) (fun c_10 => ?_) (fun c_10 => ?_)
      · replace hf := ifn c_10 hf
        refine j_lv [2, 3, 4, 5] rfl ?_
        exact j_Longest_pick_63 C p_a0 p_a1 p_a2 p_a1_street p_a2_yards v_a1_set v_a1_yards u_a1_far u_a2_from u_a2_to u_a2_paid v_a2_count hk_10 x3 x4 v_a1_count n_a1_street f_a1_street n_a2_yards f_a2_yards hf
      · replace hf := ifp c_10 hf
        refine j_iload C 1 dX5_pick_54 rfl ?_
        refine j_pc 56 rfl ?_
        refine j_iload_n C 4 dX5_pick_56 rfl rfl ?_
        refine j_icmp_ge C 63 dX5_pick_57 (by decide) (fun c_11 => ?_) (fun c_11 => ?_)
        · replace hf := ifp c_11 hf
          refine j_lv [2, 3, 4, 5] rfl ?_
          exact j_Longest_pick_63 C p_a0 p_a1 p_a2 p_a1_street p_a2_yards v_a1_set v_a1_yards u_a1_far u_a2_from u_a2_to u_a2_paid v_a2_count hk_10 x3 x4 v_a1_count n_a1_street f_a1_street n_a2_yards f_a2_yards hf
        · replace hf := ifn c_11 hf
          refine j_lv [2, 3, 5, 1] rfl ?_
          exact j_Longest_pick_60 C p_a0 p_a1 p_a2 p_a1_street p_a2_yards v_a1_set v_a1_yards u_a1_far u_a2_from u_a2_to u_a2_paid v_a2_count hk_10 x4 z5 v_a1_count n_a1_street f_a1_street n_a2_yards f_a2_yards hf
set_option maxHeartbeats 4000000 in
set_option maxRecDepth 100000 in
theorem j_Longest_pick_10 {E : Ev} {g : Gd} {A : Nat → Prop} (C : Cx E g A RX5 cX5_pick wsX5_pick 7 (some .int)) (p_a0 : Nat) (p_a1 : Nat) (p_a2 : Nat) (p_a1_street : Nat) (p_a2_yards : Nat) (v_a1_set : Int32) (v_a1_yards : Int32) (u_a1_far : Value) (u_a2_from : Value) (u_a2_to : Value) (u_a2_paid : Value) (v_a2_count : Int32) {ρ : Int32} : ∀ (n : Nat) (x3 : Int32) (x4 : Int32) (v_a1_count : Int32) (n_a1_street : Nat) (f_a1_street : Nat → Int32) (n_a2_yards : Nat) (f_a2_yards : Nat → Int32), f_Longest_pick_10 n x3 x4 v_a1_count n_a1_street f_a1_street n_a2_yards f_a2_yards = some ρ → J E rm_Longest_pick g A 7 (QI E g A ρ (Wd_Longest_pick g p_a0 p_a1 p_a2 p_a1_street p_a2_yards v_a1_count v_a1_set v_a1_yards u_a1_far u_a2_from u_a2_to u_a2_paid v_a2_count n_a1_street f_a1_street n_a2_yards f_a2_yards) 0 0) 0 0 (Wd_Longest_pick g p_a0 p_a1 p_a2 p_a1_street p_a2_yards v_a1_count v_a1_set v_a1_yards u_a1_far u_a2_from u_a2_to u_a2_paid v_a2_count n_a1_street f_a1_street n_a2_yards f_a2_yards) [(1, .ref p_a1), (2, .ref p_a2), (3, .int x3), (4, .int x4)] 10 [] := by
  intro n
  induction n with
  | zero => intro x3 x4 v_a1_count n_a1_street f_a1_street n_a2_yards f_a2_yards h; have h0 : (none : Option (Int32)) = some ρ := h; cases h0
  | succ n ih => intro x3 x4 v_a1_count n_a1_street f_a1_street n_a2_yards f_a2_yards h; exact jb_Longest_pick_10 C p_a0 p_a1 p_a2 p_a1_street p_a2_yards v_a1_set v_a1_yards u_a1_far u_a2_from u_a2_to u_a2_paid v_a2_count ih x3 x4 v_a1_count n_a1_street f_a1_street n_a2_yards f_a2_yards h
noncomputable def f_Longest_pick (v_a1_count : Int32) (n_a1_street : Nat) (f_a1_street : Nat → Int32) (n_a2_yards : Nat) (f_a2_yards : Nat → Int32) : Option (Int32) := gix 0 n_a1_street (nmI (f_a1_street (0 : Int32).toNatClampNeg) (fun z2 => f_Longest_pick_10 FU z2 1 v_a1_count n_a1_street f_a1_street n_a2_yards f_a2_yards))
set_option maxHeartbeats 4000000 in
set_option maxRecDepth 100000 in
theorem c_Longest_pick (l : Launch) (g : Gd) (p_a0 : Nat) (p_a1 : Nat) (p_a2 : Nat) (p_a1_street : Nat) (p_a2_yards : Nat) (v_a1_count : Int32) (v_a1_set : Int32) (v_a1_yards : Int32) (u_a1_far : Value) (u_a2_from : Value) (u_a2_to : Value) (u_a2_paid : Value) (v_a2_count : Int32) (n_a1_street : Nat) (f_a1_street : Nat → Int32) (n_a2_yards : Nat) (f_a2_yards : Nat → Int32) {ρ : Int32} (hf : f_Longest_pick v_a1_count n_a1_street f_a1_street n_a2_yards f_a2_yards = some ρ) : CtI l g yX5_pick wsX5_pick rm_Longest_pick [.ref p_a0, .ref p_a1, .ref p_a2] (Wd_Longest_pick g p_a0 p_a1 p_a2 p_a1_street p_a2_yards v_a1_count v_a1_set v_a1_yards u_a1_far u_a2_from u_a2_to u_a2_paid v_a2_count n_a1_street f_a1_street n_a2_yards f_a2_yards) ρ (Wd_Longest_pick g p_a0 p_a1 p_a2 p_a1_street p_a2_yards v_a1_count v_a1_set v_a1_yards u_a1_far u_a2_from u_a2_to u_a2_paid v_a2_count n_a1_street f_a1_street n_a2_yards f_a2_yards) := by
  refine CtI.of (by decide) rfl rfl (Nat.le_of_ble_eq_true rfl) (fun E A _ C => ?_)
  unfold f_Longest_pick at hf
  show J E rm_Longest_pick g A 7 (QI E g A ρ (Wd_Longest_pick g p_a0 p_a1 p_a2 p_a1_street p_a2_yards v_a1_count v_a1_set v_a1_yards u_a1_far u_a2_from u_a2_to u_a2_paid v_a2_count n_a1_street f_a1_street n_a2_yards f_a2_yards) 0 0) 0 0 (Wd_Longest_pick g p_a0 p_a1 p_a2 p_a1_street p_a2_yards v_a1_count v_a1_set v_a1_yards u_a1_far u_a2_from u_a2_to u_a2_paid v_a2_count n_a1_street f_a1_street n_a2_yards f_a2_yards) [(0, .ref p_a0), (1, .ref p_a1), (2, .ref p_a2)] 0 []
  refine j_aload_n C 1 dX5_pick_0 rfl rfl ?_
  refine j_get C (ci := 9) 1 0 iw_Longest_pick_10 rfl rfl (by decide) fl_7_Longest_pick rfl rfl dX5_pick_1 ?_
  refine j_iconst C dX5_pick_4 (v := 0) (by decide) ?_
  obtain ⟨hi1, hf⟩ := gix_some hf
  refine j_iald C 3 rfl hi1 dX5_pick_5 ?_
  obtain ⟨z2, e_z2, hf⟩ := nmI_some hf
  refine j_nmi e_z2 ?_
  refine j_istore_n C [(3, .int z2), (0, .ref p_a0), (1, .ref p_a1), (2, .ref p_a2)] dX5_pick_6 rfl (by decide) rfl ?_
  refine j_iconst C dX5_pick_7 (v := 1) (by decide) ?_
  refine j_istore C [(4, .int 1), (3, .int z2), (0, .ref p_a0), (1, .ref p_a1), (2, .ref p_a2)] dX5_pick_8 (by decide) rfl ?_
  refine j_lv [3, 4, 1, 0] rfl ?_
  exact j_Longest_pick_10 C p_a0 p_a1 p_a2 p_a1_street p_a2_yards v_a1_set v_a1_yards u_a1_far u_a2_from u_a2_to u_a2_paid v_a2_count FU z2 1 v_a1_count n_a1_street f_a1_street n_a2_yards f_a2_yards hf
abbrev rm_Least_pick : Room := { frames := 1, cells := 0, slots := 0, locals := 30 }
def Wd_Least_pick (g : Gd) (p_a0 : Nat) (p_a1 : Nat) (p_a2 : Nat) (p_a1_street : Nat) (v_a1_count : Int32) (v_a1_set : Int32) (v_a1_yards : Int32) (u_a1_far : Value) (u_a2_from : Value) (u_a2_to : Value) (u_a2_yards : Value) (u_a2_paid : Value) (v_a2_count : Int32) (n_a1_street : Nat) (f_a1_street : Nat → Int32) : va_W := [(p_a0, .inr (3, [])), (p_a1, .inr (9, [.ref p_a1_street, .int v_a1_count, .int v_a1_set, .int v_a1_yards, u_a1_far])), (p_a2, .inr (6, [u_a2_from, u_a2_to, u_a2_yards, u_a2_paid, .int v_a2_count])), (p_a1_street, .inl (g.2.1 0, n_a1_street, .inl f_a1_street))]
theorem iw_Least_pick_10 : ∀ w ∈ wsX100, w ∈ wsX4_pick := fun w h => List.mem_cons_of_mem _ (List.mem_append_right _ h)
theorem fl_7_Least_pick : Cond.fieldLink RX4 7 "ShutWays$Way" (TX10 0).2.1 (TX10 0).2.2.1 ∈ wsX4_pick := by decide +kernel
theorem fl_13_Least_pick : Cond.fieldLink RX4 13 "ShutWays$Way" (TX10 1).2.1 (TX10 1).2.2.1 ∈ wsX4_pick := by decide +kernel
theorem mm0_17_Least_pick : Cond.methodLink RX4 17 Lib.Math.min.name ∈ wsX4_pick := by decide +kernel
theorem mm1_17_Least_pick : Cond.static Lib.Math.min.name ∈ wsX4_pick := by decide +kernel
theorem mm2_17_Least_pick : Cond.initialized "java/lang/Math" ∈ wsX4_pick := by decide +kernel
theorem mm3_17_Least_pick : Cond.code Lib.Math.min.name Lib.Math.min.code 2 (some .int) ∈ wsX4_pick := by decide +kernel
noncomputable def b_Least_pick_10 (k_10 : Int32 → Int32 → Int32 → Nat → (Nat → Int32) → Option (Int32)) (x3 : Int32) (x4 : Int32) (v_a1_count : Int32) (n_a1_street : Nat) (f_a1_street : Nat → Int32) : Option (Int32) := if v_a1_count ≤ x4 then some x3 else gix x4 n_a1_street (nmI (if (f_a1_street x4.toNatClampNeg) < x3 then (f_a1_street x4.toNatClampNeg) else x3) (fun z5 => k_10 z5 (x4 + 1) v_a1_count n_a1_street f_a1_street))
noncomputable def f_Least_pick_10 (n : Nat) : Int32 → Int32 → Int32 → Nat → (Nat → Int32) → Option (Int32) := Nat.rec (motive := fun _ => Int32 → Int32 → Int32 → Nat → (Nat → Int32) → Option (Int32)) (fun _ _ _ _ _ => none) (fun _ ih => b_Least_pick_10 ih) n
set_option maxHeartbeats 4000000 in
set_option maxRecDepth 100000 in
theorem jb_Least_pick_10 {E : Ev} {g : Gd} {A : Nat → Prop} (C : Cx E g A RX4 cX4_pick wsX4_pick 5 (some .int)) (p_a0 : Nat) (p_a1 : Nat) (p_a2 : Nat) (p_a1_street : Nat) (v_a1_set : Int32) (v_a1_yards : Int32) (u_a1_far : Value) (u_a2_from : Value) (u_a2_to : Value) (u_a2_yards : Value) (u_a2_paid : Value) (v_a2_count : Int32) {ρ : Int32} {k_10 : Int32 → Int32 → Int32 → Nat → (Nat → Int32) → Option (Int32)} (hk_10 : ∀ (x3 : Int32) (x4 : Int32) (v_a1_count : Int32) (n_a1_street : Nat) (f_a1_street : Nat → Int32), k_10 x3 x4 v_a1_count n_a1_street f_a1_street = some ρ → J E rm_Least_pick g A 5 (QI E g A ρ (Wd_Least_pick g p_a0 p_a1 p_a2 p_a1_street v_a1_count v_a1_set v_a1_yards u_a1_far u_a2_from u_a2_to u_a2_yards u_a2_paid v_a2_count n_a1_street f_a1_street) 0 0) 0 0 (Wd_Least_pick g p_a0 p_a1 p_a2 p_a1_street v_a1_count v_a1_set v_a1_yards u_a1_far u_a2_from u_a2_to u_a2_yards u_a2_paid v_a2_count n_a1_street f_a1_street) [(1, .ref p_a1), (3, .int x3), (4, .int x4)] 10 []) (x3 : Int32) (x4 : Int32) (v_a1_count : Int32) (n_a1_street : Nat) (f_a1_street : Nat → Int32) (hf : b_Least_pick_10 k_10 x3 x4 v_a1_count n_a1_street f_a1_street = some ρ) : J E rm_Least_pick g A 5 (QI E g A ρ (Wd_Least_pick g p_a0 p_a1 p_a2 p_a1_street v_a1_count v_a1_set v_a1_yards u_a1_far u_a2_from u_a2_to u_a2_yards u_a2_paid v_a2_count n_a1_street f_a1_street) 0 0) 0 0 (Wd_Least_pick g p_a0 p_a1 p_a2 p_a1_street v_a1_count v_a1_set v_a1_yards u_a1_far u_a2_from u_a2_to u_a2_yards u_a2_paid v_a2_count n_a1_street f_a1_street) [(1, .ref p_a1), (3, .int x3), (4, .int x4)] 10 [] := by
  unfold b_Least_pick_10 at hf
  refine j_iload C 2 dX4_pick_10 rfl ?_
  refine j_aload_n C 0 dX4_pick_12 rfl rfl ?_
  refine j_get C (ci := 9) 1 1 iw_Least_pick_10 rfl rfl (by decide) fl_13_Least_pick rfl rfl dX4_pick_13 ?_
  refine j_icmp_ge C 37 dX4_pick_16 (by decide) (fun c_3 => ?_) (fun c_3 => ?_)
  · replace hf := ifp c_3 hf
    refine j_iload_n C 1 dX4_pick_37 rfl rfl ?_
    obtain rfl := Option.some.inj hf
    exact j_iret C dX4_pick_38 rfl rfl
  · replace hf := ifn c_3 hf
    refine j_iload_n C 1 dX4_pick_19 rfl rfl ?_
    refine j_aload_n C 0 dX4_pick_20 rfl rfl ?_
    refine j_get C (ci := 9) 1 0 iw_Least_pick_10 rfl rfl (by decide) fl_7_Least_pick rfl rfl dX4_pick_21 ?_
    refine j_iload C 2 dX4_pick_24 rfl ?_
    obtain ⟨hi4, hf⟩ := gix_some hf
    refine j_iald C 3 rfl hi4 dX4_pick_26 ?_
    refine j_mmin C mm0_17_Least_pick mm1_17_Least_pick mm2_17_Least_pick mm3_17_Least_pick (Nat.le_of_ble_eq_true rfl) (Nat.le_of_ble_eq_true rfl) (Nat.zero_le _) (Nat.zero_le _) dX4_pick_27 ?_
    obtain ⟨z5, e_z5, hf⟩ := nmI_some hf
    refine j_nmi e_z5 ?_
    refine j_istore_n C [(3, .int z5), (1, .ref p_a1), (4, .int x4)] dX4_pick_30 rfl (by decide) rfl ?_
    refine j_iinc C (v := (x4 + 1)) 2 [(4, .int (x4 + 1)), (3, .int z5), (1, .ref p_a1)] dX4_pick_31 rfl (by first | rfl | decide) (by decide) rfl ?_
    refine j_pc 34 rfl ?_
    refine j_goto C 10 dX4_pick_34 (by decide) ?_
    refine j_lv [2, 1, 0] rfl ?_
    exact hk_10 z5 (x4 + 1) v_a1_count n_a1_street f_a1_street hf
set_option maxHeartbeats 4000000 in
set_option maxRecDepth 100000 in
theorem j_Least_pick_10 {E : Ev} {g : Gd} {A : Nat → Prop} (C : Cx E g A RX4 cX4_pick wsX4_pick 5 (some .int)) (p_a0 : Nat) (p_a1 : Nat) (p_a2 : Nat) (p_a1_street : Nat) (v_a1_set : Int32) (v_a1_yards : Int32) (u_a1_far : Value) (u_a2_from : Value) (u_a2_to : Value) (u_a2_yards : Value) (u_a2_paid : Value) (v_a2_count : Int32) {ρ : Int32} : ∀ (n : Nat) (x3 : Int32) (x4 : Int32) (v_a1_count : Int32) (n_a1_street : Nat) (f_a1_street : Nat → Int32), f_Least_pick_10 n x3 x4 v_a1_count n_a1_street f_a1_street = some ρ → J E rm_Least_pick g A 5 (QI E g A ρ (Wd_Least_pick g p_a0 p_a1 p_a2 p_a1_street v_a1_count v_a1_set v_a1_yards u_a1_far u_a2_from u_a2_to u_a2_yards u_a2_paid v_a2_count n_a1_street f_a1_street) 0 0) 0 0 (Wd_Least_pick g p_a0 p_a1 p_a2 p_a1_street v_a1_count v_a1_set v_a1_yards u_a1_far u_a2_from u_a2_to u_a2_yards u_a2_paid v_a2_count n_a1_street f_a1_street) [(1, .ref p_a1), (3, .int x3), (4, .int x4)] 10 [] := by
  intro n
  induction n with
  | zero => intro x3 x4 v_a1_count n_a1_street f_a1_street h; have h0 : (none : Option (Int32)) = some ρ := h; cases h0
  | succ n ih => intro x3 x4 v_a1_count n_a1_street f_a1_street h; exact jb_Least_pick_10 C p_a0 p_a1 p_a2 p_a1_street v_a1_set v_a1_yards u_a1_far u_a2_from u_a2_to u_a2_yards u_a2_paid v_a2_count ih x3 x4 v_a1_count n_a1_street f_a1_street h
noncomputable def f_Least_pick (v_a1_count : Int32) (n_a1_street : Nat) (f_a1_street : Nat → Int32) : Option (Int32) := gix 0 n_a1_street (nmI (f_a1_street (0 : Int32).toNatClampNeg) (fun z2 => f_Least_pick_10 FU z2 1 v_a1_count n_a1_street f_a1_street))
set_option maxHeartbeats 4000000 in
set_option maxRecDepth 100000 in
theorem c_Least_pick (l : Launch) (g : Gd) (p_a0 : Nat) (p_a1 : Nat) (p_a2 : Nat) (p_a1_street : Nat) (v_a1_count : Int32) (v_a1_set : Int32) (v_a1_yards : Int32) (u_a1_far : Value) (u_a2_from : Value) (u_a2_to : Value) (u_a2_yards : Value) (u_a2_paid : Value) (v_a2_count : Int32) (n_a1_street : Nat) (f_a1_street : Nat → Int32) {ρ : Int32} (hf : f_Least_pick v_a1_count n_a1_street f_a1_street = some ρ) : CtI l g yX4_pick wsX4_pick rm_Least_pick [.ref p_a0, .ref p_a1, .ref p_a2] (Wd_Least_pick g p_a0 p_a1 p_a2 p_a1_street v_a1_count v_a1_set v_a1_yards u_a1_far u_a2_from u_a2_to u_a2_yards u_a2_paid v_a2_count n_a1_street f_a1_street) ρ (Wd_Least_pick g p_a0 p_a1 p_a2 p_a1_street v_a1_count v_a1_set v_a1_yards u_a1_far u_a2_from u_a2_to u_a2_yards u_a2_paid v_a2_count n_a1_street f_a1_street) := by
  refine CtI.of (by decide) rfl rfl (Nat.le_of_ble_eq_true rfl) (fun E A _ C => ?_)
  unfold f_Least_pick at hf
  show J E rm_Least_pick g A 5 (QI E g A ρ (Wd_Least_pick g p_a0 p_a1 p_a2 p_a1_street v_a1_count v_a1_set v_a1_yards u_a1_far u_a2_from u_a2_to u_a2_yards u_a2_paid v_a2_count n_a1_street f_a1_street) 0 0) 0 0 (Wd_Least_pick g p_a0 p_a1 p_a2 p_a1_street v_a1_count v_a1_set v_a1_yards u_a1_far u_a2_from u_a2_to u_a2_yards u_a2_paid v_a2_count n_a1_street f_a1_street) [(0, .ref p_a0), (1, .ref p_a1), (2, .ref p_a2)] 0 []
  refine j_aload_n C 1 dX4_pick_0 rfl rfl ?_
  refine j_get C (ci := 9) 1 0 iw_Least_pick_10 rfl rfl (by decide) fl_7_Least_pick rfl rfl dX4_pick_1 ?_
  refine j_iconst C dX4_pick_4 (v := 0) (by decide) ?_
  obtain ⟨hi1, hf⟩ := gix_some hf
  refine j_iald C 3 rfl hi1 dX4_pick_5 ?_
  obtain ⟨z2, e_z2, hf⟩ := nmI_some hf
  refine j_nmi e_z2 ?_
  refine j_istore_n C [(3, .int z2), (0, .ref p_a0), (1, .ref p_a1), (2, .ref p_a2)] dX4_pick_6 rfl (by decide) rfl ?_
  refine j_iconst C dX4_pick_7 (v := 1) (by decide) ?_
  refine j_istore C [(4, .int 1), (3, .int z2), (0, .ref p_a0), (1, .ref p_a1), (2, .ref p_a2)] dX4_pick_8 (by decide) rfl ?_
  refine j_lv [3, 1, 0] rfl ?_
  exact j_Least_pick_10 C p_a0 p_a1 p_a2 p_a1_street v_a1_set v_a1_yards u_a1_far u_a2_from u_a2_to u_a2_yards u_a2_paid v_a2_count FU z2 1 v_a1_count n_a1_street f_a1_street hf
abbrev rm_Council_shuts_First : Room := { frames := 1, cells := 0, slots := 0, locals := 22 }
def Wd_Council_shuts_First (g : Gd) (p_a0 : Nat) (p_a1 : Nat) (p_a2 : Nat) (p_a1_street : Nat) (v_a1_count : Int32) (v_a1_set : Int32) (v_a1_yards : Int32) (u_a1_far : Value) (u_a2_from : Value) (u_a2_to : Value) (u_a2_yards : Value) (u_a2_paid : Value) (v_a2_count : Int32) (n_a1_street : Nat) (f_a1_street : Nat → Int32) : va_W := [(p_a0, .inr (1, [])), (p_a1, .inr (9, [.ref p_a1_street, .int v_a1_count, .int v_a1_set, .int v_a1_yards, u_a1_far])), (p_a2, .inr (6, [u_a2_from, u_a2_to, u_a2_yards, u_a2_paid, .int v_a2_count])), (p_a1_street, .inl (g.2.1 0, n_a1_street, .inl f_a1_street))]
noncomputable def f_Council_shuts_First_17 (y0 : Int32) (v_a1_count : Int32) (n_a1_street : Nat) (f_a1_street : Nat → Int32) : Option (Int32) := some y0
set_option maxHeartbeats 4000000 in
set_option maxRecDepth 100000 in
theorem j_Council_shuts_First_17 {E : Ev} {g : Gd} {A : Nat → Prop} (C : Cx E g A RX0 cX0_shuts wsX0_shuts 3 (some .int)) (p_a0 : Nat) (p_a1 : Nat) (p_a2 : Nat) (p_a1_street : Nat) (v_a1_set : Int32) (v_a1_yards : Int32) (u_a1_far : Value) (u_a2_from : Value) (u_a2_to : Value) (u_a2_yards : Value) (u_a2_paid : Value) (v_a2_count : Int32) {ρ : Int32} (y0 : Int32) (v_a1_count : Int32) (n_a1_street : Nat) (f_a1_street : Nat → Int32) (hf : f_Council_shuts_First_17 y0 v_a1_count n_a1_street f_a1_street = some ρ) : J E rm_Council_shuts_First g A 3 (QI E g A ρ (Wd_Council_shuts_First g p_a0 p_a1 p_a2 p_a1_street v_a1_count v_a1_set v_a1_yards u_a1_far u_a2_from u_a2_to u_a2_yards u_a2_paid v_a2_count n_a1_street f_a1_street) 0 0) 0 0 (Wd_Council_shuts_First g p_a0 p_a1 p_a2 p_a1_street v_a1_count v_a1_set v_a1_yards u_a1_far u_a2_from u_a2_to u_a2_yards u_a2_paid v_a2_count n_a1_street f_a1_street) [] 17 [.int y0] := by
  unfold f_Council_shuts_First_17 at hf
  obtain rfl := Option.some.inj hf
  exact j_iret C dX0_shuts_17 rfl rfl
noncomputable def f_Council_shuts_First (v_a1_count : Int32) (n_a1_street : Nat) (f_a1_street : Nat → Int32) : Option (Int32) := (f_Way_isThere v_a1_count).bind (fun r1 => if r1 = 0 then f_Council_shuts_First_17 (-1) v_a1_count n_a1_street f_a1_street else (f_First_pick n_a1_street f_a1_street).bind (fun r4 => f_Council_shuts_First_17 r4 v_a1_count n_a1_street f_a1_street))
set_option maxHeartbeats 4000000 in
set_option maxRecDepth 100000 in
theorem c_Council_shuts_First (l : Launch) (g : Gd) (p_a0 : Nat) (p_a1 : Nat) (p_a2 : Nat) (p_a1_street : Nat) (v_a1_count : Int32) (v_a1_set : Int32) (v_a1_yards : Int32) (u_a1_far : Value) (u_a2_from : Value) (u_a2_to : Value) (u_a2_yards : Value) (u_a2_paid : Value) (v_a2_count : Int32) (n_a1_street : Nat) (f_a1_street : Nat → Int32) {ρ : Int32} (hf : f_Council_shuts_First v_a1_count n_a1_street f_a1_street = some ρ) : CtI l g yX0_shuts wsX0_shuts rm_Council_shuts_First [.ref p_a0, .ref p_a1, .ref p_a2] (Wd_Council_shuts_First g p_a0 p_a1 p_a2 p_a1_street v_a1_count v_a1_set v_a1_yards u_a1_far u_a2_from u_a2_to u_a2_yards u_a2_paid v_a2_count n_a1_street f_a1_street) ρ (Wd_Council_shuts_First g p_a0 p_a1 p_a2 p_a1_street v_a1_count v_a1_set v_a1_yards u_a1_far u_a2_from u_a2_to u_a2_yards u_a2_paid v_a2_count n_a1_street f_a1_street) := by
  refine CtI.of (by decide) rfl rfl (Nat.le_of_ble_eq_true rfl) (fun E A _ C => ?_)
  unfold f_Council_shuts_First at hf
  show J E rm_Council_shuts_First g A 3 (QI E g A ρ (Wd_Council_shuts_First g p_a0 p_a1 p_a2 p_a1_street v_a1_count v_a1_set v_a1_yards u_a1_far u_a2_from u_a2_to u_a2_yards u_a2_paid v_a2_count n_a1_street f_a1_street) 0 0) 0 0 (Wd_Council_shuts_First g p_a0 p_a1 p_a2 p_a1_street v_a1_count v_a1_set v_a1_yards u_a1_far u_a2_from u_a2_to u_a2_yards u_a2_paid v_a2_count n_a1_street f_a1_street) [(0, .ref p_a0), (1, .ref p_a1), (2, .ref p_a2)] 0 []
  refine j_aload_n C 1 dX0_shuts_0 rfl rfl ?_
  obtain ⟨r1, hc2, hf⟩ := bnd hf
  refine j_cvI C (n := 0) (ci := 9) [] [1] [0, 2, 3] [0, 3, 1, 2] (Wd_Council_shuts_First g p_a0 p_a1 p_a2 p_a1_street v_a1_count v_a1_set v_a1_yards u_a1_far u_a2_from u_a2_to u_a2_yards u_a2_paid v_a2_count n_a1_street f_a1_street) (c_Way_isThere E.2.1 g p_a1 (.ref p_a1_street) v_a1_count v_a1_set v_a1_yards u_a1_far hc2) gX0_shuts_X10_isThere rfl rfl rfl (by decide +kernel) ⟨Nat.le_of_ble_eq_true rfl, Nat.le_of_ble_eq_true rfl⟩ rfl rfl (by decide) (by decide) (by decide) 0 rfl rfl (by decide) rfl rfl rfl (Nat.le_of_ble_eq_true rfl) ⟨Nat.zero_le _, Nat.zero_le _⟩ dX0_shuts_1 ?_
  refine j_if_eq C 16 dX0_shuts_4 (by decide) (fun c_3 => ?_) (fun c_3 => ?_)
  · replace hf := ifp c_3 hf
    refine j_iconst C dX0_shuts_16 (v := (-1)) (by decide) ?_
    refine j_lv [] rfl ?_
    exact j_Council_shuts_First_17 C p_a0 p_a1 p_a2 p_a1_street v_a1_set v_a1_yards u_a1_far u_a2_from u_a2_to u_a2_yards u_a2_paid v_a2_count (-1) v_a1_count n_a1_street f_a1_street hf
  · replace hf := ifn c_3 hf
    refine j_aload_n C 0 dX0_shuts_7 rfl rfl ?_
    refine j_aload_n C 1 dX0_shuts_8 rfl rfl ?_
    refine j_aload_n C 2 dX0_shuts_9 rfl rfl ?_
    obtain ⟨r4, hc5, hf⟩ := bnd hf
    refine j_caI C (n := 2) (ci := 1) [.ref p_a1, .ref p_a2] [0, 1, 2, 3] [] [0, 1, 2, 3] (Wd_Council_shuts_First g p_a0 p_a1 p_a2 p_a1_street v_a1_count v_a1_set v_a1_yards u_a1_far u_a2_from u_a2_to u_a2_yards u_a2_paid v_a2_count n_a1_street f_a1_street) (c_First_pick E.2.1 g p_a0 p_a1 p_a2 p_a1_street v_a1_count v_a1_set v_a1_yards u_a1_far u_a2_from u_a2_to u_a2_yards u_a2_paid v_a2_count n_a1_street f_a1_street hc5) gX0_shuts_X2_pick_u15X2 rfl rfl rfl rfl (by decide +kernel) ⟨Nat.le_of_ble_eq_true rfl, Nat.le_of_ble_eq_true rfl⟩ rfl rfl (by decide) (by decide) (by decide) 0 rfl rfl (by decide) rfl rfl rfl (Nat.le_of_ble_eq_true rfl) ⟨Nat.zero_le _, Nat.zero_le _⟩ dX0_shuts_10 ?_
    refine j_goto C 17 dX0_shuts_13 (by decide) ?_
    refine j_lv [] rfl ?_
    exact j_Council_shuts_First_17 C p_a0 p_a1 p_a2 p_a1_street v_a1_set v_a1_yards u_a1_far u_a2_from u_a2_to u_a2_yards u_a2_paid v_a2_count r4 v_a1_count n_a1_street f_a1_street hf
abbrev rm_Council_isOf_First : Room := { frames := 0, cells := 0, slots := 0, locals := 0 }
def Wd_Council_isOf_First (g : Gd) (p_a0 : Nat) : va_W := [(p_a0, .inr (1, []))]
theorem ic_21_Council_isOf_First : Cond.classLink RX0 21 "ShutWays$First" ∈ wsX0_isOf := by decide +kernel
theorem ic_23_Council_isOf_First : Cond.classLink RX0 23 "ShutWays$Last" ∈ wsX0_isOf := by decide +kernel
theorem ic_25_Council_isOf_First : Cond.classLink RX0 25 "ShutWays$Longest" ∈ wsX0_isOf := by decide +kernel
theorem ic_27_Council_isOf_First : Cond.classLink RX0 27 "ShutWays$Least" ∈ wsX0_isOf := by decide +kernel
noncomputable def f_Council_isOf_First (x1 : Int32) : Option (Int32) := if x1 = 0 then some 1 else if x1 = 1 then some 1 else if x1 = 2 then some 0 else if x1 = 3 then some 0 else if x1 = 4 then some 0 else some 0
set_option maxHeartbeats 4000000 in
set_option maxRecDepth 100000 in
theorem c_Council_isOf_First (l : Launch) (g : Gd) (p_a0 : Nat) (x1 : Int32) {ρ : Int32} (hf : f_Council_isOf_First x1 = some ρ) : CtI l g yX0_isOf wsX0_isOf rm_Council_isOf_First [.ref p_a0, .int x1] (Wd_Council_isOf_First g p_a0) ρ (Wd_Council_isOf_First g p_a0) := by
  refine CtI.of (by decide) rfl rfl (Nat.le_of_ble_eq_true rfl) (fun E A _ C => ?_)
  unfold f_Council_isOf_First at hf
  show J E rm_Council_isOf_First g A 2 (QI E g A ρ (Wd_Council_isOf_First g p_a0) 0 0) 0 0 (Wd_Council_isOf_First g p_a0) [(0, .ref p_a0), (1, .int x1)] 0 []
  refine j_iload_n C 1 dX0_isOf_0 rfl rfl ?_
  by_cases c_1 : x1 = 0
  · replace hf := ifp c_1 hf
    refine j_tsIn C (v := 0) 36 dX0_isOf_1 c_1 (by decide) (by decide) (by rfl) (by decide) ?_
    refine j_iconst C dX0_isOf_36 (v := 1) (by decide) ?_
    obtain rfl := Option.some.inj hf
    exact j_zret C dX0_isOf_37 (Or.inr rfl) rfl rfl
  · replace hf := ifn c_1 hf
    by_cases c_2 : x1 = 1
    · replace hf := ifp c_2 hf
      refine j_tsIn C (v := 1) 38 dX0_isOf_1 c_2 (by decide) (by decide) (by rfl) (by decide) ?_
      refine j_aload_n C 0 dX0_isOf_38 rfl rfl ?_
      refine j_instS C (ci := 1) 0 ic_21_Council_isOf_First rfl rfl dX0_isOf_39 ?_
      obtain rfl := Option.some.inj hf
      exact j_zret C dX0_isOf_42 (Or.inr rfl) rfl rfl
    · replace hf := ifn c_2 hf
      by_cases c_3 : x1 = 2
      · replace hf := ifp c_3 hf
        refine j_tsIn C (v := 2) 43 dX0_isOf_1 c_3 (by decide) (by decide) (by rfl) (by decide) ?_
        refine j_aload_n C 0 dX0_isOf_43 rfl rfl ?_
        refine j_instN C (ci := 1) 0 ic_23_Council_isOf_First rfl rfl (by decide +kernel) dX0_isOf_44 ?_
        obtain rfl := Option.some.inj hf
        exact j_zret C dX0_isOf_47 (Or.inl rfl) rfl rfl
      · replace hf := ifn c_3 hf
        by_cases c_4 : x1 = 3
        · replace hf := ifp c_4 hf
          refine j_tsIn C (v := 3) 48 dX0_isOf_1 c_4 (by decide) (by decide) (by rfl) (by decide) ?_
          refine j_aload_n C 0 dX0_isOf_48 rfl rfl ?_
          refine j_instN C (ci := 1) 0 ic_25_Council_isOf_First rfl rfl (by decide +kernel) dX0_isOf_49 ?_
          obtain rfl := Option.some.inj hf
          exact j_zret C dX0_isOf_52 (Or.inl rfl) rfl rfl
        · replace hf := ifn c_4 hf
          by_cases c_5 : x1 = 4
          · replace hf := ifp c_5 hf
            refine j_tsIn C (v := 4) 53 dX0_isOf_1 c_5 (by decide) (by decide) (by rfl) (by decide) ?_
            refine j_aload_n C 0 dX0_isOf_53 rfl rfl ?_
            refine j_instN C (ci := 1) 0 ic_27_Council_isOf_First rfl rfl (by decide +kernel) dX0_isOf_54 ?_
            obtain rfl := Option.some.inj hf
            exact j_zret C dX0_isOf_57 (Or.inl rfl) rfl rfl
          · replace hf := ifn c_5 hf
            refine j_tsOut C 58 dX0_isOf_1 (by have t0 := lv_neT c_1 (show ((0 : Int32)).toInt = 0 by decide); have t1 := lv_neT c_2 (show ((1 : Int32)).toInt = 1 by decide); have t2 := lv_neT c_3 (show ((2 : Int32)).toInt = 2 by decide); have t3 := lv_neT c_4 (show ((3 : Int32)).toInt = 3 by decide); have t4 := lv_neT c_5 (show ((4 : Int32)).toInt = 4 by decide); omega) (by decide) ?_
            refine j_iconst C dX0_isOf_58 (v := 0) (by decide) ?_
            obtain rfl := Option.some.inj hf
            exact j_zret C dX0_isOf_59 (Or.inl rfl) rfl rfl
abbrev rm_Council_shuts_Last : Room := { frames := 1, cells := 0, slots := 0, locals := 22 }
def Wd_Council_shuts_Last (g : Gd) (p_a0 : Nat) (p_a1 : Nat) (p_a2 : Nat) (p_a1_street : Nat) (v_a1_count : Int32) (v_a1_set : Int32) (v_a1_yards : Int32) (u_a1_far : Value) (u_a2_from : Value) (u_a2_to : Value) (u_a2_yards : Value) (u_a2_paid : Value) (v_a2_count : Int32) (n_a1_street : Nat) (f_a1_street : Nat → Int32) : va_W := [(p_a0, .inr (2, [])), (p_a1, .inr (9, [.ref p_a1_street, .int v_a1_count, .int v_a1_set, .int v_a1_yards, u_a1_far])), (p_a2, .inr (6, [u_a2_from, u_a2_to, u_a2_yards, u_a2_paid, .int v_a2_count])), (p_a1_street, .inl (g.2.1 0, n_a1_street, .inl f_a1_street))]
noncomputable def f_Council_shuts_Last_17 (y0 : Int32) (v_a1_count : Int32) (n_a1_street : Nat) (f_a1_street : Nat → Int32) : Option (Int32) := some y0
set_option maxHeartbeats 4000000 in
set_option maxRecDepth 100000 in
theorem j_Council_shuts_Last_17 {E : Ev} {g : Gd} {A : Nat → Prop} (C : Cx E g A RX0 cX0_shuts wsX0_shuts 3 (some .int)) (p_a0 : Nat) (p_a1 : Nat) (p_a2 : Nat) (p_a1_street : Nat) (v_a1_set : Int32) (v_a1_yards : Int32) (u_a1_far : Value) (u_a2_from : Value) (u_a2_to : Value) (u_a2_yards : Value) (u_a2_paid : Value) (v_a2_count : Int32) {ρ : Int32} (y0 : Int32) (v_a1_count : Int32) (n_a1_street : Nat) (f_a1_street : Nat → Int32) (hf : f_Council_shuts_Last_17 y0 v_a1_count n_a1_street f_a1_street = some ρ) : J E rm_Council_shuts_Last g A 3 (QI E g A ρ (Wd_Council_shuts_Last g p_a0 p_a1 p_a2 p_a1_street v_a1_count v_a1_set v_a1_yards u_a1_far u_a2_from u_a2_to u_a2_yards u_a2_paid v_a2_count n_a1_street f_a1_street) 0 0) 0 0 (Wd_Council_shuts_Last g p_a0 p_a1 p_a2 p_a1_street v_a1_count v_a1_set v_a1_yards u_a1_far u_a2_from u_a2_to u_a2_yards u_a2_paid v_a2_count n_a1_street f_a1_street) [] 17 [.int y0] := by
  unfold f_Council_shuts_Last_17 at hf
  obtain rfl := Option.some.inj hf
  exact j_iret C dX0_shuts_17 rfl rfl
noncomputable def f_Council_shuts_Last (v_a1_count : Int32) (n_a1_street : Nat) (f_a1_street : Nat → Int32) : Option (Int32) := (f_Way_isThere v_a1_count).bind (fun r1 => if r1 = 0 then f_Council_shuts_Last_17 (-1) v_a1_count n_a1_street f_a1_street else (f_Last_pick v_a1_count n_a1_street f_a1_street).bind (fun r4 => f_Council_shuts_Last_17 r4 v_a1_count n_a1_street f_a1_street))
set_option maxHeartbeats 4000000 in
set_option maxRecDepth 100000 in
theorem c_Council_shuts_Last (l : Launch) (g : Gd) (p_a0 : Nat) (p_a1 : Nat) (p_a2 : Nat) (p_a1_street : Nat) (v_a1_count : Int32) (v_a1_set : Int32) (v_a1_yards : Int32) (u_a1_far : Value) (u_a2_from : Value) (u_a2_to : Value) (u_a2_yards : Value) (u_a2_paid : Value) (v_a2_count : Int32) (n_a1_street : Nat) (f_a1_street : Nat → Int32) {ρ : Int32} (hf : f_Council_shuts_Last v_a1_count n_a1_street f_a1_street = some ρ) : CtI l g yX0_shuts wsX0_shuts rm_Council_shuts_Last [.ref p_a0, .ref p_a1, .ref p_a2] (Wd_Council_shuts_Last g p_a0 p_a1 p_a2 p_a1_street v_a1_count v_a1_set v_a1_yards u_a1_far u_a2_from u_a2_to u_a2_yards u_a2_paid v_a2_count n_a1_street f_a1_street) ρ (Wd_Council_shuts_Last g p_a0 p_a1 p_a2 p_a1_street v_a1_count v_a1_set v_a1_yards u_a1_far u_a2_from u_a2_to u_a2_yards u_a2_paid v_a2_count n_a1_street f_a1_street) := by
  refine CtI.of (by decide) rfl rfl (Nat.le_of_ble_eq_true rfl) (fun E A _ C => ?_)
  unfold f_Council_shuts_Last at hf
  show J E rm_Council_shuts_Last g A 3 (QI E g A ρ (Wd_Council_shuts_Last g p_a0 p_a1 p_a2 p_a1_street v_a1_count v_a1_set v_a1_yards u_a1_far u_a2_from u_a2_to u_a2_yards u_a2_paid v_a2_count n_a1_street f_a1_street) 0 0) 0 0 (Wd_Council_shuts_Last g p_a0 p_a1 p_a2 p_a1_street v_a1_count v_a1_set v_a1_yards u_a1_far u_a2_from u_a2_to u_a2_yards u_a2_paid v_a2_count n_a1_street f_a1_street) [(0, .ref p_a0), (1, .ref p_a1), (2, .ref p_a2)] 0 []
  refine j_aload_n C 1 dX0_shuts_0 rfl rfl ?_
  obtain ⟨r1, hc2, hf⟩ := bnd hf
  refine j_cvI C (n := 0) (ci := 9) [] [1] [0, 2, 3] [0, 3, 1, 2] (Wd_Council_shuts_Last g p_a0 p_a1 p_a2 p_a1_street v_a1_count v_a1_set v_a1_yards u_a1_far u_a2_from u_a2_to u_a2_yards u_a2_paid v_a2_count n_a1_street f_a1_street) (c_Way_isThere E.2.1 g p_a1 (.ref p_a1_street) v_a1_count v_a1_set v_a1_yards u_a1_far hc2) gX0_shuts_X10_isThere rfl rfl rfl (by decide +kernel) ⟨Nat.le_of_ble_eq_true rfl, Nat.le_of_ble_eq_true rfl⟩ rfl rfl (by decide) (by decide) (by decide) 0 rfl rfl (by decide) rfl rfl rfl (Nat.le_of_ble_eq_true rfl) ⟨Nat.zero_le _, Nat.zero_le _⟩ dX0_shuts_1 ?_
  refine j_if_eq C 16 dX0_shuts_4 (by decide) (fun c_3 => ?_) (fun c_3 => ?_)
  · replace hf := ifp c_3 hf
    refine j_iconst C dX0_shuts_16 (v := (-1)) (by decide) ?_
    refine j_lv [] rfl ?_
    exact j_Council_shuts_Last_17 C p_a0 p_a1 p_a2 p_a1_street v_a1_set v_a1_yards u_a1_far u_a2_from u_a2_to u_a2_yards u_a2_paid v_a2_count (-1) v_a1_count n_a1_street f_a1_street hf
  · replace hf := ifn c_3 hf
    refine j_aload_n C 0 dX0_shuts_7 rfl rfl ?_
    refine j_aload_n C 1 dX0_shuts_8 rfl rfl ?_
    refine j_aload_n C 2 dX0_shuts_9 rfl rfl ?_
    obtain ⟨r4, hc5, hf⟩ := bnd hf
    refine j_caI C (n := 2) (ci := 2) [.ref p_a1, .ref p_a2] [0, 1, 2, 3] [] [0, 1, 2, 3] (Wd_Council_shuts_Last g p_a0 p_a1 p_a2 p_a1_street v_a1_count v_a1_set v_a1_yards u_a1_far u_a2_from u_a2_to u_a2_yards u_a2_paid v_a2_count n_a1_street f_a1_street) (c_Last_pick E.2.1 g p_a0 p_a1 p_a2 p_a1_street v_a1_count v_a1_set v_a1_yards u_a1_far u_a2_from u_a2_to u_a2_yards u_a2_paid v_a2_count n_a1_street f_a1_street hc5) gX0_shuts_X3_pick_u15X3 rfl rfl rfl rfl (by decide +kernel) ⟨Nat.le_of_ble_eq_true rfl, Nat.le_of_ble_eq_true rfl⟩ rfl rfl (by decide) (by decide) (by decide) 0 rfl rfl (by decide) rfl rfl rfl (Nat.le_of_ble_eq_true rfl) ⟨Nat.zero_le _, Nat.zero_le _⟩ dX0_shuts_10 ?_
    refine j_goto C 17 dX0_shuts_13 (by decide) ?_
    refine j_lv [] rfl ?_
    exact j_Council_shuts_Last_17 C p_a0 p_a1 p_a2 p_a1_street v_a1_set v_a1_yards u_a1_far u_a2_from u_a2_to u_a2_yards u_a2_paid v_a2_count r4 v_a1_count n_a1_street f_a1_street hf
abbrev rm_Council_isOf_Last : Room := { frames := 0, cells := 0, slots := 0, locals := 0 }
def Wd_Council_isOf_Last (g : Gd) (p_a0 : Nat) : va_W := [(p_a0, .inr (2, []))]
theorem ic_21_Council_isOf_Last : Cond.classLink RX0 21 "ShutWays$First" ∈ wsX0_isOf := by decide +kernel
theorem ic_23_Council_isOf_Last : Cond.classLink RX0 23 "ShutWays$Last" ∈ wsX0_isOf := by decide +kernel
theorem ic_25_Council_isOf_Last : Cond.classLink RX0 25 "ShutWays$Longest" ∈ wsX0_isOf := by decide +kernel
theorem ic_27_Council_isOf_Last : Cond.classLink RX0 27 "ShutWays$Least" ∈ wsX0_isOf := by decide +kernel
noncomputable def f_Council_isOf_Last (x1 : Int32) : Option (Int32) := if x1 = 0 then some 1 else if x1 = 1 then some 1 else if x1 = 2 then some 1 else if x1 = 3 then some 0 else if x1 = 4 then some 0 else some 0
set_option maxHeartbeats 4000000 in
set_option maxRecDepth 100000 in
theorem c_Council_isOf_Last (l : Launch) (g : Gd) (p_a0 : Nat) (x1 : Int32) {ρ : Int32} (hf : f_Council_isOf_Last x1 = some ρ) : CtI l g yX0_isOf wsX0_isOf rm_Council_isOf_Last [.ref p_a0, .int x1] (Wd_Council_isOf_Last g p_a0) ρ (Wd_Council_isOf_Last g p_a0) := by
  refine CtI.of (by decide) rfl rfl (Nat.le_of_ble_eq_true rfl) (fun E A _ C => ?_)
  unfold f_Council_isOf_Last at hf
  show J E rm_Council_isOf_Last g A 2 (QI E g A ρ (Wd_Council_isOf_Last g p_a0) 0 0) 0 0 (Wd_Council_isOf_Last g p_a0) [(0, .ref p_a0), (1, .int x1)] 0 []
  refine j_iload_n C 1 dX0_isOf_0 rfl rfl ?_
  by_cases c_1 : x1 = 0
  · replace hf := ifp c_1 hf
    refine j_tsIn C (v := 0) 36 dX0_isOf_1 c_1 (by decide) (by decide) (by rfl) (by decide) ?_
    refine j_iconst C dX0_isOf_36 (v := 1) (by decide) ?_
    obtain rfl := Option.some.inj hf
    exact j_zret C dX0_isOf_37 (Or.inr rfl) rfl rfl
  · replace hf := ifn c_1 hf
    by_cases c_2 : x1 = 1
    · replace hf := ifp c_2 hf
      refine j_tsIn C (v := 1) 38 dX0_isOf_1 c_2 (by decide) (by decide) (by rfl) (by decide) ?_
      refine j_aload_n C 0 dX0_isOf_38 rfl rfl ?_
      refine j_instY C (ci := 2) 0 ic_21_Council_isOf_Last rfl rfl (by decide +kernel) dX0_isOf_39 ?_
      obtain rfl := Option.some.inj hf
      exact j_zret C dX0_isOf_42 (Or.inr rfl) rfl rfl
    · replace hf := ifn c_2 hf
      by_cases c_3 : x1 = 2
      · replace hf := ifp c_3 hf
        refine j_tsIn C (v := 2) 43 dX0_isOf_1 c_3 (by decide) (by decide) (by rfl) (by decide) ?_
        refine j_aload_n C 0 dX0_isOf_43 rfl rfl ?_
        refine j_instS C (ci := 2) 0 ic_23_Council_isOf_Last rfl rfl dX0_isOf_44 ?_
        obtain rfl := Option.some.inj hf
        exact j_zret C dX0_isOf_47 (Or.inr rfl) rfl rfl
      · replace hf := ifn c_3 hf
        by_cases c_4 : x1 = 3
        · replace hf := ifp c_4 hf
          refine j_tsIn C (v := 3) 48 dX0_isOf_1 c_4 (by decide) (by decide) (by rfl) (by decide) ?_
          refine j_aload_n C 0 dX0_isOf_48 rfl rfl ?_
          refine j_instN C (ci := 2) 0 ic_25_Council_isOf_Last rfl rfl (by decide +kernel) dX0_isOf_49 ?_
          obtain rfl := Option.some.inj hf
          exact j_zret C dX0_isOf_52 (Or.inl rfl) rfl rfl
        · replace hf := ifn c_4 hf
          by_cases c_5 : x1 = 4
          · replace hf := ifp c_5 hf
            refine j_tsIn C (v := 4) 53 dX0_isOf_1 c_5 (by decide) (by decide) (by rfl) (by decide) ?_
            refine j_aload_n C 0 dX0_isOf_53 rfl rfl ?_
            refine j_instN C (ci := 2) 0 ic_27_Council_isOf_Last rfl rfl (by decide +kernel) dX0_isOf_54 ?_
            obtain rfl := Option.some.inj hf
            exact j_zret C dX0_isOf_57 (Or.inl rfl) rfl rfl
          · replace hf := ifn c_5 hf
            refine j_tsOut C 58 dX0_isOf_1 (by have t0 := lv_neT c_1 (show ((0 : Int32)).toInt = 0 by decide); have t1 := lv_neT c_2 (show ((1 : Int32)).toInt = 1 by decide); have t2 := lv_neT c_3 (show ((2 : Int32)).toInt = 2 by decide); have t3 := lv_neT c_4 (show ((3 : Int32)).toInt = 3 by decide); have t4 := lv_neT c_5 (show ((4 : Int32)).toInt = 4 by decide); omega) (by decide) ?_
            refine j_iconst C dX0_isOf_58 (v := 0) (by decide) ?_
            obtain rfl := Option.some.inj hf
            exact j_zret C dX0_isOf_59 (Or.inl rfl) rfl rfl
abbrev rm_Council_shuts_Longest : Room := { frames := 1, cells := 0, slots := 0, locals := 26 }
def Wd_Council_shuts_Longest (g : Gd) (p_a0 : Nat) (p_a1 : Nat) (p_a2 : Nat) (p_a1_street : Nat) (p_a2_yards : Nat) (v_a1_count : Int32) (v_a1_set : Int32) (v_a1_yards : Int32) (u_a1_far : Value) (u_a2_from : Value) (u_a2_to : Value) (u_a2_paid : Value) (v_a2_count : Int32) (n_a1_street : Nat) (f_a1_street : Nat → Int32) (n_a2_yards : Nat) (f_a2_yards : Nat → Int32) : va_W := [(p_a0, .inr (4, [])), (p_a1, .inr (9, [.ref p_a1_street, .int v_a1_count, .int v_a1_set, .int v_a1_yards, u_a1_far])), (p_a2, .inr (6, [u_a2_from, u_a2_to, .ref p_a2_yards, u_a2_paid, .int v_a2_count])), (p_a1_street, .inl (g.2.1 0, n_a1_street, .inl f_a1_street)), (p_a2_yards, .inl (g.2.1 0, n_a2_yards, .inl f_a2_yards))]
noncomputable def f_Council_shuts_Longest_17 (y0 : Int32) (v_a1_count : Int32) (n_a1_street : Nat) (f_a1_street : Nat → Int32) (n_a2_yards : Nat) (f_a2_yards : Nat → Int32) : Option (Int32) := some y0
set_option maxHeartbeats 4000000 in
set_option maxRecDepth 100000 in
theorem j_Council_shuts_Longest_17 {E : Ev} {g : Gd} {A : Nat → Prop} (C : Cx E g A RX0 cX0_shuts wsX0_shuts 3 (some .int)) (p_a0 : Nat) (p_a1 : Nat) (p_a2 : Nat) (p_a1_street : Nat) (p_a2_yards : Nat) (v_a1_set : Int32) (v_a1_yards : Int32) (u_a1_far : Value) (u_a2_from : Value) (u_a2_to : Value) (u_a2_paid : Value) (v_a2_count : Int32) {ρ : Int32} (y0 : Int32) (v_a1_count : Int32) (n_a1_street : Nat) (f_a1_street : Nat → Int32) (n_a2_yards : Nat) (f_a2_yards : Nat → Int32) (hf : f_Council_shuts_Longest_17 y0 v_a1_count n_a1_street f_a1_street n_a2_yards f_a2_yards = some ρ) : J E rm_Council_shuts_Longest g A 3 (QI E g A ρ (Wd_Council_shuts_Longest g p_a0 p_a1 p_a2 p_a1_street p_a2_yards v_a1_count v_a1_set v_a1_yards u_a1_far u_a2_from u_a2_to u_a2_paid v_a2_count n_a1_street f_a1_street n_a2_yards f_a2_yards) 0 0) 0 0 (Wd_Council_shuts_Longest g p_a0 p_a1 p_a2 p_a1_street p_a2_yards v_a1_count v_a1_set v_a1_yards u_a1_far u_a2_from u_a2_to u_a2_paid v_a2_count n_a1_street f_a1_street n_a2_yards f_a2_yards) [] 17 [.int y0] := by
  unfold f_Council_shuts_Longest_17 at hf
  obtain rfl := Option.some.inj hf
  exact j_iret C dX0_shuts_17 rfl rfl
noncomputable def f_Council_shuts_Longest (v_a1_count : Int32) (n_a1_street : Nat) (f_a1_street : Nat → Int32) (n_a2_yards : Nat) (f_a2_yards : Nat → Int32) : Option (Int32) := (f_Way_isThere v_a1_count).bind (fun r1 => if r1 = 0 then f_Council_shuts_Longest_17 (-1) v_a1_count n_a1_street f_a1_street n_a2_yards f_a2_yards else (f_Longest_pick v_a1_count n_a1_street f_a1_street n_a2_yards f_a2_yards).bind (fun r4 => f_Council_shuts_Longest_17 r4 v_a1_count n_a1_street f_a1_street n_a2_yards f_a2_yards))
set_option maxHeartbeats 4000000 in
set_option maxRecDepth 100000 in
theorem c_Council_shuts_Longest (l : Launch) (g : Gd) (p_a0 : Nat) (p_a1 : Nat) (p_a2 : Nat) (p_a1_street : Nat) (p_a2_yards : Nat) (v_a1_count : Int32) (v_a1_set : Int32) (v_a1_yards : Int32) (u_a1_far : Value) (u_a2_from : Value) (u_a2_to : Value) (u_a2_paid : Value) (v_a2_count : Int32) (n_a1_street : Nat) (f_a1_street : Nat → Int32) (n_a2_yards : Nat) (f_a2_yards : Nat → Int32) {ρ : Int32} (hf : f_Council_shuts_Longest v_a1_count n_a1_street f_a1_street n_a2_yards f_a2_yards = some ρ) : CtI l g yX0_shuts wsX0_shuts rm_Council_shuts_Longest [.ref p_a0, .ref p_a1, .ref p_a2] (Wd_Council_shuts_Longest g p_a0 p_a1 p_a2 p_a1_street p_a2_yards v_a1_count v_a1_set v_a1_yards u_a1_far u_a2_from u_a2_to u_a2_paid v_a2_count n_a1_street f_a1_street n_a2_yards f_a2_yards) ρ (Wd_Council_shuts_Longest g p_a0 p_a1 p_a2 p_a1_street p_a2_yards v_a1_count v_a1_set v_a1_yards u_a1_far u_a2_from u_a2_to u_a2_paid v_a2_count n_a1_street f_a1_street n_a2_yards f_a2_yards) := by
  refine CtI.of (by decide) rfl rfl (Nat.le_of_ble_eq_true rfl) (fun E A _ C => ?_)
  unfold f_Council_shuts_Longest at hf
  show J E rm_Council_shuts_Longest g A 3 (QI E g A ρ (Wd_Council_shuts_Longest g p_a0 p_a1 p_a2 p_a1_street p_a2_yards v_a1_count v_a1_set v_a1_yards u_a1_far u_a2_from u_a2_to u_a2_paid v_a2_count n_a1_street f_a1_street n_a2_yards f_a2_yards) 0 0) 0 0 (Wd_Council_shuts_Longest g p_a0 p_a1 p_a2 p_a1_street p_a2_yards v_a1_count v_a1_set v_a1_yards u_a1_far u_a2_from u_a2_to u_a2_paid v_a2_count n_a1_street f_a1_street n_a2_yards f_a2_yards) [(0, .ref p_a0), (1, .ref p_a1), (2, .ref p_a2)] 0 []
  refine j_aload_n C 1 dX0_shuts_0 rfl rfl ?_
  obtain ⟨r1, hc2, hf⟩ := bnd hf
  refine j_cvI C (n := 0) (ci := 9) [] [1] [0, 2, 3, 4] [0, 4, 1, 2, 3] (Wd_Council_shuts_Longest g p_a0 p_a1 p_a2 p_a1_street p_a2_yards v_a1_count v_a1_set v_a1_yards u_a1_far u_a2_from u_a2_to u_a2_paid v_a2_count n_a1_street f_a1_street n_a2_yards f_a2_yards) (c_Way_isThere E.2.1 g p_a1 (.ref p_a1_street) v_a1_count v_a1_set v_a1_yards u_a1_far hc2) gX0_shuts_X10_isThere rfl rfl rfl (by decide +kernel) ⟨Nat.le_of_ble_eq_true rfl, Nat.le_of_ble_eq_true rfl⟩ rfl rfl (by decide) (by decide) (by decide) 0 rfl rfl (by decide) rfl rfl rfl (Nat.le_of_ble_eq_true rfl) ⟨Nat.zero_le _, Nat.zero_le _⟩ dX0_shuts_1 ?_
  refine j_if_eq C 16 dX0_shuts_4 (by decide) (fun c_3 => ?_) (fun c_3 => ?_)
  · replace hf := ifp c_3 hf
    refine j_iconst C dX0_shuts_16 (v := (-1)) (by decide) ?_
    refine j_lv [] rfl ?_
    exact j_Council_shuts_Longest_17 C p_a0 p_a1 p_a2 p_a1_street p_a2_yards v_a1_set v_a1_yards u_a1_far u_a2_from u_a2_to u_a2_paid v_a2_count (-1) v_a1_count n_a1_street f_a1_street n_a2_yards f_a2_yards hf
  · replace hf := ifn c_3 hf
    refine j_aload_n C 0 dX0_shuts_7 rfl rfl ?_
    refine j_aload_n C 1 dX0_shuts_8 rfl rfl ?_
    refine j_aload_n C 2 dX0_shuts_9 rfl rfl ?_
    obtain ⟨r4, hc5, hf⟩ := bnd hf
    refine j_caI C (n := 2) (ci := 4) [.ref p_a1, .ref p_a2] [0, 1, 2, 3, 4] [] [0, 1, 2, 3, 4] (Wd_Council_shuts_Longest g p_a0 p_a1 p_a2 p_a1_street p_a2_yards v_a1_count v_a1_set v_a1_yards u_a1_far u_a2_from u_a2_to u_a2_paid v_a2_count n_a1_street f_a1_street n_a2_yards f_a2_yards) (c_Longest_pick E.2.1 g p_a0 p_a1 p_a2 p_a1_street p_a2_yards v_a1_count v_a1_set v_a1_yards u_a1_far u_a2_from u_a2_to u_a2_paid v_a2_count n_a1_street f_a1_street n_a2_yards f_a2_yards hc5) gX0_shuts_X5_pick_u15X5 rfl rfl rfl rfl (by decide +kernel) ⟨Nat.le_of_ble_eq_true rfl, Nat.le_of_ble_eq_true rfl⟩ rfl rfl (by decide) (by decide) (by decide) 0 rfl rfl (by decide) rfl rfl rfl (Nat.le_of_ble_eq_true rfl) ⟨Nat.zero_le _, Nat.zero_le _⟩ dX0_shuts_10 ?_
    refine j_goto C 17 dX0_shuts_13 (by decide) ?_
    refine j_lv [] rfl ?_
    exact j_Council_shuts_Longest_17 C p_a0 p_a1 p_a2 p_a1_street p_a2_yards v_a1_set v_a1_yards u_a1_far u_a2_from u_a2_to u_a2_paid v_a2_count r4 v_a1_count n_a1_street f_a1_street n_a2_yards f_a2_yards hf
abbrev rm_Council_isOf_Longest : Room := { frames := 0, cells := 0, slots := 0, locals := 0 }
def Wd_Council_isOf_Longest (g : Gd) (p_a0 : Nat) : va_W := [(p_a0, .inr (4, []))]
theorem ic_21_Council_isOf_Longest : Cond.classLink RX0 21 "ShutWays$First" ∈ wsX0_isOf := by decide +kernel
theorem ic_23_Council_isOf_Longest : Cond.classLink RX0 23 "ShutWays$Last" ∈ wsX0_isOf := by decide +kernel
theorem ic_25_Council_isOf_Longest : Cond.classLink RX0 25 "ShutWays$Longest" ∈ wsX0_isOf := by decide +kernel
theorem ic_27_Council_isOf_Longest : Cond.classLink RX0 27 "ShutWays$Least" ∈ wsX0_isOf := by decide +kernel
noncomputable def f_Council_isOf_Longest (x1 : Int32) : Option (Int32) := if x1 = 0 then some 1 else if x1 = 1 then some 0 else if x1 = 2 then some 0 else if x1 = 3 then some 1 else if x1 = 4 then some 0 else some 0
set_option maxHeartbeats 4000000 in
set_option maxRecDepth 100000 in
theorem c_Council_isOf_Longest (l : Launch) (g : Gd) (p_a0 : Nat) (x1 : Int32) {ρ : Int32} (hf : f_Council_isOf_Longest x1 = some ρ) : CtI l g yX0_isOf wsX0_isOf rm_Council_isOf_Longest [.ref p_a0, .int x1] (Wd_Council_isOf_Longest g p_a0) ρ (Wd_Council_isOf_Longest g p_a0) := by
  refine CtI.of (by decide) rfl rfl (Nat.le_of_ble_eq_true rfl) (fun E A _ C => ?_)
  unfold f_Council_isOf_Longest at hf
  show J E rm_Council_isOf_Longest g A 2 (QI E g A ρ (Wd_Council_isOf_Longest g p_a0) 0 0) 0 0 (Wd_Council_isOf_Longest g p_a0) [(0, .ref p_a0), (1, .int x1)] 0 []
  refine j_iload_n C 1 dX0_isOf_0 rfl rfl ?_
  by_cases c_1 : x1 = 0
  · replace hf := ifp c_1 hf
    refine j_tsIn C (v := 0) 36 dX0_isOf_1 c_1 (by decide) (by decide) (by rfl) (by decide) ?_
    refine j_iconst C dX0_isOf_36 (v := 1) (by decide) ?_
    obtain rfl := Option.some.inj hf
    exact j_zret C dX0_isOf_37 (Or.inr rfl) rfl rfl
  · replace hf := ifn c_1 hf
    by_cases c_2 : x1 = 1
    · replace hf := ifp c_2 hf
      refine j_tsIn C (v := 1) 38 dX0_isOf_1 c_2 (by decide) (by decide) (by rfl) (by decide) ?_
      refine j_aload_n C 0 dX0_isOf_38 rfl rfl ?_
      refine j_instN C (ci := 4) 0 ic_21_Council_isOf_Longest rfl rfl (by decide +kernel) dX0_isOf_39 ?_
      obtain rfl := Option.some.inj hf
      exact j_zret C dX0_isOf_42 (Or.inl rfl) rfl rfl
    · replace hf := ifn c_2 hf
      by_cases c_3 : x1 = 2
      · replace hf := ifp c_3 hf
        refine j_tsIn C (v := 2) 43 dX0_isOf_1 c_3 (by decide) (by decide) (by rfl) (by decide) ?_
        refine j_aload_n C 0 dX0_isOf_43 rfl rfl ?_
        refine j_instN C (ci := 4) 0 ic_23_Council_isOf_Longest rfl rfl (by decide +kernel) dX0_isOf_44 ?_
        obtain rfl := Option.some.inj hf
        exact j_zret C dX0_isOf_47 (Or.inl rfl) rfl rfl
      · replace hf := ifn c_3 hf
        by_cases c_4 : x1 = 3
        · replace hf := ifp c_4 hf
          refine j_tsIn C (v := 3) 48 dX0_isOf_1 c_4 (by decide) (by decide) (by rfl) (by decide) ?_
          refine j_aload_n C 0 dX0_isOf_48 rfl rfl ?_
          refine j_instS C (ci := 4) 0 ic_25_Council_isOf_Longest rfl rfl dX0_isOf_49 ?_
          obtain rfl := Option.some.inj hf
          exact j_zret C dX0_isOf_52 (Or.inr rfl) rfl rfl
        · replace hf := ifn c_4 hf
          by_cases c_5 : x1 = 4
          · replace hf := ifp c_5 hf
            refine j_tsIn C (v := 4) 53 dX0_isOf_1 c_5 (by decide) (by decide) (by rfl) (by decide) ?_
            refine j_aload_n C 0 dX0_isOf_53 rfl rfl ?_
            refine j_instN C (ci := 4) 0 ic_27_Council_isOf_Longest rfl rfl (by decide +kernel) dX0_isOf_54 ?_
            obtain rfl := Option.some.inj hf
            exact j_zret C dX0_isOf_57 (Or.inl rfl) rfl rfl
          · replace hf := ifn c_5 hf
            refine j_tsOut C 58 dX0_isOf_1 (by have t0 := lv_neT c_1 (show ((0 : Int32)).toInt = 0 by decide); have t1 := lv_neT c_2 (show ((1 : Int32)).toInt = 1 by decide); have t2 := lv_neT c_3 (show ((2 : Int32)).toInt = 2 by decide); have t3 := lv_neT c_4 (show ((3 : Int32)).toInt = 3 by decide); have t4 := lv_neT c_5 (show ((4 : Int32)).toInt = 4 by decide); omega) (by decide) ?_
            refine j_iconst C dX0_isOf_58 (v := 0) (by decide) ?_
            obtain rfl := Option.some.inj hf
            exact j_zret C dX0_isOf_59 (Or.inl rfl) rfl rfl
abbrev rm_Council_shuts_Least : Room := { frames := 2, cells := 0, slots := 0, locals := 54 }
def Wd_Council_shuts_Least (g : Gd) (p_a0 : Nat) (p_a1 : Nat) (p_a2 : Nat) (p_a1_street : Nat) (v_a1_count : Int32) (v_a1_set : Int32) (v_a1_yards : Int32) (u_a1_far : Value) (u_a2_from : Value) (u_a2_to : Value) (u_a2_yards : Value) (u_a2_paid : Value) (v_a2_count : Int32) (n_a1_street : Nat) (f_a1_street : Nat → Int32) : va_W := [(p_a0, .inr (3, [])), (p_a1, .inr (9, [.ref p_a1_street, .int v_a1_count, .int v_a1_set, .int v_a1_yards, u_a1_far])), (p_a2, .inr (6, [u_a2_from, u_a2_to, u_a2_yards, u_a2_paid, .int v_a2_count])), (p_a1_street, .inl (g.2.1 0, n_a1_street, .inl f_a1_street))]
noncomputable def f_Council_shuts_Least_17 (y0 : Int32) (v_a1_count : Int32) (n_a1_street : Nat) (f_a1_street : Nat → Int32) : Option (Int32) := some y0
set_option maxHeartbeats 4000000 in
set_option maxRecDepth 100000 in
theorem j_Council_shuts_Least_17 {E : Ev} {g : Gd} {A : Nat → Prop} (C : Cx E g A RX0 cX0_shuts wsX0_shuts 3 (some .int)) (p_a0 : Nat) (p_a1 : Nat) (p_a2 : Nat) (p_a1_street : Nat) (v_a1_set : Int32) (v_a1_yards : Int32) (u_a1_far : Value) (u_a2_from : Value) (u_a2_to : Value) (u_a2_yards : Value) (u_a2_paid : Value) (v_a2_count : Int32) {ρ : Int32} (y0 : Int32) (v_a1_count : Int32) (n_a1_street : Nat) (f_a1_street : Nat → Int32) (hf : f_Council_shuts_Least_17 y0 v_a1_count n_a1_street f_a1_street = some ρ) : J E rm_Council_shuts_Least g A 3 (QI E g A ρ (Wd_Council_shuts_Least g p_a0 p_a1 p_a2 p_a1_street v_a1_count v_a1_set v_a1_yards u_a1_far u_a2_from u_a2_to u_a2_yards u_a2_paid v_a2_count n_a1_street f_a1_street) 0 0) 0 0 (Wd_Council_shuts_Least g p_a0 p_a1 p_a2 p_a1_street v_a1_count v_a1_set v_a1_yards u_a1_far u_a2_from u_a2_to u_a2_yards u_a2_paid v_a2_count n_a1_street f_a1_street) [] 17 [.int y0] := by
  unfold f_Council_shuts_Least_17 at hf
  obtain rfl := Option.some.inj hf
  exact j_iret C dX0_shuts_17 rfl rfl
noncomputable def f_Council_shuts_Least (v_a1_count : Int32) (n_a1_street : Nat) (f_a1_street : Nat → Int32) : Option (Int32) := (f_Way_isThere v_a1_count).bind (fun r1 => if r1 = 0 then f_Council_shuts_Least_17 (-1) v_a1_count n_a1_street f_a1_street else (f_Least_pick v_a1_count n_a1_street f_a1_street).bind (fun r4 => f_Council_shuts_Least_17 r4 v_a1_count n_a1_street f_a1_street))
set_option maxHeartbeats 4000000 in
set_option maxRecDepth 100000 in
theorem c_Council_shuts_Least (l : Launch) (g : Gd) (p_a0 : Nat) (p_a1 : Nat) (p_a2 : Nat) (p_a1_street : Nat) (v_a1_count : Int32) (v_a1_set : Int32) (v_a1_yards : Int32) (u_a1_far : Value) (u_a2_from : Value) (u_a2_to : Value) (u_a2_yards : Value) (u_a2_paid : Value) (v_a2_count : Int32) (n_a1_street : Nat) (f_a1_street : Nat → Int32) {ρ : Int32} (hf : f_Council_shuts_Least v_a1_count n_a1_street f_a1_street = some ρ) : CtI l g yX0_shuts wsX0_shuts rm_Council_shuts_Least [.ref p_a0, .ref p_a1, .ref p_a2] (Wd_Council_shuts_Least g p_a0 p_a1 p_a2 p_a1_street v_a1_count v_a1_set v_a1_yards u_a1_far u_a2_from u_a2_to u_a2_yards u_a2_paid v_a2_count n_a1_street f_a1_street) ρ (Wd_Council_shuts_Least g p_a0 p_a1 p_a2 p_a1_street v_a1_count v_a1_set v_a1_yards u_a1_far u_a2_from u_a2_to u_a2_yards u_a2_paid v_a2_count n_a1_street f_a1_street) := by
  refine CtI.of (by decide) rfl rfl (Nat.le_of_ble_eq_true rfl) (fun E A _ C => ?_)
  unfold f_Council_shuts_Least at hf
  show J E rm_Council_shuts_Least g A 3 (QI E g A ρ (Wd_Council_shuts_Least g p_a0 p_a1 p_a2 p_a1_street v_a1_count v_a1_set v_a1_yards u_a1_far u_a2_from u_a2_to u_a2_yards u_a2_paid v_a2_count n_a1_street f_a1_street) 0 0) 0 0 (Wd_Council_shuts_Least g p_a0 p_a1 p_a2 p_a1_street v_a1_count v_a1_set v_a1_yards u_a1_far u_a2_from u_a2_to u_a2_yards u_a2_paid v_a2_count n_a1_street f_a1_street) [(0, .ref p_a0), (1, .ref p_a1), (2, .ref p_a2)] 0 []
  refine j_aload_n C 1 dX0_shuts_0 rfl rfl ?_
  obtain ⟨r1, hc2, hf⟩ := bnd hf
  refine j_cvI C (n := 0) (ci := 9) [] [1] [0, 2, 3] [0, 3, 1, 2] (Wd_Council_shuts_Least g p_a0 p_a1 p_a2 p_a1_street v_a1_count v_a1_set v_a1_yards u_a1_far u_a2_from u_a2_to u_a2_yards u_a2_paid v_a2_count n_a1_street f_a1_street) (c_Way_isThere E.2.1 g p_a1 (.ref p_a1_street) v_a1_count v_a1_set v_a1_yards u_a1_far hc2) gX0_shuts_X10_isThere rfl rfl rfl (by decide +kernel) ⟨Nat.le_of_ble_eq_true rfl, Nat.le_of_ble_eq_true rfl⟩ rfl rfl (by decide) (by decide) (by decide) 0 rfl rfl (by decide) rfl rfl rfl (Nat.le_of_ble_eq_true rfl) ⟨Nat.zero_le _, Nat.zero_le _⟩ dX0_shuts_1 ?_
  refine j_if_eq C 16 dX0_shuts_4 (by decide) (fun c_3 => ?_) (fun c_3 => ?_)
  · replace hf := ifp c_3 hf
    refine j_iconst C dX0_shuts_16 (v := (-1)) (by decide) ?_
    refine j_lv [] rfl ?_
    exact j_Council_shuts_Least_17 C p_a0 p_a1 p_a2 p_a1_street v_a1_set v_a1_yards u_a1_far u_a2_from u_a2_to u_a2_yards u_a2_paid v_a2_count (-1) v_a1_count n_a1_street f_a1_street hf
  · replace hf := ifn c_3 hf
    refine j_aload_n C 0 dX0_shuts_7 rfl rfl ?_
    refine j_aload_n C 1 dX0_shuts_8 rfl rfl ?_
    refine j_aload_n C 2 dX0_shuts_9 rfl rfl ?_
    obtain ⟨r4, hc5, hf⟩ := bnd hf
    refine j_caI C (n := 2) (ci := 3) [.ref p_a1, .ref p_a2] [0, 1, 2, 3] [] [0, 1, 2, 3] (Wd_Council_shuts_Least g p_a0 p_a1 p_a2 p_a1_street v_a1_count v_a1_set v_a1_yards u_a1_far u_a2_from u_a2_to u_a2_yards u_a2_paid v_a2_count n_a1_street f_a1_street) (c_Least_pick E.2.1 g p_a0 p_a1 p_a2 p_a1_street v_a1_count v_a1_set v_a1_yards u_a1_far u_a2_from u_a2_to u_a2_yards u_a2_paid v_a2_count n_a1_street f_a1_street hc5) gX0_shuts_X4_pick_u15X4 rfl rfl rfl rfl (by decide +kernel) ⟨Nat.le_of_ble_eq_true rfl, Nat.le_of_ble_eq_true rfl⟩ rfl rfl (by decide) (by decide) (by decide) 0 rfl rfl (by decide) rfl rfl rfl (Nat.le_of_ble_eq_true rfl) ⟨Nat.zero_le _, Nat.zero_le _⟩ dX0_shuts_10 ?_
    refine j_goto C 17 dX0_shuts_13 (by decide) ?_
    refine j_lv [] rfl ?_
    exact j_Council_shuts_Least_17 C p_a0 p_a1 p_a2 p_a1_street v_a1_set v_a1_yards u_a1_far u_a2_from u_a2_to u_a2_yards u_a2_paid v_a2_count r4 v_a1_count n_a1_street f_a1_street hf
abbrev rm_Council_isOf_Least : Room := { frames := 0, cells := 0, slots := 0, locals := 0 }
def Wd_Council_isOf_Least (g : Gd) (p_a0 : Nat) : va_W := [(p_a0, .inr (3, []))]
theorem ic_21_Council_isOf_Least : Cond.classLink RX0 21 "ShutWays$First" ∈ wsX0_isOf := by decide +kernel
theorem ic_23_Council_isOf_Least : Cond.classLink RX0 23 "ShutWays$Last" ∈ wsX0_isOf := by decide +kernel
theorem ic_25_Council_isOf_Least : Cond.classLink RX0 25 "ShutWays$Longest" ∈ wsX0_isOf := by decide +kernel
theorem ic_27_Council_isOf_Least : Cond.classLink RX0 27 "ShutWays$Least" ∈ wsX0_isOf := by decide +kernel
noncomputable def f_Council_isOf_Least (x1 : Int32) : Option (Int32) := if x1 = 0 then some 1 else if x1 = 1 then some 0 else if x1 = 2 then some 0 else if x1 = 3 then some 1 else if x1 = 4 then some 1 else some 0
set_option maxHeartbeats 4000000 in
set_option maxRecDepth 100000 in
theorem c_Council_isOf_Least (l : Launch) (g : Gd) (p_a0 : Nat) (x1 : Int32) {ρ : Int32} (hf : f_Council_isOf_Least x1 = some ρ) : CtI l g yX0_isOf wsX0_isOf rm_Council_isOf_Least [.ref p_a0, .int x1] (Wd_Council_isOf_Least g p_a0) ρ (Wd_Council_isOf_Least g p_a0) := by
  refine CtI.of (by decide) rfl rfl (Nat.le_of_ble_eq_true rfl) (fun E A _ C => ?_)
  unfold f_Council_isOf_Least at hf
  show J E rm_Council_isOf_Least g A 2 (QI E g A ρ (Wd_Council_isOf_Least g p_a0) 0 0) 0 0 (Wd_Council_isOf_Least g p_a0) [(0, .ref p_a0), (1, .int x1)] 0 []
  refine j_iload_n C 1 dX0_isOf_0 rfl rfl ?_
  by_cases c_1 : x1 = 0
  · replace hf := ifp c_1 hf
    refine j_tsIn C (v := 0) 36 dX0_isOf_1 c_1 (by decide) (by decide) (by rfl) (by decide) ?_
    refine j_iconst C dX0_isOf_36 (v := 1) (by decide) ?_
    obtain rfl := Option.some.inj hf
    exact j_zret C dX0_isOf_37 (Or.inr rfl) rfl rfl
  · replace hf := ifn c_1 hf
    by_cases c_2 : x1 = 1
    · replace hf := ifp c_2 hf
      refine j_tsIn C (v := 1) 38 dX0_isOf_1 c_2 (by decide) (by decide) (by rfl) (by decide) ?_
      refine j_aload_n C 0 dX0_isOf_38 rfl rfl ?_
      refine j_instN C (ci := 3) 0 ic_21_Council_isOf_Least rfl rfl (by decide +kernel) dX0_isOf_39 ?_
      obtain rfl := Option.some.inj hf
      exact j_zret C dX0_isOf_42 (Or.inl rfl) rfl rfl
    · replace hf := ifn c_2 hf
      by_cases c_3 : x1 = 2
      · replace hf := ifp c_3 hf
        refine j_tsIn C (v := 2) 43 dX0_isOf_1 c_3 (by decide) (by decide) (by rfl) (by decide) ?_
        refine j_aload_n C 0 dX0_isOf_43 rfl rfl ?_
        refine j_instN C (ci := 3) 0 ic_23_Council_isOf_Least rfl rfl (by decide +kernel) dX0_isOf_44 ?_
        obtain rfl := Option.some.inj hf
        exact j_zret C dX0_isOf_47 (Or.inl rfl) rfl rfl
      · replace hf := ifn c_3 hf
        by_cases c_4 : x1 = 3
        · replace hf := ifp c_4 hf
          refine j_tsIn C (v := 3) 48 dX0_isOf_1 c_4 (by decide) (by decide) (by rfl) (by decide) ?_
          refine j_aload_n C 0 dX0_isOf_48 rfl rfl ?_
          refine j_instY C (ci := 3) 0 ic_25_Council_isOf_Least rfl rfl (by decide +kernel) dX0_isOf_49 ?_
          obtain rfl := Option.some.inj hf
          exact j_zret C dX0_isOf_52 (Or.inr rfl) rfl rfl
        · replace hf := ifn c_4 hf
          by_cases c_5 : x1 = 4
          · replace hf := ifp c_5 hf
            refine j_tsIn C (v := 4) 53 dX0_isOf_1 c_5 (by decide) (by decide) (by rfl) (by decide) ?_
            refine j_aload_n C 0 dX0_isOf_53 rfl rfl ?_
            refine j_instS C (ci := 3) 0 ic_27_Council_isOf_Least rfl rfl dX0_isOf_54 ?_
            obtain rfl := Option.some.inj hf
            exact j_zret C dX0_isOf_57 (Or.inr rfl) rfl rfl
          · replace hf := ifn c_5 hf
            refine j_tsOut C 58 dX0_isOf_1 (by have t0 := lv_neT c_1 (show ((0 : Int32)).toInt = 0 by decide); have t1 := lv_neT c_2 (show ((1 : Int32)).toInt = 1 by decide); have t2 := lv_neT c_3 (show ((2 : Int32)).toInt = 2 by decide); have t3 := lv_neT c_4 (show ((3 : Int32)).toInt = 3 by decide); have t4 := lv_neT c_5 (show ((4 : Int32)).toInt = 4 by decide); omega) (by decide) ?_
            refine j_iconst C dX0_isOf_58 (v := 0) (by decide) ?_
            obtain rfl := Option.some.inj hf
            exact j_zret C dX0_isOf_59 (Or.inl rfl) rfl rfl
