-- ===== end of PART A; then your names; then what follows =====
/-! THE CLAIM OUT OF ONE WALK OF THE LAW'S BODY. Your part is whole_start (and what it stands on); all else here is the same for every law, but numbers. -/
def R_law : String := "ShutWaysLaw"
def lw_P (b : Addr) (xs : List Int32) (args : Array Value) (s : State) : Prop := args = #[.ref b] ∧ s.IntsAt b xs ∧ xs.length ≤ 2048 ∧ (Jvm.Cond.and given_1 narrow_1).before args s = true
def lw_Q (_ : Array Value) (s : State) (o : Outcome) (t : State) : Prop := o = .returned (some (.int 1)) ∧ Framed s o t [] 600000 7302250
def lw_Z (below : List Frame) (a : Array Value) (s : State) : State → Prop := fun t => ∃ o, t.status = .running ∧ Ended t below o ∧ lw_Q a s o t
/-- the law's own end, with 1 on the stack, nothing written that was there before, its room as the claim has it -/
theorem lw_ret {p : Program} {l : Launch} {e : Env} {s : State} {m : MethodId} {below : List Frame} {meth : Method} {c : Code} {b : Nat} (hx : p.tables.exec = Jvm.exec) (hb : c.code = code) (hr : meth.sig.returnType = ret) (hlocks : meth.locks = false) {pc : Nat} {H : Heap} {ls : Array Slot} (hdg : decode code pc = .ok (.ireturn, 1)) : W p l e room_1 s m #[Value.ref b] below meth c H [] 600000 7302250 (lw_Z below #[Value.ref b] s) (F0 m pc ls [.int 1]) := by
  intro T hT X
  obtain ⟨fs, hret, hrun, hended, hW, hframe⟩ := X.leave (v := some (.int 1)) (hlocks := hlocks) (fun h => by rw [hr] at h; cases h)
  have hmeth' : T.vm.method? m = some meth := X.method'
  refine ⟨T.setFrames fs, ?_, .returned (some (.int 1)), hrun, hended, rfl, ⟨_, rfl⟩, hW, hframe⟩
  jvm_step X.here [X.here.top, hx, hb, hdg, hmeth', hr, ret, narrow_b1]
  (try refine ⟨rfl, ?_⟩); (try refine ⟨rfl, ?_⟩)
  first | (intro acts; rw [hret _ acts rfl rfl rfl]) | rw [hret _ _ rfl rfl rfl]
  exact Steps.refl _
/-- what holds at the law's entry: the machine, the code, the tables' words (any of lw_tbl by 'hts w (by decide +kernel)'), the script of L ints xs at the cell b, what the Statement gives of the start (any of its parts by flat_of_before) -/
def lw_At (p : Program) (s : State) (m : MethodId) (meth : Method) (c : Code) (b L : Nat) (xs : Nat → Int32) : Prop :=
  p.tables.exec = Jvm.exec ∧ c.code = code ∧ meth.sig.returnType = ret ∧ c.maxLocals = 4 ∧ s.vm.findClass R_law = some m.cls ∧ (∀ w ∈ lw_tbl, w.before #[Value.ref b] s = true) ∧ va_X b L xs s s.heap ∧ b < s.heap.size ∧ meth.locks = false ∧ (Jvm.Cond.and given_1 narrow_1).before #[Value.ref b] s = true
set_option maxHeartbeats 4000000 in
set_option maxRecDepth 100000 in
/-- THE LAW, from its entry, if the pure lemmas hold -/
theorem whole_open {INV : XV → MV → Prop} (hI0 : INV x0V m0V) (hp_write : PL_write INV) (hp_erase : PL_erase INV) (hp_fault : PL_fault INV) (hp_town : PL_town INV) (hp_street : PL_street INV) (hp_lane : PL_lane INV) (hp_as : PL_as INV) (hp_way : PL_way INV) (hp_go : PL_go INV) (hp_flood : PL_flood INV) (hp_fair : PL_fair INV) (hp_keep : PL_keep INV) (hp_back : PL_back INV) (hp_later : PL_later INV) (hp_never : PL_never INV) (hp_apart : PL_apart INV) (hp_round : PL_round INV) (hp_passed : PL_passed INV) (hp_most : PL_most INV) (hp_build : PL_build INV) (hp_chosen : PL_chosen INV) (hp_carts : PL_carts INV) (hp_night : PL_night INV) (hp_forget : PL_forget INV) (hp_judge : PL_judge INV) (hp_fits : PL_fits INV) (hp_count : PL_count INV) {p : Program} {e : Env} {s : State} {m : MethodId} {below : List Frame} {meth : Method} {c : Code} (l : Launch) {b L : Nat} {xs : Nat → Int32} (hL : L ≤ 2048) (C0 : lw_At p s m meth c b L xs) : W p l e room_1 s m #[Value.ref b] below meth c s.heap [] 0 0 (lw_Z below #[Value.ref b] s) (entryFrame m ([Value.ref b] : List Value).toArray 4) := by
  obtain ⟨hx, hb, hr, hml, hown, hts, hX, hbl, hlocks, hgv⟩ := id C0
  have hbA : ¬ (fun q : Nat => s.heap.size ≤ q) b := Nat.not_le.mpr hbl
  have hal : ∀ w ∈ tables_1, w.before #[Value.ref b] s = true := fun w h => hts w (List.mem_append_right _ h)
  have hall : ∀ w ∈ flN, w.before #[Value.ref b] s = true := fun w h => flat_of_before _ hgv w h
  obtain ⟨cc1, iS1, hKn1⟩ := u_known (C := RX1) (T := TX1) (N := 2) (n := 2) hts wi_wsX10 (hts (.instantiable RX1 2) (by decide +kernel))
  obtain ⟨cc2, iS2, hKn2⟩ := u_known (C := RX2) (T := TX2) (N := 0) (n := 0) hts wi_wsX20 (hts (.instantiable RX2 0) (by decide +kernel))
  obtain ⟨cc3, iS3, hKn3⟩ := u_known (C := RX3) (T := TX3) (N := 0) (n := 0) hts wi_wsX30 (hts (.instantiable RX3 0) (by decide +kernel))
  obtain ⟨cc4, iS4, hKn4⟩ := u_known (C := RX4) (T := TX4) (N := 0) (n := 0) hts wi_wsX40 (hts (.instantiable RX4 0) (by decide +kernel))
  obtain ⟨cc5, iS5, hKn5⟩ := u_known (C := RX5) (T := TX5) (N := 0) (n := 0) hts wi_wsX50 (hts (.instantiable RX5 0) (by decide +kernel))
  obtain ⟨cc6, iS6, hKn6⟩ := u_known (C := RX6) (T := TX6) (N := 11) (n := 11) hts wi_wsX60 (hts (.instantiable RX6 11) (by decide +kernel))
  obtain ⟨cc7, iS7, hKn7⟩ := u_known (C := RX7) (T := TX7) (N := 5) (n := 5) hts wi_wsX70 (hts (.instantiable RX7 5) (by decide +kernel))
  obtain ⟨cc8, iS8, hKn8⟩ := u_known (C := RX8) (T := TX8) (N := 10) (n := 10) hts wi_wsX80 (hts (.instantiable RX8 10) (by decide +kernel))
  obtain ⟨cc9, iS9, hKn9⟩ := u_known (C := RX9) (T := TX9) (N := 2) (n := 2) hts wi_wsX90 (hts (.instantiable RX9 2) (by decide +kernel))
  obtain ⟨cc10, iS10, hKn10⟩ := u_known (C := RX10) (T := TX10) (N := 5) (n := 5) hts wi_wsX100 (hts (.instantiable RX10 5) (by decide +kernel))
  obtain ⟨cc11, iS11, hKn11⟩ := u_known (C := RX11) (T := TX11) (N := 14) (n := 14) hts wi_wsX110 (hts (.instantiable RX11 14) (by decide +kernel))
  obtain ⟨cc12, iS12, hKn12⟩ := u_known (C := RX12) (T := TX12) (N := 44) (n := 44) hts wi_wsX120 (hts (.instantiable RX12 44) (by decide +kernel))
  obtain ⟨cI, hcI⟩ := arr_prim (hal _ sx12.2.2.1) (fun _ h => h)
  obtain ⟨cJ, hcJ⟩ := arr_prim (hal _ sx12.2.2.2.1) (fun _ h => h)
  obtain ⟨cZ, hcZ⟩ := arr_prim (hal _ sx12.2.2.2.2) (fun _ h => h)
  obtain ⟨cC, hcC⟩ := arr_over (va_AO.of (hal _ sx12.1))
  obtain ⟨cD, hcD⟩ := arr_over (va_AO.of (hal _ sx12.2.1))
  obtain ⟨adK, adV, hSX⟩ := SX_start hal hall (fun k => [cc1, cc2, cc3, cc4, cc5, cc6, cc7, cc8, cc9, cc10, cc11, cc12].getD k cc1, fun k => [iS1, iS2, iS3, iS4, iS5, iS6, iS7, iS8, iS9, iS10, iS11, iS12].getD k iS1) (fun k => [cI, cJ, cZ, cC, cD].getD k cI)
  obtain ⟨g, hg⟩ : ∃ g : Gd, g = ((fun k => [cc1, cc2, cc3, cc4, cc5, cc6, cc7, cc8, cc9, cc10, cc11, cc12].getD k cc1, fun k => [iS1, iS2, iS3, iS4, iS5, iS6, iS7, iS8, iS9, iS10, iS11, iS12].getD k iS1), (fun k => [cI, cJ, cZ, cC, cD].getD k cI), adK, adV) := ⟨_, rfl⟩
  rw [← hg] at hSX
  have hK : va_K g.1 vwCl (tysG g) s := by
    subst hg
    refine ⟨?_, ?_⟩
    · intro k q hq
      match k, hq with
      | 0, hq => cases hq; exact hKn1
      | 1, hq => cases hq; exact hKn2
      | 2, hq => cases hq; exact hKn3
      | 3, hq => cases hq; exact hKn4
      | 4, hq => cases hq; exact hKn5
      | 5, hq => cases hq; exact hKn6
      | 6, hq => cases hq; exact hKn7
      | 7, hq => cases hq; exact hKn8
      | 8, hq => cases hq; exact hKn9
      | 9, hq => cases hq; exact hKn10
      | 10, hq => cases hq; exact hKn11
      | 11, hq => cases hq; exact hKn12
      | k + 12, hq => simp [vwCl] at hq
    · intro k q hq
      match k, hq with
      | 0, hq => cases hq; exact hcI
      | 1, hq => cases hq; exact hcJ
      | 2, hq => cases hq; exact hcZ
      | 3, hq => cases hq; exact hcC
      | 4, hq => cases hq; exact hcD
      | k + 5, hq => simp [tysG] at hq
  clear hg
  have C : Cx (p, l, e, s, m, #[Value.ref b], below, meth, c) g (fun q => s.heap.size ≤ q) RL cL_law lw_tbl 4 ret := ⟨hx, hb, hown, hts, hK, hml, fun _ h => h, hr, hlocks, hSX⟩
  have hQ : ∀ (ws : va_W) (lv : List (Nat × Value)), J (p, l, e, s, m, #[Value.ref b], below, meth, c) room_1 g (fun q => s.heap.size ≤ q) 4 (lw_Z below #[Value.ref b] s) 85 16577 ws lv 833 [] := by
    intro ws lv
    refine j_iconst C dL_law_833 (v := 1) (by decide) ?_
    intro H locs ls hP hD hS hl
    refine va_forget (fun q hq => hS.2.2 q hq) ?_
    refine W.widen (k := 600000) (n := 7302250) (by decide) (by decide) ?_
    exact lw_ret hx hb hr hlocks dL_law_834
  have hl := lv_entry ([.ref b]) (n := 4) (Nat.le_of_ble_eq_true rfl)
  rw [lg_entry_eq]
  have main : J (p, l, e, s, m, #[Value.ref b], below, meth, c) room_1 g (fun q => s.heap.size ≤ q) 4 (lw_Z below #[Value.ref b] s) 0 0 [] [(0, .ref b)] 0 [] := by
    refine j_new C (ci := 10) (N := 14) [.null, .null, .null, .null, .null, .null, .null, .null, .null, .null, .null, .int 0, .null, .null] wi_wsX110 tyX11_ok (by decide +kernel) (by decide +kernel) (by decide +kernel) rfl df_11 (Nat.le_of_ble_eq_true rfl) (Nat.le_of_ble_eq_true rfl) dL_law_0 (fun qx => ?_)
    refine j_dup C dL_law_3 rfl ?_
    refine j_ciN C (n := 0) [] [0] [] (c_ShutWays_init l g qx) gL_law_X11_init rfl rfl rfl (by decide +kernel) (by decide +kernel) (by decide +kernel) rfl (by decide +kernel) ⟨Nat.le_of_ble_eq_true rfl, Nat.le_of_ble_eq_true rfl⟩ rfl rfl (by decide) (by decide) (by decide) rfl rfl (Nat.le_of_ble_eq_true rfl) ⟨Nat.le_of_ble_eq_true rfl, Nat.le_of_ble_eq_true rfl⟩ dL_law_4 (fun w9 hw9 => ?_)
    obtain ⟨xq1, xq2, xq3, xq4, xq5, xq6, xq7, xq8, xq9, xq10, xq11, xq12, xq13, xq14, xq15, xq16, xq17, xq18, xq19, xq20, xq21, xq22, xq23, xq24, xq25, xq26, xq27, xq28, xq29, xq30, xq31, xq32, xq33, xq34, xq35, xq36, xq37, xq38, xq39, xq40, xq41, xq42, xq43, xq44, xq45, xq46, xq47, xq48, xq49, xq50, xq51, xq52, xq53, xq54, xq55, xq56, xq57, xq58, xq59, xq60, xq61, rfl⟩ := hw9
    refine j_astore_n C [(1, .ref qx), (0, .ref b)] dL_law_7 rfl (by decide) rfl ?_
    refine j_new C (ci := 11) (N := 44) [.int 0, .int 0, .null, .null, .null, .null, .null, .int 0, .int 0, .int 0, .int 0, .null, .int 0, .int 0, .null, .int 0, .int 0, .long 0, .int 0, .int 0, .int 0, .int 0, .int 0, .int 0, .int 0, .null, .int 0, .int 0, .null, .null, .null, .null, .int 0, .null, .null, .int 0, .null, .null, .null, .null, .null, .null, .null, .null] wi_wsX120 tyX12_ok (by decide +kernel) (by decide +kernel) (by decide +kernel) rfl df_12 (Nat.le_of_ble_eq_true rfl) (Nat.le_of_ble_eq_true rfl) dL_law_8 (fun qm => ?_)
    refine j_dup C dL_law_11 rfl ?_
    refine j_ciN C (n := 0) [] [62] [0, 1, 2, 3, 4, 5, 6, 7, 8, 9, 10, 11, 12, 13, 14, 15, 16, 17, 18, 19, 20, 21, 22, 23, 24, 25, 26, 27, 28, 29, 30, 31, 32, 33, 34, 35, 36, 37, 38, 39, 40, 41, 42, 43, 44, 45, 46, 47, 48, 49, 50, 51, 52, 53, 54, 55, 56, 57, 58, 59, 60, 61] (c_ShutWaysModel_init l g qm) gL_law_X12_init rfl rfl rfl (by decide +kernel) (by decide +kernel) (by decide +kernel) rfl (by decide +kernel) ⟨Nat.le_of_ble_eq_true rfl, Nat.le_of_ble_eq_true rfl⟩ rfl rfl (by decide) (by decide) (by decide) rfl rfl (Nat.le_of_ble_eq_true rfl) ⟨Nat.le_of_ble_eq_true rfl, Nat.le_of_ble_eq_true rfl⟩ dL_law_12 (fun w9 hw9 => ?_)
    obtain ⟨mq1, mq2, mq3, mq4, mq5, mq6, mq7, mq8, mq9, mq10, mq11, mq12, mq13, mq14, mq15, mq16, mq17, mq18, mq19, mq20, mq21, mq22, rfl⟩ := hw9
    refine j_astore_n C [(2, .ref qm), (1, .ref qx), (0, .ref b)] dL_law_15 rfl (by decide) rfl ?_
    refine j_iconst C dL_law_16 (v := 0) (by decide) ?_
    refine j_istore_n C [(3, .int 0), (2, .ref qm), (1, .ref qx), (0, .ref b)] dL_law_17 rfl (by decide) rfl ?_
    refine j_perm [0, 1, 2, 3, 4, 5, 6, 7, 8, 9, 10, 11, 12, 13, 14, 15, 16, 17, 18, 19, 20, 21, 22, 23, 24, 25, 26, 27, 28, 29, 30, 46, 47, 48, 49, 31, 32, 50, 51, 52, 53, 54, 55, 56, 57, 58, 59, 60, 61, 33, 34, 35, 36, 37, 38, 39, 40, 41, 42, 43, 44, 45, 62, 63, 64, 65, 66, 67, 68, 69, 70, 71, 72, 73, 74, 75, 76, 77, 78, 79, 80, 81, 82, 83, 84] (WL g (fun k => [qx, xq1, xq2, xq3, xq4, xq5, xq6, xq7, xq8, xq9, xq10, xq11, xq12, xq13, xq14, xq15, xq16, xq17, xq18, xq19, xq20, xq21, xq22, xq23, xq24, xq25, xq26, xq27, xq28, xq29, xq30, xq46, xq47, xq48, xq49, xq31, xq32, xq50, xq51, xq52, xq53, xq54, xq55, xq56, xq57, xq58, xq59, xq60, xq61, xq33, xq34, xq35, xq36, xq37, xq38, xq39, xq40, xq41, xq42, xq43, xq44, xq45].getD k 0) (fun k => [qm, mq1, mq2, mq3, mq4, mq5, mq6, mq7, mq8, mq9, mq10, mq11, mq12, mq13, mq14, mq15, mq16, mq17, mq18, mq19, mq20, mq21, mq22].getD k 0) x0V m0V) (by decide) rfl ?_
    refine j_cs 85 16577 rfl rfl ?_
    refine j_lv [3, 2, 1, 0] rfl ?_
    exact law_loop C hX hbl hbA hL hp_write hp_erase hp_fault hp_town hp_street hp_lane hp_as hp_way hp_go hp_flood hp_fair hp_keep hp_back hp_later hp_never hp_apart hp_round hp_passed hp_most hp_build hp_chosen hp_carts hp_night hp_forget hp_judge hp_fits hp_count hQ (L + 1) 0 (Nat.zero_le _) (by omega) _ _ _ hI0
  exact main s.heap [] _ (fun k q h => by simp at h) ⟨fun i j p q h => by simp at h, fun k q h => by simp at h⟩ va_S.rf hl
