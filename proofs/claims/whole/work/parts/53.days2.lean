/-! ===== as, way, go, later, never, count ===== -/
section Core
variable {C K : Nat} {corners market quay hasOdd oddM oddQ kind nights cart sc : Int32} {sf st sy sp : Nat → Int32} {lc : Int32} {lf lt ly lp : Nat → Int32} {mcorners mstreets mtwice mcouncil mnights mlanes mcart mall : Int32} {mfrom mto myards mprice mend mlane : Nat → Int32} {gone mday : Int32} {shut mshut : Nat → Int32}
theorem way_core (hP : IPlan C K corners market quay hasOdd oddM oddQ kind nights cart sc sf st sy sp lc lf lt ly lp mcorners mstreets mtwice mcouncil mnights mlanes mcart mall mfrom mto myards mprice mend mlane) (hD : IDays K gone shut mday mshut) (a1 wc ws wy wm : Int32) (far wst L0 W0 : Nat → Int32) :
    ∃ r1, f_ShutWays_way a1 market quay hasOdd oddM oddQ gone wc ws wy sc 16 shut 8 far 16 sf 16 st 16 sy 8 wst = some r1 ∧ ∃ r2, f_ShutWaysModel_way a1 mcorners mtwice mcart mday mall wm 8 L0 4 mend 16 mshut 16 myards 16 mfrom 16 mto 16 W0 = some r2 ∧ r1.1 = r2.1 := by
  obtain ⟨fr, to, ya, mk, qu, kd, nn, ct, T, -, -, -, -, -, e6, -⟩ := hP.tw
  obtain ⟨-, ⟨-, e8⟩, ⟨e9, -, e11⟩, -⟩ := hP
  obtain ⟨d, sh, hd, e12, e13, S1, S2⟩ := hD.g
  obtain ⟨hK, hC, G1, G2, E, M, hkd, hnn⟩ := T
  subst e6; subst e8; subst e9; subst e11; subst e12; subst e13
  obtain ⟨far', st', w1, w2, w3, w4, w5, w6⟩ := findWay_ok hK hC G1 S1 E (show d < 100000 by omega) wc ws wy far wst
  obtain ⟨L', W', v1, v2⟩ := lay_ok hK hC G2 S2 E M (show d < 100000 by omega) ct wm L0 W0
  generalize dw fr to ya K mk qu sh d = L at *
  generalize dy fr to ya K mk qu sh d = y at *
  have core : ∀ x3 : Int32, (x3 = 0 ∧ (a1 = 0 ∨ a1 = 1)) ∨ (x3 = 1 ∧ ∃ k : Nat, k ≤ 11 ∧ a1 = nI (k + 10) ∧ a1 - 10 = nI k) → ∃ r1, f_ShutWays_way_37 a1 (a1 - 10) x3 market quay hasOdd oddM oddQ (nI d) wc ws wy (nI K) 16 shut 8 far 16 sf 16 st 16 sy 8 wst = some r1 ∧ ∃ r2, f_ShutWaysModel_way_23 a1 (nI C) mtwice (nI ct) (nI d) (nI K) wm 8 L0 4 mend 16 mshut 16 myards 16 mfrom 16 mto 16 W0 = some r2 ∧ r1.1 = r2.1 := by
    intro x3 hx
    unfold f_ShutWays_way_37 f_ShutWaysModel_way_23 f_ShutWays_way_111 f_ShutWays_way_89 f_ShutWaysModel_way_38 f_ShutWaysModel_way_76
    rw [w1, v1, Option.bind_some, Option.bind_some]
    dsimp only
    rw [there_ok w2, Option.bind_some]
    by_cases z : L = []
    · rw [if_pos z, if_pos rfl, if_pos ((yI_m1 w6).mpr z)]
      exact ⟨_, rfl, _, rfl, ((yI_m1 w6).mpr z).symm⟩
    · have hy : yI y = nI y := by
        unfold yI
        exact if_pos (Classical.byContradiction (fun q => z (w6.mpr q)))
      rw [if_neg z, if_neg one_ne, if_neg (fun q => z ((yI_m1 w6).mp q))]
      rcases hx with ⟨rfl, rfl | rfl⟩ | ⟨rfl, k, hk, e1, e2⟩
      · rw [if_pos rfl, if_pos rfl]
        exact ⟨_, rfl, _, rfl, hy.symm⟩
      · rw [if_pos rfl, if_neg one_ne, if_pos rfl]
        exact ⟨_, rfl, _, rfl, rfl⟩
      · rw [if_neg one_ne, e2, if_neg (show ¬ a1 = 0 by rw [e1]; exact nI_ne0 (by omega) (by omega)), if_neg (show ¬ a1 = 1 by rw [e1]; exact nI_ne (b := 1) (by omega) (by decide) (by omega))]
        by_cases q : L.length ≤ k
        · rw [if_pos (nI_le q (by omega)), if_pos (nI_le q (by omega))]
          exact ⟨_, rfl, _, rfl, rfl⟩
        · rw [if_neg (nI_ge (by omega) (by omega)), if_neg (nI_ge (by omega) (by omega)), gixN (by omega) (by decide), gixN (by omega) (by decide), nIc (by omega)]
          refine ⟨_, rfl, _, rfl, ?_⟩
          show st' k = W' k
          rw [w3 k (by omega), v2 k (by omega)]
  unfold f_ShutWays_way f_ShutWays_way_20 f_ShutWaysModel_way
  rw [outside_ok, in_ok, Option.bind_some, Option.bind_some]
  simp only [outside_ok, in_ok, Option.bind_some]
  by_cases c : a1 - 10 < 0 ∨ 11 < a1 - 10
  · rw [if_pos c, if_neg one_ne]
    by_cases c2 : a1 < 0 ∨ 1 < a1
    · have c3 : a1 < 10 ∨ 21 < a1 := by
        apply Classical.byContradiction
        intro q
        obtain ⟨k, k1, k2, rfl⟩ := i32_rng (v := a1) (a := 10) (b := 21) (by decide) (by decide) q
        refine rng_ok (k := k - 10) (a := 0) (b := 11) (Nat.zero_le _) (by omega) (by decide) ?_
        rw [show (nI k - 10 : Int32) = nI (k - 10) from pk_sub (b := 10) k1] at c
        exact c
      rw [if_pos c2, if_pos c2, if_pos c3, if_neg one_ne, if_pos rfl, if_pos rfl, if_pos trivial]
      exact ⟨_, rfl, _, rfl, rfl⟩
    · rw [if_neg c2, if_neg c2, if_pos rfl, if_neg one_ne]
      refine core 0 (Or.inl ⟨rfl, ?_⟩)
      obtain ⟨k, k1, k2, rfl⟩ := i32_rng (v := a1) (a := 0) (b := 1) (by decide) (by decide) c2
      rcases (show k = 0 ∨ k = 1 by omega) with rfl | rfl
      · exact Or.inl rfl
      · exact Or.inr rfl
  · obtain ⟨k, k1, k2, ek⟩ := i32_rng (v := a1 - 10) (a := 0) (b := 11) (by decide) (by decide) c
    have ea : a1 = nI (k + 10) := by
      have h : a1 - 10 + 10 = a1 := Int32.sub_add_cancel a1 10
      rw [← h, ek]
      exact nI_add k 10
    have c2 : a1 < 0 ∨ 1 < a1 := by
      right
      rw [ea]
      exact nI_lt (a := 1) (by omega) (by omega)
    have c3 : ¬ (a1 < 10 ∨ 21 < a1) := by
      rw [ea]
      exact rng_ok (a := 10) (b := 21) (by omega) (by omega) (by decide)
    rw [if_neg c, if_pos rfl, if_pos c2, if_pos c2, if_neg c3, if_neg one_ne, if_neg one_ne, if_pos rfl, if_neg one_ne]
    exact core 1 (Or.inr ⟨rfl, k, k2, ea, ek⟩)
theorem as_core (hP : IPlan C K corners market quay hasOdd oddM oddQ kind nights cart sc sf st sy sp lc lf lt ly lp mcorners mstreets mtwice mcouncil mnights mlanes mcart mall mfrom mto myards mprice mend mlane) (hD : IDays K gone shut mday mshut) (a1 wc ws wy wm : Int32) (far wst L0 W0 : Nat → Int32) :
    ∃ r1, f_ShutWays_as a1 market quay hasOdd oddM oddQ kind gone wc ws wy sc 16 shut 8 far 16 sf 16 st 16 sy 8 wst = some r1 ∧ ∃ r2, f_ShutWaysModel_as a1 mcorners mtwice mcouncil mcart mday mall wm 8 L0 4 mend 16 mshut 16 myards 16 mfrom 16 mto 16 W0 = some r2 ∧ r1.1 = r2.1 := by
  obtain ⟨fr, to, ya, mk, qu, kd, nn, ct, T, e1, e2, -, -, -, e6, -⟩ := hP.tw
  obtain ⟨-, ⟨-, e8⟩, ⟨e9, -, e11⟩, -⟩ := hP
  obtain ⟨d, sh, hd, e12, e13, S1, S2⟩ := hD.g
  obtain ⟨hK, hC, G1, G2, E, M, hkd, hnn⟩ := T
  subst e1; subst e2; subst e6; subst e8; subst e9; subst e11; subst e12; subst e13
  obtain ⟨far', st', w1, w2, w3, w4, w5, w6⟩ := findWay_ok hK hC G1 S1 E (show d < 100000 by omega) wc ws wy far wst
  obtain ⟨L', W', v1, v2⟩ := lay_ok hK hC G2 S2 E M (show d < 100000 by omega) ct wm L0 W0
  generalize dw fr to ya K mk qu sh d = L at *
  generalize dy fr to ya K mk qu sh d = y at *
  have hnil : pkl kd ya [] = 99 := rfl
  have yes : ∃ r2, f_ShutWaysModel_as_77 1 (nI C) mtwice (nI kd) (nI ct) (nI d) (nI K) wm 8 L0 4 mend 16 mshut 16 myards 16 mfrom 16 mto 16 W0 = some r2 ∧ r2.1 = cI (pkl kd ya L) := by
    unfold f_ShutWaysModel_as_77 f_ShutWaysModel_as_106
    rw [v1, Option.bind_some, if_neg one_ne]
    dsimp only
    by_cases z : L = []
    · rw [if_pos ((yI_m1 w6).mpr z)]
      refine ⟨_, rfl, ?_⟩
      rw [z]
      rfl
    · rw [if_neg (fun q => z ((yI_m1 w6).mp q)), picked_ok hkd hK G2.y w2 v2 w4, Option.bind_some]
      exact ⟨_, rfl, rfl⟩
  have no : ∃ r2, f_ShutWaysModel_as_77 0 (nI C) mtwice (nI kd) (nI ct) (nI d) (nI K) wm 8 L0 4 mend 16 mshut 16 myards 16 mfrom 16 mto 16 W0 = some r2 ∧ r2.1 = -4 := by
    unfold f_ShutWaysModel_as_77 f_ShutWaysModel_as_106
    rw [v1, Option.bind_some, if_pos rfl]
    exact ⟨_, rfl, rfl⟩
  have fin1 : ∀ {α β : Type} {u : Option (Int32 × α)} {v : Option (Int32 × β)} {c : Int32}, (∃ r2, v = some r2 ∧ r2.1 = c) → ∀ r1 : Int32 × α, u = some r1 → r1.1 = c → ∃ r1, u = some r1 ∧ ∃ r2, v = some r2 ∧ r1.1 = r2.1 := by
    intro α β u v c h r1 h1 h2
    obtain ⟨r2, h3, h4⟩ := h
    exact ⟨r1, h1, r2, h3, h2.trans h4.symm⟩
  unfold f_ShutWays_as f_ShutWaysModel_as f_ShutWaysModel_as_72 f_ShutWaysModel_as_76
  rw [outside_ok, in_ok, Option.bind_some, Option.bind_some, council_ok hkd, Option.bind_some]
  by_cases c : a1 < 0 ∨ 4 < a1
  · rw [if_pos c, if_pos c, if_neg one_ne, if_pos rfl]
    exact ⟨_, rfl, _, rfl, rfl⟩
  · obtain ⟨k, k1, k2, rfl⟩ := i32_rng (v := a1) (a := 0) (b := 4) (by decide) (by decide) c
    rw [if_neg c, if_neg c, if_pos rfl, if_neg one_ne, w1]
    have n1 : ¬ nI 1 = 0 := by decide
    have n2 : ¬ nI 2 = 0 := by decide
    have n3 : ¬ nI 3 = 0 := by decide
    have n4 : ¬ nI 4 = 0 := by decide
    rcases (show kd = 0 ∨ kd = 1 ∨ kd = 2 ∨ kd = 3 by omega) with rfl | rfl | rfl | rfl
    · have sf := shuts_first (ya := ya) hK w2 w3 w4
      rw [if_pos rfl]
      rcases (show k = 0 ∨ k = 1 ∨ k = 2 ∨ k = 3 ∨ k = 4 by omega) with rfl | rfl | rfl | rfl | rfl
      all_goals first
        | exact fin1 yes _ (by show (f_Council_shuts_First _ _ _).bind _ = _; rw [sf]; rfl) rfl
        | exact fin1 no _ rfl rfl
    · have sf := shuts_last (ya := ya) hK w2 w3 w4
      rw [if_neg (by decide), if_pos rfl]
      rcases (show k = 0 ∨ k = 1 ∨ k = 2 ∨ k = 3 ∨ k = 4 by omega) with rfl | rfl | rfl | rfl | rfl
      all_goals first
        | exact fin1 yes _ (by show (f_Council_shuts_Last _ _ _).bind _ = _; rw [sf]; rfl) rfl
        | exact fin1 no _ rfl rfl
    · have sf := shuts_longest hK G1.y w2 w3 w4
      rw [if_neg (by decide), if_neg (by decide), if_pos rfl]
      rcases (show k = 0 ∨ k = 1 ∨ k = 2 ∨ k = 3 ∨ k = 4 by omega) with rfl | rfl | rfl | rfl | rfl
      all_goals first
        | exact fin1 yes _ (by show (f_Council_shuts_Longest _ _ _ _ _).bind _ = _; rw [sf]; rfl) rfl
        | exact fin1 no _ rfl rfl
    · have sf := shuts_least (ya := ya) hK w2 w3 w4
      rw [if_neg (by decide), if_neg (by decide), if_neg (by decide), if_pos rfl]
      rcases (show k = 0 ∨ k = 1 ∨ k = 2 ∨ k = 3 ∨ k = 4 by omega) with rfl | rfl | rfl | rfl | rfl
      all_goals first
        | exact fin1 yes _ (by show (f_Council_shuts_Least _ _ _).bind _ = _; rw [sf]; rfl) rfl
        | exact fin1 no _ rfl rfl
theorem go_core (hP : IPlan C K corners market quay hasOdd oddM oddQ kind nights cart sc sf st sy sp lc lf lt ly lp mcorners mstreets mtwice mcouncil mnights mlanes mcart mall mfrom mto myards mprice mend mlane) (hD : IDays K gone shut mday mshut) (a1 wc ws wy wm : Int32) (far wst L0 W0 : Nat → Int32) :
    ∃ r1, f_ShutWays_go a1 gone market quay hasOdd oddM oddQ kind nights wc ws wy sc 16 shut 8 far 16 sf 16 st 16 sy 8 wst = some r1 ∧ ∃ r2, f_ShutWaysModel_go a1 mcorners mtwice mcouncil mnights mcart mday mall wm 8 L0 4 mend 16 mshut 16 myards 16 mfrom 16 mto 16 W0 = some r2 ∧ r1.1 = r2.1 ∧ IDays K r1.2.1 r1.2.2.2.2.2.1 r2.2.1 r2.2.2.2.2.1 := by
  obtain ⟨fr, to, ya, mk, qu, kd, nn, ct, T, e1, e2, e3, e4, -, e6, -⟩ := hP.tw
  obtain ⟨-, ⟨-, e8⟩, ⟨e9, -, e11⟩, -⟩ := hP
  obtain ⟨d, sh, hd, e12, e13, S1, S2⟩ := id hD.g
  subst e1; subst e2; subst e3; subst e4; subst e6; subst e8; subst e9; subst e11; subst e12; subst e13
  have hFU : 2000 < FU := by rw [FU_eq]; decide
  unfold f_ShutWays_go f_ShutWaysModel_go
  generalize FU = N at hFU ⊢
  rw [outside_ok, in_ok, Option.bind_some, Option.bind_some]
  by_cases c : a1 < 1 ∨ 999 < a1
  · rw [if_pos c, if_pos c, if_neg one_ne, if_pos rfl]
    exact ⟨_, rfl, _, rfl, rfl, hD⟩
  · obtain ⟨k, k1, k2, rfl⟩ := i32_rng (v := a1) (a := 1) (b := 999) (by decide) (by decide) c
    rw [if_neg c, if_neg c, if_pos rfl, if_neg one_ne, nI_add]
    by_cases q : d + k ≤ 9999
    · obtain ⟨sh', F', G', wc', ws', wy', wm', far', wst', L', W', u1, u2, u3, u4⟩ := go_sim T ct k (by omega) N 0 d sh shut mshut 0 wc ws wy wm far wst L0 W0 (Nat.zero_le _) (by omega) (by omega) S1 S2 (by decide)
      rw [nI_0, Nat.sub_zero] at u1 u2
      rw [if_pos (show nI (d + k) ≤ 9999 from nI_le (b := 9999) q (by decide)), if_pos (show nI (d + k) ≤ 9999 from nI_le (b := 9999) q (by decide)), u1, u2]
      exact ⟨_, rfl, _, rfl, rfl, IDays.of q u3 u4⟩
    · rw [if_neg (show ¬ nI (d + k) ≤ 9999 from nI_ge (a := 9999) (by omega) (by omega)), if_neg (show ¬ nI (d + k) ≤ 9999 from nI_ge (a := 9999) (by omega) (by omega))]
      exact ⟨_, rfl, _, rfl, rfl, hD⟩
theorem later_core (hP : IPlan C K corners market quay hasOdd oddM oddQ kind nights cart sc sf st sy sp lc lf lt ly lp mcorners mstreets mtwice mcouncil mnights mlanes mcart mall mfrom mto myards mprice mend mlane) (hD : IDays K gone shut mday mshut) (a1 tg wc ws wy wm : Int32) (tsh far wst A L0 W0 : Nat → Int32) :
    ∃ r1, f_ShutWays_later a1 tg gone 16 shut 16 tsh market quay hasOdd oddM oddQ kind nights wc ws wy sc 8 far 16 sf 16 st 16 sy 8 wst = some r1 ∧ ∃ r2, f_ShutWaysModel_later a1 mcorners mstreets mtwice mcouncil mnights mcart mday mall wm 17 A 16 mshut 8 L0 4 mend 16 myards 16 mfrom 16 mto 16 W0 = some r2 ∧ r1.1 = r2.1 ∧ IDays K gone shut r2.2.1 r2.2.2.2.2.2.1 ∧ r2.2.2.1 = nI K := by
  obtain ⟨fr, to, ya, mk, qu, kd, nn, ct, T, e1, e2, e3, e4, -, e6, -⟩ := hP.tw
  obtain ⟨-, ⟨-, e8⟩, ⟨e9, e10, e11⟩, -⟩ := hP
  obtain ⟨d, sh, hd, e12, e13, S1, S2⟩ := id hD.g
  subst e1; subst e2; subst e3; subst e4; subst e6; subst e8; subst e9; subst e10; subst e11; subst e12; subst e13
  have hFU : 2000 < FU := by rw [FU_eq]; decide
  obtain ⟨A', a2, a3, a4⟩ := aside_ok (nI d) A mshut
  obtain ⟨H, c1, c2⟩ := copy_ok tg (nI d) shut tsh
  unfold f_ShutWays_later f_ShutWaysModel_later
  generalize FU = N at hFU ⊢
  rw [outside_ok, in_ok, Option.bind_some, Option.bind_some]
  by_cases c : a1 < 0 ∨ 99 < a1
  · rw [if_pos c, if_pos c, if_neg one_ne, if_pos rfl]
    exact ⟨_, rfl, _, rfl, rfl, hD, rfl⟩
  · obtain ⟨k, k1, k2, rfl⟩ := i32_rng (v := a1) (a := 0) (b := 99) (by decide) (by decide) c
    rw [if_neg c, if_neg c, if_pos rfl, if_neg one_ne, a2, c1, Option.bind_some, Option.bind_some]
    obtain ⟨r, q1, wm', G', L', W', u1, u2, u3⟩ := later_sim T ct k (by omega) (nI d) (nI K) shut A' N 0 d sh H mshut 0 wc ws wy wm far wst L0 W0 (Nat.zero_le _) (by omega) (by omega) (S1.congr c2) S2
    rw [nI_0] at u1 u2
    refine ⟨_, u1, _, u2, rfl, ?_, rfl⟩
    show IDays K (nI d) shut (A' 16) G'
    rw [a3]
    exact IDays.of hd S1 (S2.congr (fun s hs => (u3 s hs).trans (a4 s hs)))
theorem never_core (hP : IPlan C K corners market quay hasOdd oddM oddQ kind nights cart sc sf st sy sp lc lf lt ly lp mcorners mstreets mtwice mcouncil mnights mlanes mcart mall mfrom mto myards mprice mend mlane) (hD : IDays K gone shut mday mshut) (tg wc ws wy wm : Int32) (tsh far wst A L0 W0 : Nat → Int32) :
    ∃ r1, f_ShutWays_never tg gone 16 shut 16 tsh market quay hasOdd oddM oddQ kind nights wc ws wy sc 8 far 16 sf 16 st 16 sy 8 wst = some r1 ∧ ∃ r2, f_ShutWaysModel_never mcorners mstreets mtwice mcouncil mnights mcart mday mall wm 17 A 16 mshut 8 L0 4 mend 16 myards 16 mfrom 16 mto 16 W0 = some r2 ∧ r1.1 = r2.1 ∧ IDays K gone shut r2.2.1 r2.2.2.2.2.2.1 ∧ r2.2.2.1 = nI K := by
  obtain ⟨fr, to, ya, mk, qu, kd, nn, ct, T, e1, e2, e3, e4, -, e6, -⟩ := hP.tw
  obtain ⟨-, ⟨-, e8⟩, ⟨e9, e10, e11⟩, -⟩ := hP
  obtain ⟨d, sh, hd, e12, e13, S1, S2⟩ := id hD.g
  subst e1; subst e2; subst e3; subst e4; subst e6; subst e8; subst e9; subst e10; subst e11; subst e12; subst e13
  have hFU : 2000 < FU := by rw [FU_eq]; decide
  obtain ⟨A', a2, a3, a4⟩ := aside_ok (nI d) A mshut
  obtain ⟨H, c1, c2⟩ := copy_ok tg (nI d) shut tsh
  unfold f_ShutWays_never f_ShutWaysModel_never
  generalize FU = N at hFU ⊢
  rw [a2, c1, Option.bind_some, Option.bind_some]
  obtain ⟨r, q1, wm', G', L', W', u1, u2, u3⟩ := never_sim T ct (nI d) (nI K) shut A' N 0 d sh H mshut wc ws wy wm far wst L0 W0 (Nat.zero_le _) (by omega) (by omega) (S1.congr c2) S2
  rw [nI_0] at u1 u2
  refine ⟨_, u1, _, u2, rfl, ?_, rfl⟩
  show IDays K (nI d) shut (A' 16) G'
  rw [a3]
  exact IDays.of hd S1 (S2.congr (fun s hs => (u3 s hs).trans (a4 s hs)))
end Core
theorem pl_way : PL_way INV := by
  intro x m a1 hI
  obtain ⟨C, K, hT, hP, hD, h0, h1, hN⟩ := hI
  obtain ⟨r1, u1, r2, u2, u3⟩ := way_core hP hD a1 x.2.2.2.2.2.2.2.2.2.2.2.2.2.2.2.2.2.2.1.1 x.2.2.2.2.2.2.2.2.2.2.2.2.2.2.2.2.2.2.1.2.1 x.2.2.2.2.2.2.2.2.2.2.2.2.2.2.2.2.2.2.1.2.2.1 m.1.2.2.2.2.2.2.2.2.2.2.2 x.2.2.2.2.2.2.2.2.2.2.2.2.2.2.2.2.2.2.1.2.2.2.2 x.2.2.2.2.2.2.2.2.2.2.2.2.2.2.2.2.2.2.1.2.2.2.1 m.2.2.2.2.2.1 m.2.2.2.2.2.2.1
  exact ⟨r1, u1, r2, u2, u3, C, K, hT, hP, hD, h0, h1, hN⟩
theorem pl_as : PL_as INV := by
  intro x m a1 hI
  obtain ⟨C, K, hT, hP, hD, h0, h1, hN⟩ := hI
  obtain ⟨r1, u1, r2, u2, u3⟩ := as_core hP hD a1 x.2.2.2.2.2.2.2.2.2.2.2.2.2.2.2.2.2.2.1.1 x.2.2.2.2.2.2.2.2.2.2.2.2.2.2.2.2.2.2.1.2.1 x.2.2.2.2.2.2.2.2.2.2.2.2.2.2.2.2.2.2.1.2.2.1 m.1.2.2.2.2.2.2.2.2.2.2.2 x.2.2.2.2.2.2.2.2.2.2.2.2.2.2.2.2.2.2.1.2.2.2.2 x.2.2.2.2.2.2.2.2.2.2.2.2.2.2.2.2.2.2.1.2.2.2.1 m.2.2.2.2.2.1 m.2.2.2.2.2.2.1
  exact ⟨r1, u1, r2, u2, u3, C, K, hT, hP, hD, h0, h1, hN⟩
theorem pl_go : PL_go INV := by
  intro x m a1 hI
  obtain ⟨C, K, hT, hP, hD, h0, h1, hN⟩ := hI
  obtain ⟨r1, u1, r2, u2, u3, u4⟩ := go_core hP hD a1 x.2.2.2.2.2.2.2.2.2.2.2.2.2.2.2.2.2.2.1.1 x.2.2.2.2.2.2.2.2.2.2.2.2.2.2.2.2.2.2.1.2.1 x.2.2.2.2.2.2.2.2.2.2.2.2.2.2.2.2.2.2.1.2.2.1 m.1.2.2.2.2.2.2.2.2.2.2.2 x.2.2.2.2.2.2.2.2.2.2.2.2.2.2.2.2.2.2.1.2.2.2.2 x.2.2.2.2.2.2.2.2.2.2.2.2.2.2.2.2.2.2.1.2.2.2.1 m.2.2.2.2.2.1 m.2.2.2.2.2.2.1
  exact ⟨r1, u1, r2, u2, u3, C, K, hT, hP, u4, h0, h1, hN⟩
theorem pl_later : PL_later INV := by
  intro x m a1 hI
  obtain ⟨C, K, hT, hP, hD, h0, h1, hN⟩ := hI
  obtain ⟨r1, u1, r2, u2, u3, u4, u5⟩ := later_core hP hD a1 x.2.2.2.2.2.2.2.2.2.1.1 x.2.2.2.2.2.2.2.2.2.2.2.2.2.2.2.2.2.2.1.1 x.2.2.2.2.2.2.2.2.2.2.2.2.2.2.2.2.2.2.1.2.1 x.2.2.2.2.2.2.2.2.2.2.2.2.2.2.2.2.2.2.1.2.2.1 m.1.2.2.2.2.2.2.2.2.2.2.2 x.2.2.2.2.2.2.2.2.2.1.2 x.2.2.2.2.2.2.2.2.2.2.2.2.2.2.2.2.2.2.1.2.2.2.2 x.2.2.2.2.2.2.2.2.2.2.2.2.2.2.2.2.2.2.1.2.2.2.1 m.2.2.2.2.1.2.1 m.2.2.2.2.2.1 m.2.2.2.2.2.2.1
  exact ⟨r1, u1, r2, u2, u3, C, K, hT, hP.all u5, u4, h0, h1, hN⟩
theorem pl_never : PL_never INV := by
  intro x m hI
  obtain ⟨C, K, hT, hP, hD, h0, h1, hN⟩ := hI
  obtain ⟨r1, u1, r2, u2, u3, u4, u5⟩ := never_core hP hD x.2.2.2.2.2.2.2.2.2.1.1 x.2.2.2.2.2.2.2.2.2.2.2.2.2.2.2.2.2.2.1.1 x.2.2.2.2.2.2.2.2.2.2.2.2.2.2.2.2.2.2.1.2.1 x.2.2.2.2.2.2.2.2.2.2.2.2.2.2.2.2.2.2.1.2.2.1 m.1.2.2.2.2.2.2.2.2.2.2.2 x.2.2.2.2.2.2.2.2.2.1.2 x.2.2.2.2.2.2.2.2.2.2.2.2.2.2.2.2.2.2.1.2.2.2.2 x.2.2.2.2.2.2.2.2.2.2.2.2.2.2.2.2.2.2.1.2.2.2.1 m.2.2.2.2.1.2.1 m.2.2.2.2.2.1 m.2.2.2.2.2.2.1
  exact ⟨r1, u1, r2, u2, u3, C, K, hT, hP.all u5, u4, h0, h1, hN⟩
