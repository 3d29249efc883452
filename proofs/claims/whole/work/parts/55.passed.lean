/-! ===== passed, most ===== -/
def inc (ps : Nat → Nat) (t : Nat) : Nat → Nat := fun s => if s = t then ps s + 1 else ps s
theorem inc_le (s : Nat) : ∀ (L : List Nat) (ps : Nat → Nat), L.foldl inc ps s ≤ ps s + L.length
  | [], _ => Nat.le_refl _
  | t :: L, ps => by
    have h := inc_le s L (inc ps t)
    have h2 : inc ps t s ≤ ps s + 1 := by
      unfold inc
      split <;> omega
    show L.foldl inc (inc ps t) s ≤ ps s + (L.length + 1)
    omega
section Passes
variable {K : Nat} {L : List Nat} {S : Nat → Int32}
theorem cp41 (hK : K ≤ 16) (hl : L.length ≤ 7) (hS : ∀ i, i < L.length → S i = nI (L.getD i 0)) (hm : ∀ s, s ∈ L → s < K) (k21 : _) (x1 x2 tg g market quay hasOdd oddM oddQ kind nights ws wy sc : Int32) (tsh F far sf st sy : Nat → Int32) :
    ∀ (n i : Nat) (ps : Nat → Nat) (P : Nat → Int32), i ≤ L.length → L.length - i < n → (∀ s, s < 16 → P s = nI (ps s)) → ∃ P' : Nat → Int32, f_ShutWays_countPasses_41 k21 n x1 x2 (nI i) 16 P tg g 16 tsh 16 F market quay hasOdd oddM oddQ kind nights (nI L.length) ws wy sc 8 far 16 sf 16 st 16 sy 8 S = k21 x1 (x2 + 1) 16 P' tg g 16 tsh 16 F market quay hasOdd oddM oddQ kind nights (nI L.length) ws wy sc 8 far 16 sf 16 st 16 sy 8 S ∧ ∀ s, s < 16 → P' s = nI ((L.drop i).foldl inc ps s) := by
  intro n
  induction n with
  | zero => intro i _ _ _ h; omega
  | succ n ih =>
    intro i ps P hi hn hP
    rw [show f_ShutWays_countPasses_41 k21 (n + 1) = b_ShutWays_countPasses_41 k21 (f_ShutWays_countPasses_41 k21 n) from rfl]
    unfold b_ShutWays_countPasses_41
    by_cases c : i = L.length
    · rw [if_pos (nI_le (by omega) (by omega)), c, List.drop_length]
      exact ⟨P, rfl, hP⟩
    · have hi' : i < L.length := by omega
      have es := hS i hi'
      have hs := hm _ (getD_mem hi')
      rw [if_neg (nI_ge hi' (by omega)), drop_getD hi']
      generalize L.getD i 0 = s at *
      simp only [nIc (show i < 2 ^ 31 by omega), es, gixN (show i < 8 by omega) (by decide : 8 < 2 ^ 31), gixN (show s < 16 by omega) (by decide : 16 < 2 ^ 31), nIc (show s < 2 ^ 31 by omega), nmI, hP s (by omega), nI_1, List.foldl_cons]
      refine ih (i + 1) (inc ps s) _ (by omega) (by omega) ?_
      intro t ht
      unfold inc
      by_cases e : t = s
      · subst e; rw [pk_us, if_pos rfl]
      · rw [pk_un e, if_neg e]; exact hP t ht
theorem lt40 (hK : K ≤ 16) (hl : L.length ≤ 7) (hS : ∀ i, i < L.length → S i = nI (L.getD i 0)) (hm : ∀ s, s ∈ L → s < K) (k27 : _) (x1 x2 y co str tw kd nn ct da al : Int32) (hy : L ≠ [] → ¬ y = -1) (A G L0 en my mf mt : Nat → Int32) :
    ∀ (n i : Nat) (ps : Nat → Nat) (P : Nat → Int32), i ≤ L.length → L.length - i < n → (∀ s, s < 16 → P s = nI (ps s)) → ∃ P' : Nat → Int32, f_ShutWaysModel_layTimes_40 k27 n x1 x2 y (nI i) co str tw kd nn ct da al (nI L.length) 17 A 16 G 16 P 8 L0 4 en 16 my 16 mf 16 mt 16 S = k27 x1 (x2 + 1) co str tw kd nn ct da al (nI L.length) 17 A 16 G 16 P' 8 L0 4 en 16 my 16 mf 16 mt 16 S ∧ ∀ s, s < 16 → P' s = nI ((L.drop i).foldl inc ps s) := by
  intro n
  induction n with
  | zero => intro i _ _ _ h; omega
  | succ n ih =>
    intro i ps P hi hn hP
    rw [show f_ShutWaysModel_layTimes_40 k27 (n + 1) = b_ShutWaysModel_layTimes_40 k27 (f_ShutWaysModel_layTimes_40 k27 n) from rfl]
    unfold b_ShutWaysModel_layTimes_40 f_ShutWaysModel_layTimes_76
    by_cases c : i = L.length
    · rw [if_pos (nI_le (by omega) (by omega)), c, List.drop_length]
      exact ⟨P, rfl, hP⟩
    · have hi' : i < L.length := by omega
      have hne : L ≠ [] := by
        intro z
        rw [z] at hi'
        exact absurd hi' (Nat.not_lt_zero _)
      have es := hS i hi'
      have hs := hm _ (getD_mem hi')
      rw [if_neg (nI_ge hi' (by omega)), if_neg (hy hne), drop_getD hi']
      generalize L.getD i 0 = s at *
      simp only [nIc (show i < 2 ^ 31 by omega), es, gixN (show i < 16 by omega) (by decide : 16 < 2 ^ 31), gixN (show s < 16 by omega) (by decide : 16 < 2 ^ 31), nIc (show s < 2 ^ 31 by omega), nmI, hP s (by omega), nI_1, List.foldl_cons]
      refine ih (i + 1) (inc ps s) _ (by omega) (by omega) ?_
      intro t ht
      unfold inc
      by_cases e : t = s
      · subst e; rw [pk_us, if_pos rfl]
      · rw [pk_un e, if_neg e]; exact hP t ht
end Passes
section PassSim
variable {C K kd nn : Nat} {fr to ya mk qu : Nat → Nat} {sf st sy mf mt my en : Nat → Int32} {market quay hasOdd oddM oddQ tw : Int32}
theorem pass_sim (T : TW C K fr to ya mk qu kd nn sf st sy market quay hasOdd oddM oddQ mf mt my tw en) (ct N : Nat) (hN : N < 100) (g str : Int32) (tsh A : Nat → Int32) : ∀ (n i d : Nat) (sh ps : Nat → Nat) (F G P Q : Nat → Int32) (wc ws wy wm : Int32) (far wst L0 W0 : Nat → Int32), i ≤ N → N - i < n → d + (N - i) ≤ 90000 → CodS K sh F → CodS K sh G → (∀ s, s < 16 → P s = nI (ps s)) → (∀ s, s < 16 → Q s = nI (ps s)) → (∀ s, ps s ≤ 7 * i) →
    ∃ (ps' : Nat → Nat) (P' Q' F' G' far' wst' L' W' : Nat → Int32) (tg' wc' ws' wy' wm' : Int32), f_ShutWays_countPasses_21 n (nI N) (nI i) 16 P (nI d) g 16 tsh 16 F market quay hasOdd oddM oddQ (nI kd) (nI nn) wc ws wy (nI K) 8 far 16 sf 16 st 16 sy 8 wst = some (P', tg', F', wc', ws', wy', far', wst') ∧
      f_ShutWaysModel_layTimes_27 n (nI N) (nI i) (nI C) str tw (nI kd) (nI nn) (nI ct) (nI d) (nI K) wm 17 A 16 G 16 Q 8 L0 4 en 16 my 16 mf 16 mt 16 W0 = some (A 16, str, wm', A, G', Q', L', W') ∧ (∀ s, s < 16 → P' s = nI (ps' s)) ∧ (∀ s, s < 16 → Q' s = nI (ps' s)) ∧ (∀ s, ps' s ≤ 700) ∧ ∀ s, s < 16 → G' s = A s := by
  obtain ⟨hK, hC, G1, G2, E, M, hkd, hnn⟩ := T
  have hFU : 2000 < FU := by rw [FU_eq]; decide
  intro n
  induction n with
  | zero => intro i d sh ps F G P Q wc ws wy wm far wst L0 W0 _ h; omega
  | succ n ih =>
    intro i d sh ps F G P Q wc ws wy wm far wst L0 W0 hi hn hd S1 S2 hP hQ hb
    rw [show f_ShutWays_countPasses_21 (n + 1) = b_ShutWays_countPasses_21 (f_ShutWays_countPasses_21 n) from rfl, show f_ShutWaysModel_layTimes_27 (n + 1) = b_ShutWaysModel_layTimes_27 (f_ShutWaysModel_layTimes_27 n) from rfl]
    unfold b_ShutWays_countPasses_21 b_ShutWaysModel_layTimes_27
    generalize FU = M0 at hFU ⊢
    by_cases c : i = N
    · obtain ⟨B, u1, u2⟩ := putBack_ok str (nI d) (nI K) A G
      rw [if_pos (nI_le (by omega) (by omega)), if_pos (nI_le (by omega) (by omega)), u1, Option.bind_some]
      exact ⟨ps, P, Q, F, B, far, wst, L0, W0, nI d, wc, ws, wy, wm, rfl, rfl, hP, hQ, fun s => by have := hb s; omega, u2⟩
    · obtain ⟨F', far', wst', w1, w2, w3, w4, w5, w6, w7⟩ := pass_ok hK hC G1 S1 E hkd hnn (show d < 100000 by omega) wc ws wy far wst
      obtain ⟨L', G', W', v1, v2, v3⟩ := goNight_ok hK hC G2 S2 E M hkd hnn (show d < 100000 by omega) w3 w5 ct wm L0 W0
      rw [if_neg (nI_ge (by omega) (by omega)), if_neg (nI_ge (by omega) (by omega)), w1, v1, Option.bind_some, Option.bind_some]
      dsimp only
      obtain ⟨P', p1, p2⟩ := cp41 hK w3 w4 w5 (f_ShutWays_countPasses_21 n) (nI N) (nI i) (nI (d + 1)) g market quay hasOdd oddM oddQ (nI kd) (nI nn) (nI (mskA 0 (dw fr to ya K mk qu sh d))) (nI (dy fr to ya K mk qu sh d)) (nI K) tsh F' far' sf st sy M0 0 ps P (Nat.zero_le _) (by omega) hP
      obtain ⟨Q', q1, q2⟩ := lt40 hK w3 v3 w5 (f_ShutWaysModel_layTimes_27 n) (nI N) (nI i) (yI (dy fr to ya K mk qu sh d)) (nI C) str tw (nI kd) (nI nn) (nI ct) (nI (d + 1)) (nI K) (fun z q => z ((yI_m1 w7).mp q)) A G' L' en my mf mt M0 0 ps Q (Nat.zero_le _) (by omega) hQ
      rw [nI_0] at p1 q1
      rw [List.drop_zero] at p2 q2
      rw [p1, q1, nI_1]
      refine ih (i + 1) (d + 1) _ _ F' G' P' Q' _ _ _ _ _ _ _ _ (by omega) (by omega) (by omega) w2 v2 p2 q2 ?_
      intro s
      have h1 := inc_le s (dw fr to ya K mk qu sh d) ps
      have h2 := hb s
      omega
end PassSim
theorem times2 (x1 co str tw kd nn ct da al wm : Int32) (A G L0 en my mf mt W0 : Nat → Int32) : ∀ (n i : Nat) (P : Nat → Int32), i ≤ 16 → 16 - i < n → (∀ s, s < i → P s = 0) → ∃ P' : Nat → Int32, f_ShutWaysModel_layTimes_2 n x1 (nI i) co str tw kd nn ct da al wm 17 A 16 G 16 P 8 L0 4 en 16 my 16 mf 16 mt 16 W0 = (f_ShutWaysModel_putAside da 17 A 16 G).bind (fun r2 => f_ShutWaysModel_layTimes_27 FU x1 0 co str tw kd nn ct da al wm 17 r2 16 G 16 P' 8 L0 4 en 16 my 16 mf 16 mt 16 W0) ∧ ∀ s, s < 16 → P' s = 0 := by
  intro n
  induction n with
  | zero => intro i _ _ h; omega
  | succ n ih =>
    intro i P hi hn h0
    rw [show f_ShutWaysModel_layTimes_2 (n + 1) = b_ShutWaysModel_layTimes_2 (f_ShutWaysModel_layTimes_2 n) from rfl]
    unfold b_ShutWaysModel_layTimes_2
    by_cases c : i = 16
    · subst c
      rw [if_pos (show (16 : Int32) ≤ nI 16 by decide)]
      exact ⟨P, rfl, h0⟩
    · rw [if_neg (show ¬ (16 : Int32) ≤ nI i from nI_ge (b := 16) (by omega) (by decide)), gixN (by omega) (by decide), nIc (by omega), nI_1]
      refine ih (i + 1) _ (by omega) (by omega) ?_
      intro s hs
      by_cases e : s = i
      · subst e; exact pk_us
      · rw [pk_un e]; exact h0 s (by omega)
section Core4
variable {C K : Nat} {corners market quay hasOdd oddM oddQ kind nights cart sc : Int32} {sf st sy sp : Nat → Int32} {lc : Int32} {lf lt ly lp : Nat → Int32} {mcorners mstreets mtwice mcouncil mnights mlanes mcart mall : Int32} {mfrom mto myards mprice mend mlane : Nat → Int32} {gone mday : Int32} {shut mshut : Nat → Int32}
/-- what both count -/
theorem times_core (hP : IPlan C K corners market quay hasOdd oddM oddQ kind nights cart sc sf st sy sp lc lf lt ly lp mcorners mstreets mtwice mcouncil mnights mlanes mcart mall mfrom mto myards mprice mend mlane) (hD : IDays K gone shut mday mshut) {N : Nat} (hN : N < 100) (tg wc ws wy wm : Int32) (pass tsh far wst A tim L0 W0 : Nat → Int32) :
    ∃ (ps' : Nat → Nat) (P' Q' F' G' far' wst' L' W' A' : Nat → Int32) (tg' wc' ws' wy' wm' : Int32), f_ShutWays_countPasses (nI N) 16 pass tg gone 16 shut 16 tsh market quay hasOdd oddM oddQ kind nights wc ws wy sc 8 far 16 sf 16 st 16 sy 8 wst = some (P', tg', F', wc', ws', wy', far', wst') ∧
      f_ShutWaysModel_layTimes (nI N) mcorners mstreets mtwice mcouncil mnights mcart mday mall wm 17 A 16 mshut 16 tim 8 L0 4 mend 16 myards 16 mfrom 16 mto 16 W0 = some (mday, mstreets, wm', A', G', Q', L', W') ∧ (∀ s, s < 16 → P' s = nI (ps' s)) ∧ (∀ s, s < 16 → Q' s = nI (ps' s)) ∧ (∀ s, ps' s ≤ 700) ∧ IDays K gone shut mday G' := by
  obtain ⟨fr, to, ya, mk, qu, kd, nn, ct, T, e1, e2, e3, e4, -, e6, -⟩ := hP.tw
  obtain ⟨-, ⟨-, e8⟩, ⟨e9, e10, e11⟩, -⟩ := hP
  obtain ⟨d, sh, hd, e12, e13, S1, S2⟩ := id hD.g
  subst e1; subst e2; subst e3; subst e4; subst e6; subst e8; subst e9; subst e10; subst e11; subst e12; subst e13
  have hFU : 2000 < FU := by rw [FU_eq]; decide
  obtain ⟨A', a2, a3, a4⟩ := aside_ok (nI d) A mshut
  obtain ⟨H, c1, c2⟩ := copy_ok tg (nI d) shut tsh
  obtain ⟨g, g1, g2, -⟩ := fill_ok 0 (N := 16) (by decide) pass
  obtain ⟨Q0, t1, t2⟩ := times2 (nI N) (nI C) (nI K) mtwice (nI kd) (nI nn) (nI ct) (nI d) (nI K) wm A mshut L0 mend myards mfrom mto W0 FU 0 tim (Nat.zero_le _) (by omega) (fun s hs => absurd hs (Nat.not_lt_zero _))
  rw [nI_0] at t1
  unfold f_ShutWays_countPasses f_ShutWaysModel_layTimes
  rw [t1, a2, g1, c1, Option.bind_some, Option.bind_some, Option.bind_some]
  clear t1
  generalize FU = M0 at hFU ⊢
  obtain ⟨ps', P', Q', F', G', far', wst', L', W', tg', wc', ws', wy', wm', u1, u2, u3, u4, u5, u6⟩ := pass_sim T ct N hN (nI d) (nI K) shut A' M0 0 d sh (fun _ => 0) H mshut g Q0 wc ws wy wm far wst L0 W0 (Nat.zero_le _) (by omega) (by omega) (S1.congr c2) S2 g2 t2 (fun s => Nat.zero_le _)
  rw [nI_0] at u1 u2
  rw [a3] at u2
  exact ⟨ps', P', Q', F', G', far', wst', L', W', A', tg', wc', ws', wy', wm', u1, u2, u3, u4, u5, IDays.of hd S1 (S2.congr (fun s hs => (u6 s hs).trans (a4 s hs)))⟩
theorem passed_core (hP : IPlan C K corners market quay hasOdd oddM oddQ kind nights cart sc sf st sy sp lc lf lt ly lp mcorners mstreets mtwice mcouncil mnights mlanes mcart mall mfrom mto myards mprice mend mlane) (hD : IDays K gone shut mday mshut) (a1 a2 tg wc ws wy wm : Int32) (pass tsh far wst A tim L0 W0 : Nat → Int32) :
    ∃ r1, f_ShutWays_passed a1 a2 market quay hasOdd oddM oddQ kind nights sc 16 pass tg gone 16 shut 16 tsh wc ws wy 8 far 16 sf 16 st 16 sy 8 wst = some r1 ∧ ∃ r2, f_ShutWaysModel_passed a1 a2 mcorners mstreets mtwice mcouncil mnights mcart mday mall wm 17 A 16 mshut 16 tim 8 L0 4 mend 16 myards 16 mfrom 16 mto 16 W0 = some r2 ∧ r1.1 = r2.1 ∧ IDays K gone shut r2.2.1 r2.2.2.2.2.2.1 ∧ r2.2.2.1 = nI K := by
  obtain ⟨⟨-, -, h12⟩, -, ⟨e9, e10, e11⟩, -⟩ := id hP
  unfold f_ShutWays_passed f_ShutWaysModel_passed f_ShutWaysModel_areDays
  rw [e9, e10]
  rcases has_ok a1 (show K < 2 ^ 31 by omega) with ⟨h1, n1⟩ | ⟨h1, j, hj, rfl⟩
  · rcases isStreet_ok a1 h12 with ⟨h2, n2⟩ | ⟨h2, n2⟩
    · rw [h1, h2, Option.bind_some, Option.bind_some, if_pos rfl, if_pos rfl]
      exact ⟨_, rfl, _, rfl, rfl, hD, e11⟩
    · exact absurd n2 n1
  · rcases isStreet_ok (nI j) h12 with ⟨h2, n2⟩ | ⟨h2, n2⟩
    · exact absurd ⟨j, hj, rfl⟩ n2
    · rw [h1, h2, Option.bind_some, Option.bind_some, if_neg one_ne, if_neg one_ne, outside_ok, in_ok, Option.bind_some, Option.bind_some]
      by_cases c : a2 < 1 ∨ 99 < a2
      · rw [if_pos c, if_pos c, if_neg one_ne]
        exact ⟨_, rfl, _, rfl, rfl, hD, e11⟩
      · obtain ⟨k, k1, k2, rfl⟩ := i32_rng (v := a2) (a := 1) (b := 99) (by decide) (by decide) c
        obtain ⟨ps', P', Q', F', G', far', wst', L', W', A', tg', wc', ws', wy', wm', u1, u2, u3, u4, u5, u6⟩ := times_core hP hD (N := k) (by omega) tg wc ws wy wm pass tsh far wst A tim L0 W0
        rw [e9] at u1
        rw [e10] at u2
        rw [if_neg c, if_neg c, if_pos rfl, show gz 1 (some (1 : Int32)) = some 1 from rfl, Option.bind_some, if_neg one_ne, u1, u2, Option.bind_some, Option.bind_some]
        rw [gixN (show j < 16 by omega) (by decide), gixN (show j < 16 by omega) (by decide), nIc (by omega)]
        refine ⟨_, rfl, _, rfl, ?_, u6, rfl⟩
        show P' j = Q' j
        rw [u3 j (by omega), u4 j (by omega)]
end Core4
def Mso (ps : Nat → Nat) (lo hi : Nat) (r : Int32) (o : Nat) : Prop := (r = -1 ∧ o = 0 ∧ ∀ t, lo ≤ t → t < hi → ps t = 0) ∨ ∃ b, lo ≤ b ∧ b < hi ∧ r = nI b ∧ o = ps b ∧ 0 < ps b ∧ ∀ t, lo ≤ t → t < hi → ps t ≤ ps b ∧ (t < b → ps t < ps b)
theorem Mso.uniq {ps : Nat → Nat} {lo hi : Nat} {r r' : Int32} {o o' : Nat} (h : Mso ps lo hi r o) (h' : Mso ps lo hi r' o') : r = r' := by
  rcases h with ⟨h1, h2, h3⟩ | ⟨b, b1, b2, b3, b4, b5, b6⟩
  · rcases h' with ⟨g1, g2, g3⟩ | ⟨c, c1, c2, c3, c4, c5, c6⟩
    · rw [h1, g1]
    · have := h3 c c1 c2; omega
  · rcases h' with ⟨g1, g2, g3⟩ | ⟨c, c1, c2, c3, c4, c5, c6⟩
    · have := g3 b b1 b2; omega
    · have p := b6 c c1 c2
      have q := c6 b b1 b2
      rw [b3, c3]
      congr 1
      omega
theorem cmost25 {K : Nat} (hK : K ≤ 16) {ps : Nat → Nat} {P : Nat → Int32} (hP : ∀ s, s < 16 → P s = nI (ps s)) (hb : ∀ s, ps s ≤ 700) (tg g market quay hasOdd oddM oddQ kind nights wc ws wy : Int32) (tsh F far sf st sy wst : Nat → Int32) :
    ∀ (n i : Nat) (r : Int32) (o : Nat), i ≤ K → K - i < n → Mso ps 0 i r o → ∃ r', f_ShutWays_most_25 n r (nI o) (nI i) 16 P tg g 16 tsh 16 F market quay hasOdd oddM oddQ kind nights wc ws wy (nI K) 8 far 16 sf 16 st 16 sy 8 wst = some (r', P, tg, F, wc, ws, wy, far, wst) ∧ ∃ o', Mso ps 0 K r' o' := by
  intro n
  induction n with
  | zero => intro i r o _ h; omega
  | succ n ih =>
    intro i r o hi hn hM
    rw [show f_ShutWays_most_25 (n + 1) = b_ShutWays_most_25 (f_ShutWays_most_25 n) from rfl]
    unfold b_ShutWays_most_25 f_ShutWays_most_62
    by_cases c : i = K
    · subst c
      rw [if_pos (nI_le (Nat.le_refl _) (by omega))]
      exact ⟨r, rfl, o, hM⟩
    · have hbi := hb i
      have ho : o ≤ 700 := by
        rcases hM with ⟨h1, h2, h3⟩ | ⟨b, b1, b2, b3, b4, b5, b6⟩
        · omega
        · have := hb b; omega
      rw [if_neg (nI_ge (by omega) (by omega))]
      simp only [gixN (show i < 16 by omega) (by decide : 16 < 2 ^ 31), nIc (show i < 2 ^ 31 by omega), hP i (by omega), nmI, nI_1]
      by_cases q : ps i ≤ o
      · rw [if_pos (nI_le q (by omega))]
        refine ih (i + 1) r o (by omega) (by omega) ?_
        rcases hM with ⟨h1, h2, h3⟩ | ⟨b, b1, b2, b3, b4, b5, b6⟩
        · refine Or.inl ⟨h1, h2, fun t t1 t2 => ?_⟩
          by_cases e : t = i
          · subst e; omega
          · exact h3 t t1 (by omega)
        · refine Or.inr ⟨b, b1, by omega, b3, b4, b5, fun t t1 t2 => ?_⟩
          by_cases e : t = i
          · subst e; omega
          · exact b6 t t1 (by omega)
      · rw [if_neg (nI_ge (by omega) (by omega))]
        refine ih (i + 1) (nI i) (ps i) (by omega) (by omega) ?_
        refine Or.inr ⟨i, Nat.zero_le _, by omega, rfl, rfl, by omega, fun t t1 t2 => ?_⟩
        by_cases e : t = i
        · subst e; omega
        · rcases hM with ⟨h1, h2, h3⟩ | ⟨b, b1, b2, b3, b4, b5, b6⟩
          · have := h3 t t1 (by omega); omega
          · have := b6 t t1 (by omega); omega
theorem mmost24 {K : Nat} (hK : K ≤ 16) {ps : Nat → Nat} {Q : Nat → Int32} (hQ : ∀ s, s < 16 → Q s = nI (ps s)) (hb : ∀ s, ps s ≤ 700) (co str tw kd nn ct da al wm : Int32) (A G L0 en my mf mt W0 : Nat → Int32) :
    ∀ (n j : Nat) (r : Int32) (o : Nat), j ≤ K → j < n → Mso ps j K r o → ∃ r', f_ShutWaysModel_most_24 n r (nI j - 1) co str tw kd nn ct da al wm 17 A 16 G 16 Q 8 L0 4 en 16 my 16 mf 16 mt 16 W0 = some (r', da, al, wm, A, G, Q, L0, W0) ∧ ∃ o', Mso ps 0 K r' o' := by
  intro n
  induction n with
  | zero => intro j r o _ h; omega
  | succ n ih =>
    intro j r o hj hn hM
    rw [show f_ShutWaysModel_most_24 (n + 1) = b_ShutWaysModel_most_24 (f_ShutWaysModel_most_24 n) from rfl]
    unfold b_ShutWaysModel_most_24 f_ShutWaysModel_most_61 f_ShutWaysModel_most_57 f_ShutWaysModel_most_62 f_ShutWaysModel_most_74
    cases j with
    | zero =>
      rw [if_pos (show nI 0 - 1 < 0 by decide)]
      exact ⟨r, rfl, o, hM⟩
    | succ i =>
      have hbi := hb i
      rw [nI_pred, if_neg (nI_pos (by omega))]
      simp only [gixN (show i < 16 by omega) (by decide : 16 < 2 ^ 31), nIc (show i < 2 ^ 31 by omega), hQ i (by omega), nI_dec, if_pos rfl, if_neg one_ne]
      by_cases z : ps i = 0
      · rw [if_pos (show nI (ps i) ≤ 0 from nI_le (b := 0) (by omega) (by decide))]
        refine ih i r o (by omega) (by omega) ?_
        rcases hM with ⟨h1, h2, h3⟩ | ⟨b, b1, b2, b3, b4, b5, b6⟩
        · refine Or.inl ⟨h1, h2, fun t t1 t2 => ?_⟩
          by_cases e : t = i
          · subst e; exact z
          · exact h3 t (by omega) t2
        · refine Or.inr ⟨b, by omega, b2, b3, b4, b5, fun t t1 t2 => ?_⟩
          by_cases e : t = i
          · subst e; omega
          · exact b6 t (by omega) t2
      · rw [if_neg (nI_nle (by omega) (by omega))]
        rcases hM with ⟨h1, h2, h3⟩ | ⟨b, b1, b2, b3, b4, b5, b6⟩
        · rw [if_pos h1]
          refine ih i (nI i) (ps i) (by omega) (by omega) (Or.inr ⟨i, Nat.le_refl _, by omega, rfl, rfl, by omega, fun t t1 t2 => ?_⟩)
          by_cases e : t = i
          · subst e; omega
          · have := h3 t (by omega) t2; omega
        · have hbb := hb b
          rw [b3, if_neg (nI_m1 (show b < 2 ^ 31 by omega)), gixN (show b < 16 by omega) (by decide), nIc (by omega), hQ b (by omega)]
          by_cases q : ps i < ps b
          · rw [if_pos (nI_lt q (by omega))]
            refine ih i (nI b) o (by omega) (by omega) (Or.inr ⟨b, by omega, b2, rfl, b4, b5, fun t t1 t2 => ?_⟩)
            by_cases e : t = i
            · subst e; omega
            · exact b6 t (by omega) t2
          · rw [if_neg (nI_nlt (by omega) (by omega))]
            refine ih i (nI i) (ps i) (by omega) (by omega) (Or.inr ⟨i, Nat.le_refl _, by omega, rfl, rfl, by omega, fun t t1 t2 => ?_⟩)
            by_cases e : t = i
            · subst e; omega
            · have := b6 t (by omega) t2; omega
section Core5
variable {C K : Nat} {corners market quay hasOdd oddM oddQ kind nights cart sc : Int32} {sf st sy sp : Nat → Int32} {lc : Int32} {lf lt ly lp : Nat → Int32} {mcorners mstreets mtwice mcouncil mnights mlanes mcart mall : Int32} {mfrom mto myards mprice mend mlane : Nat → Int32} {gone mday : Int32} {shut mshut : Nat → Int32}
theorem most_core (hP : IPlan C K corners market quay hasOdd oddM oddQ kind nights cart sc sf st sy sp lc lf lt ly lp mcorners mstreets mtwice mcouncil mnights mlanes mcart mall mfrom mto myards mprice mend mlane) (hD : IDays K gone shut mday mshut) (a1 tg wc ws wy wm : Int32) (pass tsh far wst A tim L0 W0 : Nat → Int32) :
    ∃ r1, f_ShutWays_most a1 16 pass tg gone 16 shut 16 tsh market quay hasOdd oddM oddQ kind nights wc ws wy sc 8 far 16 sf 16 st 16 sy 8 wst = some r1 ∧ ∃ r2, f_ShutWaysModel_most a1 mcorners mstreets mtwice mcouncil mnights mcart mday mall wm 17 A 16 mshut 16 tim 8 L0 4 mend 16 myards 16 mfrom 16 mto 16 W0 = some r2 ∧ r1.1 = r2.1 ∧ IDays K gone shut r2.2.1 r2.2.2.2.2.2.1 ∧ r2.2.2.1 = nI K := by
  obtain ⟨⟨-, -, h12⟩, -, ⟨e9, e10, e11⟩, -⟩ := id hP
  have hFU : 2000 < FU := by rw [FU_eq]; decide
  unfold f_ShutWays_most f_ShutWaysModel_most f_ShutWaysModel_areDays
  generalize FU = M0 at hFU ⊢
  rw [outside_ok, in_ok, Option.bind_some, Option.bind_some]
  by_cases c : a1 < 1 ∨ 99 < a1
  · rw [if_pos c, if_pos c, if_neg one_ne]
    exact ⟨_, rfl, _, rfl, rfl, hD, e11⟩
  · obtain ⟨k, k1, k2, rfl⟩ := i32_rng (v := a1) (a := 1) (b := 99) (by decide) (by decide) c
    obtain ⟨ps', P', Q', F', G', far', wst', L', W', A', tg', wc', ws', wy', wm', u1, u2, u3, u4, u5, u6⟩ := times_core hP hD (N := k) (by omega) tg wc ws wy wm pass tsh far wst A tim L0 W0
    rw [if_neg c, if_neg c, if_pos rfl, show gz 1 (some (1 : Int32)) = some 1 from rfl, Option.bind_some, if_neg one_ne, u1, u2, Option.bind_some, Option.bind_some]
    simp only [nmI]
    rw [e10, e9]
    obtain ⟨r1, v1, o1, v2⟩ := cmost25 (show K ≤ 16 by omega) u3 u5 tg' gone market quay hasOdd oddM oddQ kind nights wc' ws' wy' shut F' far' sf st sy wst' M0 0 (-1) 0 (Nat.zero_le _) (by omega) (Or.inl ⟨rfl, rfl, fun t t1 t2 => absurd t2 (Nat.not_lt_zero _)⟩)
    obtain ⟨r2, v3, o2, v4⟩ := mmost24 (show K ≤ 16 by omega) u4 u5 mcorners (nI K) mtwice mcouncil mnights mcart mday (nI K) wm' A' G' L' mend myards mfrom mto W' M0 K (-1) 0 (Nat.le_refl _) (by omega) (Or.inl ⟨rfl, rfl, fun t t1 t2 => absurd t2 (Nat.not_lt.mpr t1)⟩)
    rw [nI_0] at v1
    exact ⟨_, v1, _, v3, v2.uniq v4, u6, rfl⟩
end Core5
theorem pl_passed : PL_passed INV := by
  intro x m a1 a2 hI
  obtain ⟨C, K, hT, hP, hD, h0, h1, hN⟩ := hI
  obtain ⟨r1, u1, r2, u2, u3, u4, u5⟩ := passed_core hP hD a1 a2 x.2.2.2.2.2.2.2.2.2.1.1 x.2.2.2.2.2.2.2.2.2.2.2.2.2.2.2.2.2.2.1.1 x.2.2.2.2.2.2.2.2.2.2.2.2.2.2.2.2.2.2.1.2.1 x.2.2.2.2.2.2.2.2.2.2.2.2.2.2.2.2.2.2.1.2.2.1 m.1.2.2.2.2.2.2.2.2.2.2.2 x.1.2.2.2 x.2.2.2.2.2.2.2.2.2.1.2 x.2.2.2.2.2.2.2.2.2.2.2.2.2.2.2.2.2.2.1.2.2.2.2 x.2.2.2.2.2.2.2.2.2.2.2.2.2.2.2.2.2.2.1.2.2.2.1 m.2.2.2.2.1.2.1 m.2.2.2.2.2.2.2.2.1 m.2.2.2.2.2.1 m.2.2.2.2.2.2.1
  exact ⟨r1, u1, r2, u2, u3, C, K, hT, hP.all u5, u4, h0, h1, hN⟩
theorem pl_most : PL_most INV := by
  intro x m a1 hI
  obtain ⟨C, K, hT, hP, hD, h0, h1, hN⟩ := hI
  obtain ⟨r1, u1, r2, u2, u3, u4, u5⟩ := most_core hP hD a1 x.2.2.2.2.2.2.2.2.2.1.1 x.2.2.2.2.2.2.2.2.2.2.2.2.2.2.2.2.2.2.1.1 x.2.2.2.2.2.2.2.2.2.2.2.2.2.2.2.2.2.2.1.2.1 x.2.2.2.2.2.2.2.2.2.2.2.2.2.2.2.2.2.2.1.2.2.1 m.1.2.2.2.2.2.2.2.2.2.2.2 x.1.2.2.2 x.2.2.2.2.2.2.2.2.2.1.2 x.2.2.2.2.2.2.2.2.2.2.2.2.2.2.2.2.2.2.1.2.2.2.2 x.2.2.2.2.2.2.2.2.2.2.2.2.2.2.2.2.2.2.1.2.2.2.1 m.2.2.2.2.1.2.1 m.2.2.2.2.2.2.2.2.1 m.2.2.2.2.2.1 m.2.2.2.2.2.2.1
  exact ⟨r1, u1, r2, u2, u3, C, K, hT, hP.all u5, u4, h0, h1, hN⟩
