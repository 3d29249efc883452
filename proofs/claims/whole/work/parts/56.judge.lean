/-! ===== judge ===== -/
section JudgeSim
variable {C K kd nn : Nat} {fr to ya mk qu : Nat → Nat} {sf st sy mf mt my en : Nat → Int32} {market quay hasOdd oddM oddQ tw : Int32}
theorem judge_sim (T : TW C K fr to ya mk qu kd nn sf st sy market quay hasOdd oddM oddQ mf mt my tw en) (ct N : Nat) (hN : N ≤ 12) (str : Int32) (told tell A : Nat → Int32) (ht : ∀ i, i < N → told i = tell i) : ∀ (n i d : Nat) (sh : Nat → Nat) (F G : Nat → Int32) (wc ws wy wm : Int32) (far wst L0 W0 : Nat → Int32), i ≤ N → N - i + 1 < n → d + (N - i) ≤ 90000 → CodS K sh F → CodS K sh G →
    ∃ (r tg' wc' ws' wy' wm' : Int32) (F' far' wst' G' L' W' : Nat → Int32), f_ShutWays_firstWrongNight_9 n (nI i) (nI N) market quay hasOdd oddM oddQ (nI kd) (nI nn) (nI d) 16 F wc ws wy (nI K) 8 far 16 sf 16 st 16 sy 8 wst 12 told = some (r, tg', F', wc', ws', wy', far', wst') ∧
      f_ShutWaysModel_judged_17 n (-1) (nI i) (nI C) str tw (nI kd) (nI nn) (nI ct) (nI d) (nI K) (nI N) wm 17 A 16 G 8 L0 4 en 16 my 16 mf 16 mt 16 W0 12 tell = some (r, A 16, str, wm', A, G', L', W') ∧ ∀ s, s < 16 → G' s = A s := by
  obtain ⟨hK, hC, G1, G2, E, M, hkd, hnn⟩ := T
  intro n
  induction n with
  | zero => intro i d sh F G wc ws wy wm far wst L0 W0 _ h; omega
  | succ n ih =>
    intro i d sh F G wc ws wy wm far wst L0 W0 hi hn hd S1 S2
    rw [show f_ShutWays_firstWrongNight_9 (n + 1) = b_ShutWays_firstWrongNight_9 (f_ShutWays_firstWrongNight_9 n) from rfl, show f_ShutWaysModel_judged_17 (n + 1) = b_ShutWaysModel_judged_17 (f_ShutWaysModel_judged_17 n) from rfl]
    unfold b_ShutWays_firstWrongNight_9 b_ShutWaysModel_judged_17
    by_cases c : i = N
    · obtain ⟨B, u1, u2⟩ := putBack_ok str (nI d) (nI K) A G
      unfold f_ShutWaysModel_judged_80
      rw [if_pos (nI_le (by omega) (by omega)), if_pos (nI_le (by omega) (by omega)), u1, Option.bind_some]
      exact ⟨_, _, _, _, _, _, _, _, _, _, _, _, rfl, rfl, u2⟩
    · obtain ⟨F', far', wst', w1, w2, w3, w4, w5, w6, w7⟩ := pass_ok hK hC G1 S1 E hkd hnn (show d < 100000 by omega) wc ws wy far wst
      obtain ⟨L', W', v1, v2⟩ := lay_ok hK hC G2 S2 E M (show d < 100000 by omega) ct wm L0 W0
      obtain ⟨G', s1, s2⟩ := shutOne_ok (d := d) hK hnn (pkl_lt (kd := kd) (ya := ya) w5) S2
      have hp := picked_ok hkd hK G2.y w3 v2 w5
      rw [if_neg (nI_ge (by omega) (by omega)), if_neg (nI_ge (by omega) (by omega)), if_pos rfl, w1, v1, Option.bind_some, Option.bind_some]
      dsimp only
      rw [gixN (show i < 12 by omega) (by decide), nIc (by omega)]
      generalize dw fr to ya K mk qu sh d = L at *
      generalize dy fr to ya K mk qu sh d = y at *
      have fin : ∀ (z0 : Option (Int32 × Int32 × Int32 × Int32 × (Nat → Int32) × (Nat → Int32) × (Nat → Int32) × (Nat → Int32))), (∀ y0 : Int32, y0 = cI (pkl kd ya L) → f_ShutWaysModel_judged_49 (f_ShutWaysModel_judged_17 n) (nI i) y0 (nI C) str tw (nI kd) (nI nn) (nI ct) (nI d) (nI K) (nI N) (nI L.length) 17 A 16 G 8 L' 4 en 16 my 16 mf 16 mt 16 W' 12 tell = z0) → (if yI y = -1 then f_ShutWaysModel_judged_49 (f_ShutWaysModel_judged_17 n) (nI i) (-1) (nI C) str tw (nI kd) (nI nn) (nI ct) (nI d) (nI K) (nI N) (nI L.length) 17 A 16 G 8 L' 4 en 16 my 16 mf 16 mt 16 W' 12 tell else (f_ShutWaysModel_picked (nI kd) (nI L.length) 16 W' 16 my).bind (fun r10 => f_ShutWaysModel_judged_49 (f_ShutWaysModel_judged_17 n) (nI i) r10 (nI C) str tw (nI kd) (nI nn) (nI ct) (nI d) (nI K) (nI N) (nI L.length) 17 A 16 G 8 L' 4 en 16 my 16 mf 16 mt 16 W' 12 tell)) = z0 := by
        intro z0 key
        by_cases z : L = []
        · rw [if_pos ((yI_m1 w7).mpr z)]
          exact key (-1) (by rw [z]; rfl)
        · rw [if_neg (fun q => z ((yI_m1 w7).mp q)), hp, Option.bind_some]
          exact key _ rfl
      by_cases q : cI (pkl kd ya L) = told i
      · rw [if_pos q, nI_1]
        obtain ⟨r, tg', wc', ws', wy', wm', F2, far2, wst2, G3, L2, W2, u1, u2, u3⟩ := ih (i + 1) (d + 1) _ F' G' (nI L.length) (nI (mskA 0 L)) (nI y) (nI L.length) far' wst' L' W' (by omega) (by omega) (by omega) w2 s2
        refine ⟨r, tg', wc', ws', wy', wm', F2, far2, wst2, G3, L2, W2, u1, ?_, u3⟩
        apply fin
        intro y0 hy
        unfold f_ShutWaysModel_judged_49 f_ShutWaysModel_judged_67
        rw [gixN (show i < 12 by omega) (by decide), nIc (by omega), hy, if_pos (q.trans (ht i (by omega))), s1, Option.bind_some, nI_1]
        exact u2
      · rw [if_neg q]
        obtain ⟨n', rfl⟩ : ∃ n', n = n' + 1 := ⟨n - 1, by omega⟩
        obtain ⟨B, u1, u2⟩ := putBack_ok str (nI (d + 1)) (nI K) A G'
        refine ⟨_, _, _, _, _, nI L.length, _, _, _, B, L', W', rfl, ?_, u2⟩
        apply fin
        intro y0 hy
        unfold f_ShutWaysModel_judged_49 f_ShutWaysModel_judged_67
        rw [gixN (show i < 12 by omega) (by decide), nIc (by omega), hy, if_neg (fun z => q (z.trans (ht i (by omega)).symm)), s1, Option.bind_some, nI_1]
        rw [show f_ShutWaysModel_judged_17 (n' + 1) = b_ShutWaysModel_judged_17 (f_ShutWaysModel_judged_17 n') from rfl]
        unfold b_ShutWaysModel_judged_17 f_ShutWaysModel_judged_80
        rw [if_neg (nI_m1 (show i < 2 ^ 31 by omega)), ite_self, u1, Option.bind_some]
theorem fw_core (T : TW C K fr to ya mk qu kd nn sf st sy market quay hasOdd oddM oddQ mf mt my tw en) (ct : Nat) {N : Nat} (hN : N ≤ 12) {told tell : Nat → Int32} (ht : ∀ i, i < N → told i = tell i) (mday tg wc ws wy wm : Int32) (tsh far wst A mshut L0 W0 : Nat → Int32) :
    ∃ (r tg' wc' ws' wy' wm' : Int32) (F' far' wst' A' G' L' W' : Nat → Int32), f_ShutWays_firstWrongNight (nI N) market quay hasOdd oddM oddQ (nI kd) (nI nn) tg 16 tsh wc ws wy (nI K) 8 far 16 sf 16 st 16 sy 8 wst 12 told = some (r, tg', F', wc', ws', wy', far', wst') ∧
      f_ShutWaysModel_judged (nI C) (nI K) tw (nI kd) (nI nn) (nI ct) mday (nI K) (nI N) wm 17 A 16 mshut 8 L0 4 en 16 my 16 mf 16 mt 16 W0 12 tell = some (r, mday, nI K, wm', A', G', L', W') ∧ ∀ s, s < 16 → G' s = mshut s := by
  have hFU : 2000 < FU := by rw [FU_eq]; decide
  obtain ⟨A', a2, a3, a4⟩ := aside_ok mday A mshut
  obtain ⟨g, g1, g2, -⟩ := fill_ok 0 (N := 16) (by decide) tsh
  obtain ⟨G0, o1, o2⟩ := openAll_ok (K := K) mshut
  unfold f_ShutWays_firstWrongNight f_ShutWaysModel_judged f_Days_start
  generalize FU = M0 at hFU ⊢
  rw [a2, g1, o1, Option.bind_some, Option.bind_some, Option.bind_some, Option.bind_some]
  obtain ⟨r, tg', wc', ws', wy', wm', F2, far2, wst2, G3, L2, W2, u1, u2, u3⟩ := judge_sim T ct N hN (nI K) told tell A' ht M0 0 0 (fun _ => 0) g G0 wc ws wy wm far wst L0 W0 (Nat.zero_le _) (by omega) (by omega) (fun s hs => ⟨Nat.zero_le _, g2 s hs, fun _ => rfl⟩) o2
  rw [nI_0] at u1 u2
  rw [a3] at u2
  exact ⟨r, tg', wc', ws', wy', wm', F2, far2, wst2, A', G3, L2, W2, u1, u2, fun s hs => (u3 s hs).trans (a4 s hs)⟩
end JudgeSim
section Core6
variable {C K : Nat} {corners market quay hasOdd oddM oddQ kind nights cart sc : Int32} {sf st sy sp : Nat → Int32} {lc : Int32} {lf lt ly lp : Nat → Int32} {mcorners mstreets mtwice mcouncil mnights mlanes mcart mall : Int32} {mfrom mto myards mprice mend mlane : Nat → Int32} {gone mday : Int32} {shut mshut : Nat → Int32}
theorem judge_core (hP : IPlan C K corners market quay hasOdd oddM oddQ kind nights cart sc sf st sy sp lc lf lt ly lp mcorners mstreets mtwice mcouncil mnights mlanes mcart mall mfrom mto myards mprice mend mlane) (hD : IDays K gone shut mday mshut) {tc mtold : Int32} {told tell : Nat → Int32} (hN : ITold K tc told mtold tell) (tg wc ws wy wm : Int32) (tsh far wst A L0 W0 : Nat → Int32) :
    ∃ r1, f_ShutWays_judge tc market quay hasOdd oddM oddQ kind nights tg 16 tsh wc ws wy sc 8 far 16 sf 16 st 16 sy 8 wst 12 told = some r1 ∧ ∃ r2, f_ShutWaysModel_judge mcorners mstreets mtwice mcouncil mnights mcart mday mall mtold wm 17 A 16 mshut 8 L0 4 mend 16 myards 16 mfrom 16 mto 16 W0 12 tell = some r2 ∧ r1.1 = r2.1 ∧ IDays K gone shut r2.2.1 r2.2.2.2.2.2.1 ∧ r2.2.2.1 = nI K := by
  obtain ⟨fr, to, ya, mk, qu, kd, nn, ct, T, e1, e2, e3, e4, -, e6, -⟩ := hP.tw
  obtain ⟨-, ⟨-, e8⟩, ⟨e9, e10, e11⟩, -⟩ := hP
  obtain ⟨N, hn, t1, t2, ht⟩ := hN
  obtain ⟨d, sh, hd, e12, e13, S1, S2⟩ := id hD.g
  subst e1; subst e2; subst e3; subst e4; subst e6; subst e8; subst e9; subst e10; subst e11; subst e12; subst e13; subst t1; subst t2
  obtain ⟨r, tg', wc', ws', wy', wm', F2, far2, wst2, A', G3, L2, W2, u1, u2, u3⟩ := fw_core T ct hn (fun i hi => (ht i hi).1) (nI d) tg wc ws wy wm tsh far wst A mshut L0 W0
  unfold f_ShutWays_judge f_ShutWaysModel_judge
  rw [u1, u2, Option.bind_some, Option.bind_some]
  exact ⟨_, rfl, _, rfl, rfl, IDays.of hd S1 (S2.congr u3), rfl⟩
end Core6
theorem pl_judge : PL_judge INV := by
  intro x m hI
  obtain ⟨C, K, hT, hP, hD, h0, h1, hN⟩ := hI
  obtain ⟨r1, u1, r2, u2, u3, u4, u5⟩ := judge_core hP hD hN x.2.2.2.2.2.2.2.2.2.1.1 x.2.2.2.2.2.2.2.2.2.2.2.2.2.2.2.2.2.2.1.1 x.2.2.2.2.2.2.2.2.2.2.2.2.2.2.2.2.2.2.1.2.1 x.2.2.2.2.2.2.2.2.2.2.2.2.2.2.2.2.2.2.1.2.2.1 m.1.2.2.2.2.2.2.2.2.2.2.2 x.2.2.2.2.2.2.2.2.2.1.2 x.2.2.2.2.2.2.2.2.2.2.2.2.2.2.2.2.2.2.1.2.2.2.2 x.2.2.2.2.2.2.2.2.2.2.2.2.2.2.2.2.2.2.1.2.2.2.1 m.2.2.2.2.1.2.1 m.2.2.2.2.2.1 m.2.2.2.2.2.2.1
  exact ⟨r1, u1, r2, u2, u3, C, K, hT, hP.all u5, u4, h0, h1, hN⟩
