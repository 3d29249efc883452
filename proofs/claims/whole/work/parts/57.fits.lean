/-! ===== a plan copied; fits ===== -/
theorem rcopy7 {K N : Nat} (hK : K ≤ N) (hN : N ≤ 16) (F T Y P : Nat → Int32) : ∀ (n i : Nat) (f t y p : Nat → Int32), i ≤ K → K - i < n → (∀ s, s < i → f s = F s ∧ t s = T s ∧ y s = Y s ∧ p s = P s) → ∃ f' t' y' p' : Nat → Int32, f_Roads_copyFrom_7 n (nI i) (nI i) (nI K) N F N T N Y N P N f N t N y N p = some (nI K, f', t', y', p') ∧ ∀ s, s < K → f' s = F s ∧ t' s = T s ∧ y' s = Y s ∧ p' s = P s := by
  intro n
  induction n with
  | zero => intro i f t y p _ h; omega
  | succ n ih =>
    intro i f t y p hi hn h0
    rw [show f_Roads_copyFrom_7 (n + 1) = b_Roads_copyFrom_7 (f_Roads_copyFrom_7 n) from rfl]
    unfold b_Roads_copyFrom_7
    by_cases c : i = K
    · subst c
      rw [if_pos (nI_le (Nat.le_refl _) (by omega))]
      exact ⟨f, t, y, p, rfl, h0⟩
    · rw [if_neg (nI_ge (by omega) (by omega))]
      simp only [f_Roads_add, gixN (show i < N by omega) (show N < 2 ^ 31 by omega), nIc (show i < 2 ^ 31 by omega), if_pos (nI_lt (show i < N by omega) (show N < 2 ^ 31 by omega)), nmI, nI_1, Option.bind_some]
      refine ih (i + 1) _ _ _ _ (by omega) (by omega) ?_
      intro s hs
      by_cases e : s = i
      · subst e; rw [pk_us, pk_us, pk_us, pk_us]; exact ⟨rfl, rfl, rfl, rfl⟩
      · rw [pk_un e, pk_un e, pk_un e, pk_un e]; exact h0 s (by omega)
theorem rcopy_ok {K N : Nat} (hK : K ≤ N) (hN : N ≤ 16) (F T Y P f t y p : Nat → Int32) (c : Int32) : ∃ f' t' y' p' : Nat → Int32, f_Roads_copyFrom c (nI K) N F N T N Y N P N f N t N y N p = some (nI K, f', t', y', p') ∧ ∀ s, s < K → f' s = F s ∧ t' s = T s ∧ y' s = Y s ∧ p' s = P s := by
  unfold f_Roads_copyFrom
  have hFU : 20 < FU := by rw [FU_eq]; decide
  generalize FU = M0 at hFU ⊢
  exact rcopy7 hK hN F T Y P M0 0 f t y p (Nat.zero_le _) (by omega) (fun s hs => absurd hs (Nat.not_lt_zero _))
theorem pcopy_ok {K ln : Nat} (hK : K ≤ 12) (hl : ln ≤ 4) (corners market quay hasOdd oddM oddQ kind nights cart : Int32) (sf st sy sp lf lt ly lp : Nat → Int32) (ho : hasOdd = 0 ∨ hasOdd = 1) (dco dma dqu dho dom doq dki dni dca dsc : Int32) (dsf dst dsy dsp : Nat → Int32) (dlc : Int32) (dlf dlt dly dlp : Nat → Int32) :
    ∃ f' t' y' p' f2 t2 y2 p2 : Nat → Int32, f_Plan_copyFrom dco dma dqu dho dom doq dki dni dca corners market quay hasOdd oddM oddQ kind nights cart dsc (nI K) 16 sf 16 st 16 sy 16 sp 16 dsf 16 dst 16 dsy 16 dsp dlc (nI ln) 4 lf 4 lt 4 ly 4 lp 4 dlf 4 dlt 4 dly 4 dlp = some (corners, market, quay, hasOdd, oddM, oddQ, kind, nights, cart, nI K, f', t', y', p', nI ln, f2, t2, y2, p2) ∧ (∀ s, s < K → f' s = sf s ∧ t' s = st s ∧ y' s = sy s ∧ p' s = sp s) ∧ ∀ s, s < ln → f2 s = lf s ∧ t2 s = lt s ∧ y2 s = ly s ∧ p2 s = lp s := by
  obtain ⟨f', t', y', p', h1, h2⟩ := rcopy_ok (K := K) (N := 16) (by omega) (by decide) sf st sy sp dsf dst dsy dsp dsc
  obtain ⟨f2, t2, y2, p2, h3, h4⟩ := rcopy_ok (K := ln) (N := 4) hl (by decide) lf lt ly lp dlf dlt dly dlp dlc
  unfold f_Plan_copyFrom
  rw [h1, h3, Option.bind_some, Option.bind_some]
  unfold gz
  rw [if_pos ho]
  exact ⟨f', t', y', p', f2, t2, y2, p2, rfl, h2, h4⟩
section FitsSim
variable {C K kd nn : Nat} {fr to ya mk qu : Nat → Nat} {sf st sy mf mt my en : Nat → Int32} {market quay hasOdd oddM oddQ tw : Int32}
theorem tw_upd (T : TW C K fr to ya mk qu kd nn sf st sy market quay hasOdd oddM oddQ mf mt my tw en) {j y : Nat} (hy : 1 ≤ y) (hy2 : y ≤ 99) {D M : Nat → Int32} (hD : ∀ s, s < K → s ≠ j → D s = nI (ya s)) (hM : ∀ s, s ≠ j → M s = my s) :
    TW C K fr to (updN ya j y) mk qu kd nn sf st (upd D j (nI y)) market quay hasOdd oddM oddQ mf mt (upd M j (nI y)) tw en := by
  obtain ⟨hK, hC, G1, G2, E, M', hkd, hnn⟩ := T
  refine ⟨hK, hC, ?_, ?_, E, M', hkd, hnn⟩
  · intro s hs
    obtain ⟨a1, a2, a3, a4, a5, a6, a7, a8⟩ := G1 s hs
    by_cases e : s = j
    · subst e; rw [pk_us, updN_self]; exact ⟨a1, a2, rfl, a4, a5, a6, hy, by omega⟩
    · rw [pk_un e, updN_ne _ _ e]; exact ⟨a1, a2, hD s hs e, a4, a5, a6, a7, a8⟩
  · intro s hs
    obtain ⟨a1, a2, a3, a4, a5, a6, a7, a8⟩ := G2 s hs
    by_cases e : s = j
    · subst e; rw [pk_us, updN_self]; exact ⟨a1, a2, rfl, a4, a5, a6, hy, by omega⟩
    · rw [pk_un e, updN_ne _ _ e]; exact ⟨a1, a2, (hM s e).trans a3, a4, a5, a6, a7, a8⟩
theorem fits_sim (T : TW C K fr to ya mk qu kd nn sf st sy market quay hasOdd oddM oddQ mf mt my tw en) (ct : Nat) {j N : Nat} (hj : j < K) (hN : N ≤ 12) {told tell : Nat → Int32} (ht : ∀ i, i < N → told i = tell i) (a2 had mday : Int32) (mshut : Nat → Int32) (dco dca dlc pco pma pqu pho pom poq pki pni pca psc lc : Int32) (dsp dlf dlt dly dlp psf pst psy psp lf lt ly lp : Nat → Int32) :
    ∀ (n y : Nat) (cnt ls gs tg wc ws wy wm : Int32) (D M tsh far wst A G L0 W0 : Nat → Int32), 1 ≤ y → y ≤ 100 → 100 - y < n → (∀ s, s < K → s ≠ j → D s = nI (ya s)) → (∀ s, s ≠ j → M s = my s) → (∀ s, s < 16 → G s = mshut s) →
      ∃ (r : Int32) (q1 : _) (wm' : Int32) (Y' A' G' L' W' : Nat → Int32), f_ShutWays_fits_51 n (nI j) a2 cnt ls gs (nI y) (nI N) pco pma pqu pho pom poq pki pni pca psc dco market quay hasOdd oddM oddQ (nI kd) (nI nn) dca (nI K) 16 psf 16 pst 16 psy 16 psp 16 sf 16 st 16 D 16 dsp dlc lc 4 lf 4 lt 4 ly 4 lp 4 dlf 4 dlt 4 dly 4 dlp tg 16 tsh wc ws wy 8 far 8 wst 12 told = some (r, q1) ∧
        f_ShutWaysModel_fits_42 n (nI j) a2 had cnt ls gs (nI y) (nI C) (nI K) tw (nI kd) (nI nn) (nI ct) mday (nI K) (nI N) wm 16 M 17 A 16 G 8 L0 4 en 16 mf 16 mt 16 W0 12 tell = some (r, mday, nI K, wm', Y', A', G', L', W') ∧ (∀ s, s ≠ j → Y' s = my s) ∧ Y' j = had ∧ ∀ s, s < 16 → G' s = mshut s := by
  have hK := T.1
  intro n
  induction n with
  | zero => intro y cnt ls gs tg wc ws wy wm D M tsh far wst A G L0 W0 _ _ h; omega
  | succ n ih =>
    intro y cnt ls gs tg wc ws wy wm D M tsh far wst A G L0 W0 hy1 hy2 hn hD hM hG
    rw [show f_ShutWays_fits_51 (n + 1) = b_ShutWays_fits_51 (f_ShutWays_fits_51 n) from rfl, show f_ShutWaysModel_fits_42 (n + 1) = b_ShutWaysModel_fits_42 (f_ShutWaysModel_fits_42 n) from rfl]
    unfold b_ShutWays_fits_51 b_ShutWaysModel_fits_42
    by_cases c : y = 100
    · subst c
      unfold f_ShutWays_fits_130 f_ShutWaysModel_fits_121
      rw [if_pos (show (99 : Int32) < nI 100 by decide), if_pos (show (100 : Int32) ≤ nI 100 by decide), gixN (show j < 16 by omega) (by decide), nIc (by omega)]
      have h1 : ∀ s, s ≠ j → upd M j had s = my s := fun s e => (pk_un e).trans (hM s e)
      by_cases q0 : a2 = 0
      · rw [if_pos q0, if_pos q0]
        exact ⟨_, _, _, _, _, _, _, _, rfl, rfl, h1, pk_us, hG⟩
      · rw [if_neg q0, if_neg q0]
        by_cases q1 : a2 = 1
        · rw [if_pos q1, if_pos q1]
          exact ⟨_, _, _, _, _, _, _, _, rfl, rfl, h1, pk_us, hG⟩
        · rw [if_neg q1, if_neg q1]
          exact ⟨_, _, _, _, _, _, _, _, rfl, rfl, h1, pk_us, hG⟩
    · have T2 := tw_upd T (j := j) (y := y) hy1 (by omega) hD hM
      obtain ⟨r, tg', wc', ws', wy', wm', F2, far2, wst2, A', G3, L2, W2, u1, u2, u3⟩ := fw_core T2 ct hN ht mday tg wc ws wy wm tsh far wst A G L0 W0
      rw [if_neg (show ¬ (99 : Int32) < nI y from nI_nlt (a := 99) (by omega) (by decide)), if_neg (show ¬ (100 : Int32) ≤ nI y from nI_ge (b := 100) (by omega) (by decide)), gixN (show j < 16 by omega) (by decide), gixN (show j < 16 by omega) (by decide), nIc (by omega), u1, u2, Option.bind_some, Option.bind_some]
      dsimp only
      unfold f_ShutWays_fits_100 f_ShutWays_fits_106 f_ShutWaysModel_fits_81 f_ShutWaysModel_fits_87
      have h1 : ∀ s, s < K → s ≠ j → upd D j (nI y) s = nI (ya s) := fun s hs e => (pk_un e).trans (hD s hs e)
      have h2 : ∀ s, s ≠ j → upd M j (nI y) s = my s := fun s e => (pk_un e).trans (hM s e)
      have h3 : ∀ s, s < 16 → G3 s = mshut s := fun s hs => (u3 s hs).trans (hG s hs)
      rw [nI_1]
      by_cases q : r = -1
      · rw [if_pos q, if_pos q]
        by_cases q2 : ls = -1
        · rw [if_pos q2, if_pos q2]
          exact ih (y + 1) _ _ _ _ _ _ _ _ _ _ _ _ _ _ _ _ _ (by omega) (by omega) (by omega) h1 h2 h3
        · rw [if_neg q2, if_neg q2]
          exact ih (y + 1) _ _ _ _ _ _ _ _ _ _ _ _ _ _ _ _ _ (by omega) (by omega) (by omega) h1 h2 h3
      · rw [if_neg q, if_neg q]
        exact ih (y + 1) _ _ _ _ _ _ _ _ _ _ _ _ _ _ _ _ _ (by omega) (by omega) (by omega) h1 h2 h3
end FitsSim
section Core7
variable {C K : Nat} {corners market quay hasOdd oddM oddQ kind nights cart sc : Int32} {sf st sy sp : Nat → Int32} {lc : Int32} {lf lt ly lp : Nat → Int32} {mcorners mstreets mtwice mcouncil mnights mlanes mcart mall : Int32} {mfrom mto myards mprice mend mlane : Nat → Int32} {gone mday : Int32} {shut mshut : Nat → Int32}
theorem IPlan.odd (hP : IPlan C K corners market quay hasOdd oddM oddQ kind nights cart sc sf st sy sp lc lf lt ly lp mcorners mstreets mtwice mcouncil mnights mlanes mcart mall mfrom mto myards mprice mend mlane) : hasOdd = 0 ∨ hasOdd = 1 := by
  obtain ⟨-, -, -, -, -, -, h, -⟩ := hP
  rcases h with ⟨h, -⟩ | ⟨h, -⟩
  · exact Or.inl h
  · exact Or.inr h
theorem IPlan.yards (hP : IPlan C K corners market quay hasOdd oddM oddQ kind nights cart sc sf st sy sp lc lf lt ly lp mcorners mstreets mtwice mcouncil mnights mlanes mcart mall mfrom mto myards mprice mend mlane) {Y' : Nat → Int32} (h : ∀ s, s < K → Y' s = myards s) : IPlan C K corners market quay hasOdd oddM oddQ kind nights cart sc sf st sy sp lc lf lt ly lp mcorners mstreets mtwice mcouncil mnights mlanes mcart mall mfrom mto Y' mprice mend mlane := by
  obtain ⟨h1, h2, h3, h4, h5⟩ := hP
  refine ⟨h1, h2, h3, fun s hs => ?_, h5⟩
  rw [h s hs]
  exact h4 s hs
theorem fits_core (hP : IPlan C K corners market quay hasOdd oddM oddQ kind nights cart sc sf st sy sp lc lf lt ly lp mcorners mstreets mtwice mcouncil mnights mlanes mcart mall mfrom mto myards mprice mend mlane) (hD : IDays K gone shut mday mshut) {tc mtold : Int32} {told tell : Nat → Int32} (hN : ITold K tc told mtold tell) (a1 a2 tg wc ws wy wm : Int32) (tsh far wst A L0 W0 : Nat → Int32) (dco dma dqu dho dom doq dki dni dca dsc dlc : Int32) (dsf dst dsy dsp dlf dlt dly dlp : Nat → Int32) :
    ∃ r1, f_ShutWays_fits a1 a2 tc corners market quay hasOdd oddM oddQ kind nights cart sc dco dma dqu dho dom doq dki dni dca dsc 16 sf 16 st 16 sy 16 sp 16 dsf 16 dst 16 dsy 16 dsp dlc lc 4 lf 4 lt 4 ly 4 lp 4 dlf 4 dlt 4 dly 4 dlp tg 16 tsh wc ws wy 8 far 8 wst 12 told = some r1 ∧ ∃ r2, f_ShutWaysModel_fits a1 a2 mcorners mstreets mtwice mcouncil mnights mcart mday mall mtold wm 16 myards 17 A 16 mshut 8 L0 4 mend 16 mfrom 16 mto 16 W0 12 tell = some r2 ∧ r1.1 = r2.1 ∧ IDays K gone shut r2.2.1 r2.2.2.2.2.2.2.1 ∧ r2.2.2.1 = nI K ∧ ∀ s, s < K → r2.2.2.2.2.1 s = myards s := by
  obtain ⟨fr, to, ya, mk, qu, kd, nn, ct, T, e1, e2, e3, e4, -, e6, -⟩ := hP.tw
  have ho := hP.odd
  obtain ⟨⟨-, -, h12⟩, ⟨-, e8⟩, ⟨e9, e10, e11⟩, -, ⟨ln, hl, e14, -, -⟩, -⟩ := hP
  obtain ⟨N, hn, t1, t2, ht⟩ := hN
  subst e1; subst e2; subst e3; subst e4; subst e6; subst e8; subst e9; subst e10; subst e11; subst t1; subst t2; subst e14
  have hFU : 2000 < FU := by rw [FU_eq]; decide
  unfold f_ShutWays_fits f_ShutWaysModel_fits
  generalize FU = M0 at hFU ⊢
  rcases has_ok a1 (show K < 2 ^ 31 by omega) with ⟨h1, n1⟩ | ⟨h1, j, hj, rfl⟩
  · rcases isStreet_ok a1 h12 with ⟨h2, n2⟩ | ⟨h2, n2⟩
    · rw [h1, h2, Option.bind_some, Option.bind_some, if_pos rfl, if_pos rfl]
      exact ⟨_, rfl, _, rfl, rfl, hD, rfl, fun _ _ => rfl⟩
    · exact absurd n2 n1
  · rcases isStreet_ok (nI j) h12 with ⟨h2, n2⟩ | ⟨h2, n2⟩
    · exact absurd ⟨j, hj, rfl⟩ n2
    · rw [h1, h2, Option.bind_some, Option.bind_some, if_neg one_ne, if_neg one_ne, outside_ok, in_ok, Option.bind_some, Option.bind_some]
      by_cases c : a2 < 0 ∨ 2 < a2
      · rw [if_pos c, if_pos c, if_neg one_ne, if_pos rfl]
        exact ⟨_, rfl, _, rfl, rfl, hD, rfl, fun _ _ => rfl⟩
      · obtain ⟨f', t', y', p', f2, t2, y2, p2, q1, q2, q3⟩ := pcopy_ok h12 hl corners market quay hasOdd oddM oddQ (nI kd) (nI nn) cart sf st sy sp lf lt ly lp ho dco dma dqu dho dom doq dki dni dca dsc dsf dst dsy dsp dlc dlf dlt dly dlp
        rw [if_neg c, if_neg c, if_pos rfl, if_neg one_ne, q1, Option.bind_some, gixN (show j < 16 by omega) (by decide), nIc (by omega)]
        simp only [nmI]
        obtain ⟨hK, hC, G1, G2, E, M, hkd, hnn⟩ := T
        have T2 : TW C K fr to ya mk qu kd nn f' t' y' market quay hasOdd oddM oddQ mfrom mto myards mtwice mend := by
          refine ⟨hK, hC, ?_, G2, E, M, hkd, hnn⟩
          intro s hs
          obtain ⟨a1, a2, a3, a4⟩ := G1 s hs
          obtain ⟨b1, b2, b3, b4⟩ := q2 s hs
          exact ⟨b1.trans a1, b2.trans a2, b3.trans a3, a4⟩
        obtain ⟨r, q4, wm', Y', A', G', L', W', u1, u2, u3, u4, u5⟩ := fits_sim T2 ct hj hn (fun i hi => (ht i hi).1) a2 (myards j) mday mshut corners cart (nI ln) corners market quay hasOdd oddM oddQ (nI kd) (nI nn) cart (nI K) (nI ln) p' f2 t2 y2 p2 sf st sy sp lf lt ly lp M0 1 0 (-1) (-1) tg wc ws wy wm y' myards tsh far wst A mshut L0 W0 (by decide) (by decide) (by omega) (fun s hs _ => (q2 s hs).2.2.1.trans (G1 s hs).2.2.1) (fun _ _ => rfl) (fun _ _ => rfl)
        refine ⟨_, u1, _, u2, rfl, ?_, rfl, ?_⟩
        · obtain ⟨d, sh, hd, e12, e13, S1, S2⟩ := id hD.g
          show IDays K gone shut mday G'
          rw [e12, e13]
          exact IDays.of hd S1 (S2.congr u5)
        · intro s hs
          show Y' s = myards s
          by_cases e : s = j
          · rw [e]; exact u4
          · exact u3 s e
end Core7
theorem pl_fits : PL_fits INV := by
  intro x m a1 a2 hI
  obtain ⟨C, K, hT, hP, hD, h0, h1, hN⟩ := hI
  obtain ⟨r1, u1, r2, u2, u3, u4, u5, u6⟩ := fits_core hP hD hN a1 a2 x.2.2.2.2.2.2.2.2.2.1.1 x.2.2.2.2.2.2.2.2.2.2.2.2.2.2.2.2.2.2.1.1 x.2.2.2.2.2.2.2.2.2.2.2.2.2.2.2.2.2.2.1.2.1 x.2.2.2.2.2.2.2.2.2.2.2.2.2.2.2.2.2.2.1.2.2.1 m.1.2.2.2.2.2.2.2.2.2.2.2 x.2.2.2.2.2.2.2.2.2.1.2 x.2.2.2.2.2.2.2.2.2.2.2.2.2.2.2.2.2.2.1.2.2.2.2 x.2.2.2.2.2.2.2.2.2.2.2.2.2.2.2.2.2.2.1.2.2.2.1 m.2.2.2.2.1.2.1 m.2.2.2.2.2.1 m.2.2.2.2.2.2.1 x.2.2.2.2.2.1.1 x.2.2.2.2.2.1.2.1 x.2.2.2.2.2.1.2.2.1 x.2.2.2.2.2.1.2.2.2.1 x.2.2.2.2.2.1.2.2.2.2.1 x.2.2.2.2.2.1.2.2.2.2.2.1 x.2.2.2.2.2.1.2.2.2.2.2.2.1 x.2.2.2.2.2.1.2.2.2.2.2.2.2.1 x.2.2.2.2.2.1.2.2.2.2.2.2.2.2 x.2.2.2.2.2.2.1.1 x.2.2.2.2.2.2.2.1.1 x.2.2.2.2.2.2.1.2.1 x.2.2.2.2.2.2.1.2.2.1 x.2.2.2.2.2.2.1.2.2.2.1 x.2.2.2.2.2.2.1.2.2.2.2 x.2.2.2.2.2.2.2.1.2.1 x.2.2.2.2.2.2.2.1.2.2.1 x.2.2.2.2.2.2.2.1.2.2.2.1 x.2.2.2.2.2.2.2.1.2.2.2.2
  exact ⟨r1, u1, r2, u2, u3, C, K, hT, (hP.all u5).yards u6, u4, h0, h1, hN⟩
