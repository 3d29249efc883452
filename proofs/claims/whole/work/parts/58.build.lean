/-! ===== build ===== -/
def pdf (S : Nat) (pr : Nat → Nat) : Nat → Nat
  | 0 => 0
  | n + 1 => pdf S pr n + (if S.testBit n = true then pr n else 0)
theorem pdf_le {S : Nat} {pr : Nat → Nat} : ∀ n, (∀ s, s < n → pr s ≤ 99) → pdf S pr n ≤ 99 * n
  | 0, _ => Nat.le_refl _
  | n + 1, h => by
    have h1 := pdf_le (S := S) n (fun s hs => h s (by omega))
    have h2 := h n (Nat.lt_succ_self n)
    show pdf S pr n + (if S.testBit n = true then pr n else 0) ≤ 99 * (n + 1)
    split <;> omega
theorem paid4 {K N : Nat} (hK : K ≤ N) (hN : N ≤ 16) {S : Nat} (hS : S < 2 ^ 31) {pr : Nat → Nat} {P : Nat → Int32} (hP : ∀ s, s < K → P s = nI (pr s)) : ∀ n i, i ≤ K → K - i < n → f_Roads_paidFor_4 n (nI S) (nI (pdf S pr i)) (nI i) (nI K) N P = some (nI (pdf S pr K)) := by
  intro n
  induction n with
  | zero => intro i _ h; omega
  | succ n ih =>
    intro i hi hn
    rw [show f_Roads_paidFor_4 (n + 1) = b_Roads_paidFor_4 (f_Roads_paidFor_4 n) from rfl]
    unfold b_Roads_paidFor_4 f_Roads_paidFor_29
    by_cases c : i = K
    · subst c
      rw [if_pos (nI_le (Nat.le_refl _) (by omega))]
    · have h := ih (i + 1) (by omega) (by omega)
      rw [if_neg (nI_ge (by omega) (by omega)), gixN (show i < N by omega) (by omega), nIc (by omega), hP i (by omega)]
      simp only [nmI, nI_1, nI_add]
      by_cases z : S.testBit i = true
      · rw [if_neg (fun q => by rw [(chas_ok hS (by omega)).mp q] at z; cases z)]
        rw [show pdf S pr (i + 1) = pdf S pr i + pr i by show pdf S pr i + _ = _; rw [if_pos z]] at h
        exact h
      · rw [if_pos ((chas_ok hS (by omega)).mpr (by simpa using z))]
        rw [show pdf S pr (i + 1) = pdf S pr i by show pdf S pr i + _ = _; rw [if_neg z]; rfl] at h
        exact h
theorem paid_ok {K N : Nat} (hK : K ≤ N) (hN : N ≤ 16) {S : Nat} (hS : S < 2 ^ 31) {pr : Nat → Nat} {P : Nat → Int32} (hP : ∀ s, s < K → P s = nI (pr s)) : f_Roads_paidFor (nI S) (nI K) N P = some (nI (pdf S pr K)) := by
  unfold f_Roads_paidFor
  have hFU : 20 < FU := by rw [FU_eq]; decide
  generalize FU = M0 at hFU ⊢
  exact paid4 hK hN hS hP M0 0 (Nat.zero_le _) (by omega)
theorem CodS.mono {K K2 : Nat} {sh : Nat → Nat} {F : Nat → Int32} (S : CodS K sh F) (h : K ≤ K2) : CodS K2 sh F := fun s hs => ⟨(S s hs).1, (S s hs).2.1, fun z => (S s hs).2.2 (by omega)⟩
section Near
variable {C kd nn : Nat} {mk qu : Nat → Nat} {en : Nat → Int32} {market quay hasOdd oddM oddQ tw : Int32}
theorem tw_add {K : Nat} {fr to ya : Nat → Nat} {sf st sy mf mt my : Nat → Int32} (T : TW C K fr to ya mk qu kd nn sf st sy market quay hasOdd oddM oddQ mf mt my tw en) (h : K < 16) {a b y : Nat} (ha : a < C) (hb : b < C) (hab : a ≠ b) (hy1 : 1 ≤ y) (hy2 : y ≤ 99) :
    TW C (K + 1) (updN fr K a) (updN to K b) (updN ya K y) mk qu kd nn (upd sf K (nI a)) (upd st K (nI b)) (upd sy K (nI y)) market quay hasOdd oddM oddQ (upd mf K (nI a)) (upd mt K (nI b)) (upd my K (nI y)) tw en := by
  obtain ⟨hK, hC, G1, G2, E, M', hkd, hnn⟩ := T
  refine ⟨by omega, hC, ?_, ?_, E, M', hkd, hnn⟩
  · intro s hs
    by_cases e : s = K
    · subst e
      rw [pk_us, pk_us, pk_us, updN_self, updN_self, updN_self]
      exact ⟨rfl, rfl, rfl, ha, hb, hab, hy1, by omega⟩
    · rw [pk_un e, pk_un e, pk_un e, updN_ne _ _ e, updN_ne _ _ e, updN_ne _ _ e]
      exact G1 s (by omega)
  · intro s hs
    by_cases e : s = K
    · subst e
      rw [pk_us, pk_us, pk_us, updN_self, updN_self, updN_self]
      exact ⟨rfl, rfl, rfl, ha, hb, hab, hy1, by omega⟩
    · rw [pk_un e, pk_un e, pk_un e, updN_ne _ _ e, updN_ne _ _ e, updN_ne _ _ e]
      exact G2 s (by omega)
theorem lanes_sim {K0 ln : Nat} (hK12 : K0 ≤ 12) (hl : ln ≤ 4) {la lb lyn : Nat → Nat} {lf lt ly lane : Nat → Int32} (HL : ∀ l, l < ln → lf l = nI (la l) ∧ lt l = nI (lb l) ∧ ly l = nI (lyn l) ∧ lane (4 * l) = nI (la l) ∧ lane (4 * l + 1) = nI (lb l) ∧ lane (4 * l + 2) = nI (lyn l) ∧ la l < C ∧ lb l < C ∧ la l ≠ lb l ∧ 1 ≤ lyn l ∧ lyn l ≤ 99) {S : Nat} (hS : S < 2 ^ 31) (sh : Nat → Nat) (x2 x3 str wm : Int32) (ct d : Nat) (A L0 W0 : Nat → Int32) :
    ∀ (n l K : Nat) (fr to ya : Nat → Nat) (sf st sy sp mf mt my G : Nat → Int32), l ≤ ln → ln - l < n → TW C K fr to ya mk qu kd nn sf st sy market quay hasOdd oddM oddQ mf mt my tw en → K0 ≤ K → K ≤ K0 + l → CodS K0 sh G →
    ∃ (K2 : Nat) (fr2 to2 ya2 : Nat → Nat) (sf2 st2 sy2 sp2 mf2 mt2 my2 G2 : Nat → Int32), f_Plan_buildLanes_2 n (nI S) (nI l) (nI ln) (nI K) 4 lf 4 lt 4 ly 16 sf 16 st 16 sy 16 sp = some (nI K2, sf2, st2, sy2, sp2) ∧
      f_ShutWaysModel_isNear_7 n (nI S) x2 x3 (nI l) (nI C) str tw (nI kd) (nI nn) (nI ln) (nI ct) (nI d) (nI K) wm 17 A 16 G 16 mf 16 lane 16 mt 16 my 8 L0 4 en 16 W0 = f_ShutWaysModel_isNear_115 FU x2 x3 1 0 (nI C) str tw (nI kd) (nI nn) (nI ln) (nI ct) (nI d) (nI K2) wm 17 A 16 G2 16 mf2 16 lane 16 mt2 16 my2 8 L0 4 en 16 W0 ∧
      TW C K2 fr2 to2 ya2 mk qu kd nn sf2 st2 sy2 market quay hasOdd oddM oddQ mf2 mt2 my2 tw en ∧ K0 ≤ K2 ∧ CodS K0 sh G2 ∧ ∀ s, s < K0 → mf2 s = mf s ∧ mt2 s = mt s ∧ my2 s = my s := by
  intro n
  induction n with
  | zero => intro l K fr to ya sf st sy sp mf mt my G _ h; omega
  | succ n ih =>
    intro l K fr to ya sf st sy sp mf mt my G hi hn T hk1 hk2 hG
    rw [show f_Plan_buildLanes_2 (n + 1) = b_Plan_buildLanes_2 (f_Plan_buildLanes_2 n) from rfl, show f_ShutWaysModel_isNear_7 (n + 1) = b_ShutWaysModel_isNear_7 (f_ShutWaysModel_isNear_7 n) from rfl]
    unfold b_Plan_buildLanes_2 b_ShutWaysModel_isNear_7
    by_cases c : l = ln
    · subst c
      rw [if_pos (nI_le (Nat.le_refl _) (by omega)), if_pos (nI_le (Nat.le_refl _) (by omega))]
      exact ⟨K, fr, to, ya, sf, st, sy, sp, mf, mt, my, G, rfl, rfl, T, hk1, hG, fun s _ => ⟨rfl, rfl, rfl⟩⟩
    · obtain ⟨a1, a2, a3, a4, a5, a6, a7, a8, a9, a10, a11⟩ := HL l (by omega)
      unfold f_Plan_buildLanes_56 f_ShutWaysModel_isNear_103
      rw [if_neg (nI_ge (by omega) (by omega)), if_neg (nI_ge (by omega) (by omega)), mhas_ok hS (by omega), Option.bind_some]
      by_cases z : S.testBit l = true
      · have e4 : (4 : Int32) * nI l = nI (4 * l) := pk_mul 4 l
        have e5 : nI (4 * l) + 2 = nI (4 * l + 2) := nI_add (4 * l) 2
        rw [if_neg (fun q => by rw [(chas_ok hS (by omega)).mp q] at z; cases z), if_pos z, if_neg one_ne, e4, e5]
        simp only [f_Roads_add, nmI, nI_1, gixN (show l < 4 by omega) (by decide : 4 < 2 ^ 31), gixN (show K < 16 by omega) (by decide : 16 < 2 ^ 31), gixN (show 4 * l < 16 by omega) (by decide : 16 < 2 ^ 31), gixN (show 4 * l + 1 < 16 by omega) (by decide : 16 < 2 ^ 31), gixN (show 4 * l + 2 < 16 by omega) (by decide : 16 < 2 ^ 31), nIc (show l < 2 ^ 31 by omega), nIc (show K < 2 ^ 31 by omega), nIc (show 4 * l < 2 ^ 31 by omega), nIc (show 4 * l + 1 < 2 ^ 31 by omega), nIc (show 4 * l + 2 < 2 ^ 31 by omega), if_pos (nI_lt (show K < 16 by omega) (by decide : 16 < 2 ^ 31)), Option.bind_some, a1, a2, a3, a4, a5, a6]
        obtain ⟨K2, fr2, to2, ya2, sf2, st2, sy2, sp2, mf2, mt2, my2, G2, u1, u2, u3, u4, u5, u6⟩ := ih (l + 1) (K + 1) _ _ _ _ _ _ (upd sp K 1) _ _ _ (upd G K 0) (by omega) (by omega) (tw_add T (show K < 16 by omega) a7 a8 a9 a10 a11) (by omega) (by omega) (by
          intro s hs
          obtain ⟨b1, b2, b3⟩ := hG s hs
          by_cases e : s = K
          · subst e; rw [pk_us, b3 hk1]; exact ⟨Nat.zero_le _, rfl, fun _ => rfl⟩
          · rw [pk_un e]; exact ⟨b1, b2, b3⟩)
        refine ⟨K2, fr2, to2, ya2, sf2, st2, sy2, sp2, mf2, mt2, my2, G2, u1, u2, u3, u4, u5, fun s hs => ?_⟩
        obtain ⟨w1, w2, w3⟩ := u6 s hs
        rw [pk_un (by omega)] at w1 w2 w3
        exact ⟨w1, w2, w3⟩
      · rw [if_pos ((chas_ok hS (by omega)).mpr (by simpa using z)), if_neg z, if_pos rfl, nI_1]
        exact ih (l + 1) K fr to ya sf st sy sp mf mt my G (by omega) (by omega) T hk1 (by omega) hG
theorem near_sim {K : Nat} {fr to ya : Nat → Nat} {sf st sy mf mt my : Nat → Int32} (T : TW C K fr to ya mk qu kd nn sf st sy market quay hasOdd oddM oddQ mf mt my tw en) (ct : Nat) {N f ln : Nat} (hN : N ≤ 60) (hf : f ≤ 999) (g str dco dca dlc pco pma pqu pho pom poq pki pni pca psc lc : Int32) (tosh dsp dlf dlt dly dlp psf pst psy psp lf lt ly lp A lane : Nat → Int32) :
    ∀ (n i d : Nat) (sh : Nat → Nat) (F G : Nat → Int32) (wc ws wy wm : Int32) (far wst L0 W0 : Nat → Int32), i ≤ N → N - i + 1 < n → d + (N - i) ≤ 90000 → CodS K sh F → CodS K sh G →
    ∃ (r : Int32) (q1 : _) (wm' : Int32) (G' L' W' : Nat → Int32), f_ShutWays_isNeverFarWith_33 n (nI N) (nI f) (nI i) dco market quay hasOdd oddM oddQ (nI kd) (nI nn) dca pco pma pqu pho pom poq pki pni pca (nI K) psc 16 psf 16 pst 16 psy 16 psp 16 sf 16 st 16 sy 16 dsp dlc lc 4 lf 4 lt 4 ly 4 lp 4 dlf 4 dlt 4 dly 4 dlp (nI d) g 16 tosh 16 F wc ws wy 8 far 8 wst = some (r, q1) ∧
      f_ShutWaysModel_isNear_115 n (nI N) (nI f) 1 (nI i) (nI C) str tw (nI kd) (nI nn) (nI ln) (nI ct) (nI d) (nI K) wm 17 A 16 G 16 mf 16 lane 16 mt 16 my 8 L0 4 en 16 W0 = some (r, A 16, str, wm', A, G', mf, mt, my, L', W') ∧ (r = 0 ∨ r = 1) ∧ ∀ s, s < 16 → G' s = A s := by
  obtain ⟨hK, hC, G1, G2, E, M, hkd, hnn⟩ := T
  have f1 : FARn = 1000000 := rfl
  intro n
  induction n with
  | zero => intro i d sh F G wc ws wy wm far wst L0 W0 _ h; omega
  | succ n ih =>
    intro i d sh F G wc ws wy wm far wst L0 W0 hi hn hd S1 S2
    rw [show f_ShutWays_isNeverFarWith_33 (n + 1) = b_ShutWays_isNeverFarWith_33 (f_ShutWays_isNeverFarWith_33 n) from rfl, show f_ShutWaysModel_isNear_115 (n + 1) = b_ShutWaysModel_isNear_115 (f_ShutWaysModel_isNear_115 n) from rfl]
    unfold b_ShutWays_isNeverFarWith_33 b_ShutWaysModel_isNear_115
    by_cases c : i = N
    · obtain ⟨B, u1, u2⟩ := putBack_ok str (nI d) (nI K) A G
      unfold f_ShutWaysModel_isNear_157
      rw [if_pos (nI_le (by omega) (by omega)), if_pos (nI_le (by omega) (by omega)), u1, Option.bind_some]
      exact ⟨1, _, _, _, _, _, rfl, rfl, Or.inr rfl, u2⟩
    · obtain ⟨F', far', wst', w1, w2, w3, w4, w5, w6, w7⟩ := pass_ok hK hC G1 S1 E hkd hnn (show d < 100000 by omega) wc ws wy far wst
      obtain ⟨L', G', W', v1, v2, v3⟩ := goNight_ok hK hC G2 S2 E M hkd hnn (show d < 100000 by omega) w3 w5 ct wm L0 W0
      rw [if_neg (nI_ge (by omega) (by omega)), if_neg (nI_ge (by omega) (by omega)), if_neg one_ne, w1, v1, Option.bind_some, Option.bind_some]
      dsimp only
      rw [there_ok w3, Option.bind_some]
      unfold f_ShutWays_isNeverFarWith_73 f_ShutWaysModel_isNear_148 f_ShutWaysModel_isNear_149
      have stop : ∃ wm' G2 L2 W2, f_ShutWaysModel_isNear_115 n (nI N) (nI f) 0 (nI i + 1) (nI C) str tw (nI kd) (nI nn) (nI ln) (nI ct) (nI (d + 1)) (nI K) (nI (dw fr to ya K mk qu sh d).length) 17 A 16 G' 16 mf 16 lane 16 mt 16 my 8 L' 4 en 16 W' = some (0, A 16, str, wm', A, G2, mf, mt, my, L2, W2) ∧ ∀ s, s < 16 → G2 s = A s := by
        obtain ⟨n', rfl⟩ : ∃ n', n = n' + 1 := ⟨n - 1, by omega⟩
        obtain ⟨B, u1, u2⟩ := putBack_ok str (nI (d + 1)) (nI K) A G'
        rw [show f_ShutWaysModel_isNear_115 (n' + 1) = b_ShutWaysModel_isNear_115 (f_ShutWaysModel_isNear_115 n') from rfl]
        unfold b_ShutWaysModel_isNear_115 f_ShutWaysModel_isNear_157
        rw [if_pos rfl, ite_self, u1, Option.bind_some]
        exact ⟨_, _, _, _, rfl, u2⟩
      by_cases z : dw fr to ya K mk qu sh d = []
      · rw [if_pos z, if_pos rfl, if_pos ((yI_m1 w7).mpr z)]
        obtain ⟨wm', G2, L2, W2, p1, p2⟩ := stop
        rw [p1]
        exact ⟨0, _, _, _, _, _, rfl, rfl, Or.inl rfl, p2⟩
      · have hyf : dy fr to ya K mk qu sh d < FARn := Classical.byContradiction (fun q => z (w7.mpr q))
        have hy : yI (dy fr to ya K mk qu sh d) = nI (dy fr to ya K mk qu sh d) := if_pos hyf
        rw [if_neg z, if_neg one_ne, if_neg (fun q => z ((yI_m1 w7).mp q)), hy]
        by_cases q : dy fr to ya K mk qu sh d ≤ f
        · rw [if_pos (nI_le q (by omega)), if_neg (nI_nlt q (by omega)), nI_1]
          exact ih (i + 1) (d + 1) _ F' G' _ _ _ _ _ _ _ _ (by omega) (by omega) (by omega) w2 v2
        · rw [if_neg (nI_ge (by omega) (by omega)), if_pos (nI_lt (by omega) (by omega))]
          obtain ⟨wm', G2, L2, W2, p1, p2⟩ := stop
          rw [p1]
          exact ⟨0, _, _, _, _, _, rfl, rfl, Or.inl rfl, p2⟩
/-- lanes as numbers -/
def LN (C ln : Nat) (la lb lyn lpn : Nat → Nat) (lf lt ly lp lane : Nat → Int32) : Prop := ∀ l, l < ln → lf l = nI (la l) ∧ lt l = nI (lb l) ∧ ly l = nI (lyn l) ∧ lp l = nI (lpn l) ∧ lane (4 * l) = nI (la l) ∧ lane (4 * l + 1) = nI (lb l) ∧ lane (4 * l + 2) = nI (lyn l) ∧ lane (4 * l + 3) = nI (lpn l) ∧ la l < C ∧ lb l < C ∧ la l ≠ lb l ∧ 1 ≤ lyn l ∧ lyn l ≤ 99 ∧ lpn l ≤ 99
theorem near_core {K ln : Nat} {fr to ya la lb lyn lpn sh : Nat → Nat} {sf st sy sp lf lt ly lp shut mf mt my G lane : Nat → Int32} (T : TW C K fr to ya mk qu kd nn sf st sy market quay hasOdd oddM oddQ mf mt my tw en) (hK12 : K ≤ 12) (hl : ln ≤ 4) (HL : LN C ln la lb lyn lpn lf lt ly lp lane) (ho : hasOdd = 0 ∨ hasOdd = 1) {S N f d : Nat} (hS : S < 2 ^ 31) (hN : N ≤ 60) (hf : f ≤ 999) (hd : d ≤ 9999) (S1 : CodS K sh shut) (S2 : CodS K sh G) (ct : Nat) (corners cart tg wc ws wy wm : Int32) (tsh far wst A L0 W0 : Nat → Int32) (dco dma dqu dho dom doq dki dni dca dsc dlc : Int32) (dsf dst dsy dsp dlf dlt dly dlp : Nat → Int32) :
    ∃ (r : Int32) (q1 : _) (wm' : Int32) (A' G' F' T' Y' L' W' : Nat → Int32), f_ShutWays_isNeverFarWith (nI S) (nI N) (nI f) dco dma dqu dho dom doq dki dni dca corners market quay hasOdd oddM oddQ (nI kd) (nI nn) cart dsc (nI K) 16 sf 16 st 16 sy 16 sp 16 dsf 16 dst 16 dsy 16 dsp dlc (nI ln) 4 lf 4 lt 4 ly 4 lp 4 dlf 4 dlt 4 dly 4 dlp tg (nI d) 16 shut 16 tsh wc ws wy 8 far 8 wst = some (r, q1) ∧
      f_ShutWaysModel_isNear (nI S) (nI N) (nI f) (nI C) (nI K) tw (nI kd) (nI nn) (nI ln) (nI ct) (nI d) (nI K) wm 17 A 16 G 16 mf 16 lane 16 mt 16 my 8 L0 4 en 16 W0 = some (r, nI d, nI K, wm', A', G', F', T', Y', L', W') ∧ (r = 0 ∨ r = 1) ∧ (∀ s, s < 16 → G' s = G s) ∧ ∀ s, s < K → F' s = mf s ∧ T' s = mt s ∧ Y' s = my s := by
  have hFU : 2000 < FU := by rw [FU_eq]; decide
  obtain ⟨f', t', y', p', f2, t2, y2, p2, q1, q2, q3⟩ := pcopy_ok hK12 hl corners market quay hasOdd oddM oddQ (nI kd) (nI nn) cart sf st sy sp lf lt ly lp ho dco dma dqu dho dom doq dki dni dca dsc dsf dst dsy dsp dlc dlf dlt dly dlp
  obtain ⟨A', a2, a3, a4⟩ := aside_ok (nI d) A G
  obtain ⟨H, c1, c2⟩ := copy_ok tg (nI d) shut tsh
  have T2 : TW C K fr to ya mk qu kd nn f' t' y' market quay hasOdd oddM oddQ mf mt my tw en := by
    obtain ⟨hK, hC, G1, G2, E, M, hkd, hnn⟩ := T
    refine ⟨hK, hC, ?_, G2, E, M, hkd, hnn⟩
    intro s hs
    obtain ⟨a1, a2, a3, a4⟩ := G1 s hs
    obtain ⟨b1, b2, b3, b4⟩ := q2 s hs
    exact ⟨b1.trans a1, b2.trans a2, b3.trans a3, a4⟩
  obtain ⟨K2, fr2, to2, ya2, sf2, st2, sy2, sp2, mf2, mt2, my2, G2, u1, u2, u3, u4, u5, u6⟩ := lanes_sim (lf := f2) (lt := t2) (ly := y2) (lane := lane) (la := la) (lb := lb) (lyn := lyn) hK12 hl (by
    intro l h
    obtain ⟨b1, b2, b3, b4, b5, b6, b7, b8, b9, b10, b11, b12, b13, b14⟩ := HL l h
    obtain ⟨c1, c2, c3, c4⟩ := q3 l h
    exact ⟨c1.trans b1, c2.trans b2, c3.trans b3, b5, b6, b7, b9, b10, b11, b12, b13⟩) hS sh (nI N) (nI f) (nI K) wm ct d A' L0 W0 FU 0 K fr to ya f' t' y' p' mf mt my G (Nat.zero_le _) (by omega) T2 (Nat.le_refl _) (Nat.le_refl _) S2
  rw [nI_0] at u1 u2
  unfold f_ShutWays_isNeverFarWith f_ShutWaysModel_isNear f_Plan_buildLanes
  rw [q1, a2, Option.bind_some, Option.bind_some, u2]
  dsimp only
  rw [u1, c1, Option.bind_some, Option.bind_some]
  dsimp only
  clear u1 u2
  generalize FU = M0 at hFU ⊢
  obtain ⟨r, q4, wm', G', L', W', v1, v2, v3, v4⟩ := near_sim u3 ct (ln := ln) hN hf (nI d) (nI K) corners cart (nI ln) corners market quay hasOdd oddM oddQ (nI kd) (nI nn) cart (nI K) (nI ln) shut sp2 f2 t2 y2 p2 sf st sy sp lf lt ly lp A' lane M0 0 d sh H G2 wc ws wy wm far wst L0 W0 (Nat.zero_le _) (by omega) (by omega) ((S1.congr c2).mono u4) (u5.mono u4)
  rw [nI_0] at v1 v2
  rw [a3] at v2
  exact ⟨r, q4, wm', A', G', mf2, mt2, my2, L', W', v1, v2, v3, fun s hs => (v4 s hs).trans (a4 s hs), u6⟩
theorem cost59 {K ln : Nat} (hl : ln ≤ 4) {lpn : Nat → Nat} {lane : Nat → Int32} (HL : ∀ l, l < ln → lane (4 * l + 3) = nI (lpn l)) {S : Nat} (hS : S < 2 ^ 31) (k42 : _) (x1 x2 x3 x4 x5 str wm da : Int32) (ct : Nat) (A G mf mt my L0 W0 : Nat → Int32) :
    ∀ n i, i ≤ ln → ln - i < n → f_ShutWaysModel_build_59 k42 n x1 x2 x3 x4 x5 (nI S) (nI (pdf S lpn i)) (nI i) (nI C) str tw (nI kd) (nI nn) (nI ln) (nI ct) da (nI K) wm 16 lane 17 A 16 G 16 mf 16 mt 16 my 8 L0 4 en 16 W0 =
      if x4 = (-1) then f_ShutWaysModel_build_117 k42 x1 x2 x3 x4 x5 (nI S) (nI (pdf S lpn ln)) (nI C) str tw (nI kd) (nI nn) (nI ln) (nI ct) da (nI K) wm 16 lane 17 A 16 G 16 mf 16 mt 16 my 8 L0 4 en 16 W0 else if x5 ≤ nI (pdf S lpn ln) then f_ShutWaysModel_build_136 k42 x1 x2 x3 x4 x5 (nI S) (nI C) str tw (nI kd) (nI nn) (nI ln) (nI ct) da (nI K) wm 16 lane 17 A 16 G 16 mf 16 mt 16 my 8 L0 4 en 16 W0 else f_ShutWaysModel_build_117 k42 x1 x2 x3 x4 x5 (nI S) (nI (pdf S lpn ln)) (nI C) str tw (nI kd) (nI nn) (nI ln) (nI ct) da (nI K) wm 16 lane 17 A 16 G 16 mf 16 mt 16 my 8 L0 4 en 16 W0 := by
  intro n
  induction n with
  | zero => intro i _ h; omega
  | succ n ih =>
    intro i hi hn
    rw [show f_ShutWaysModel_build_59 k42 (n + 1) = b_ShutWaysModel_build_59 k42 (f_ShutWaysModel_build_59 k42 n) from rfl]
    unfold b_ShutWaysModel_build_59
    by_cases c : i = ln
    · subst c
      rw [if_pos (nI_le (Nat.le_refl _) (by omega))]
    · have h := ih (i + 1) (by omega) (by omega)
      have e4 : (4 : Int32) * nI i + 3 = nI (4 * i + 3) := by
        rw [show (4 : Int32) * nI i = nI (4 * i) from pk_mul 4 i]
        exact nI_add (4 * i) 3
      unfold f_ShutWaysModel_build_95
      rw [if_neg (nI_ge (by omega) (by omega)), mhas_ok hS (by omega), Option.bind_some, e4, gixN (show 4 * i + 3 < 16 by omega) (by decide), nIc (by omega), HL i (by omega), nI_add, nI_1]
      by_cases z : S.testBit i = true
      · rw [if_pos z, if_neg one_ne]
        rw [show pdf S lpn (i + 1) = pdf S lpn i + lpn i by show pdf S lpn i + _ = _; rw [if_pos z]] at h
        exact h
      · rw [if_neg z, if_pos rfl, Int32.add_zero]
        rw [show pdf S lpn (i + 1) = pdf S lpn i by show pdf S lpn i + _ = _; rw [if_neg z]; rfl] at h
        exact h
theorem tw_cong {K : Nat} {fr to ya : Nat → Nat} {sf st sy mf mt my mf' mt' my' : Nat → Int32} (T : TW C K fr to ya mk qu kd nn sf st sy market quay hasOdd oddM oddQ mf mt my tw en) (h : ∀ s, s < K → mf' s = mf s ∧ mt' s = mt s ∧ my' s = my s) : TW C K fr to ya mk qu kd nn sf st sy market quay hasOdd oddM oddQ mf' mt' my' tw en := by
  obtain ⟨hK, hC, G1, G2, E, M, hkd, hnn⟩ := T
  refine ⟨hK, hC, G1, ?_, E, M, hkd, hnn⟩
  intro s hs
  obtain ⟨a1, a2, a3, a4⟩ := G2 s hs
  obtain ⟨b1, b2, b3⟩ := h s hs
  exact ⟨b1.trans a1, b2.trans a2, b3.trans a3, a4⟩
/-- best and price on both sides -/
def Bst (b c b2 c2 : Int32) : Prop := (b = -1 ∧ c = 100000 ∧ b2 = -1) ∨ ∃ v w : Nat, v < 2 ^ 20 ∧ w < 100000 ∧ b = nI v ∧ b2 = nI v ∧ c = nI w ∧ c2 = nI w
theorem build_sim {K ln : Nat} {fr to ya la lb lyn lpn sh : Nat → Nat} {sf st sy sp lf lt ly lp shut mf0 mt0 my0 G0 lane : Nat → Int32} (T : TW C K fr to ya mk qu kd nn sf st sy market quay hasOdd oddM oddQ mf0 mt0 my0 tw en) (hK12 : K ≤ 12) (hl : ln ≤ 4) (HL : LN C ln la lb lyn lpn lf lt ly lp lane) (ho : hasOdd = 0 ∨ hasOdd = 1) {N f d : Nat} (hN : N ≤ 60) (hf : f ≤ 999) (hd : d ≤ 9999) (S1 : CodS K sh shut) (S2 : CodS K sh G0) (ct : Nat) (corners cart a3 : Int32) (ha3 : a3 = 0 ∨ a3 = 1) :
    ∀ (n S : Nat) (b c b2 c2 tg wc ws wy wm : Int32) (tsh far wst A L0 W0 mf mt my G : Nat → Int32) (dco dma dqu dho dom doq dki dni dca dsc dlc : Int32) (dsf dst dsy dsp dlf dlt dly dlp : Nat → Int32), S ≤ 2 ^ ln → 2 ^ ln - S < n → Bst b c b2 c2 → (∀ s, s < 16 → G s = G0 s) → (∀ s, s < K → mf s = mf0 s ∧ mt s = mt0 s ∧ my s = my0 s) →
    ∃ (r : Int32) (q1 : _) (wm' : Int32) (A' G' F' T' Y' L' W' : Nat → Int32), f_ShutWays_build_43 n (nI N) (nI f) a3 b c (nI S) corners market quay hasOdd oddM oddQ (nI kd) (nI nn) cart (nI ln) 4 lp dco dma dqu dho dom doq dki dni dca dsc (nI K) 16 sf 16 st 16 sy 16 sp 16 dsf 16 dst 16 dsy 16 dsp dlc 4 lf 4 lt 4 ly 4 dlf 4 dlt 4 dly 4 dlp tg (nI d) 16 shut 16 tsh wc ws wy 8 far 8 wst = some (r, q1) ∧
      f_ShutWaysModel_build_42 n (nI N) (nI f) a3 b2 c2 (nI S) (nI C) (nI K) tw (nI kd) (nI nn) (nI ln) (nI ct) (nI d) (nI K) wm 16 lane 17 A 16 G 16 mf 16 mt 16 my 8 L0 4 en 16 W0 = some (r, nI d, nI K, wm', A', G', F', T', Y', L', W') ∧ (∀ s, s < 16 → G' s = G0 s) ∧ ∀ s, s < K → F' s = mf0 s ∧ T' s = mt0 s ∧ Y' s = my0 s := by
  have hFU : 2000 < FU := by rw [FU_eq]; decide
  have hp : 2 ^ ln ≤ 16 := Nat.pow_le_pow_right (by decide) hl
  intro n
  induction n with
  | zero => intro S b c b2 c2 tg wc ws wy wm tsh far wst A L0 W0 mf mt my G dco dma dqu dho dom doq dki dni dca dsc dlc dsf dst dsy dsp dlf dlt dly dlp _ h; omega
  | succ n ih =>
    intro S b c b2 c2 tg wc ws wy wm tsh far wst A L0 W0 mf mt my G dco dma dqu dho dom doq dki dni dca dsc dlc dsf dst dsy dsp dlf dlt dly dlp hS hn hB hG hm
    rw [show f_ShutWays_build_43 (n + 1) = b_ShutWays_build_43 (f_ShutWays_build_43 n) from rfl, show f_ShutWaysModel_build_42 (n + 1) = b_ShutWaysModel_build_42 (f_ShutWaysModel_build_42 n) from rfl]
    unfold b_ShutWays_build_43 b_ShutWaysModel_build_42
    rw [nI_bit ln (by omega)]
    by_cases cS : S = 2 ^ ln
    · rw [if_pos (nI_le (by omega) (by omega)), if_pos (nI_le (by omega) (by omega))]
      unfold f_ShutWays_build_125 f_ShutWaysModel_build_153 f_ShutWaysModel_build_160
      rcases hB with ⟨rfl, rfl, rfl⟩ | ⟨v, w, v1, v2, rfl, rfl, rfl, rfl⟩
      · rw [if_pos rfl, if_pos rfl]
        exact ⟨_, _, _, _, _, _, _, _, _, _, rfl, rfl, hG, hm⟩
      · rw [if_neg (nI_m1 (by omega)), if_neg (nI_m1 (by omega))]
        rcases ha3 with rfl | rfl
        · rw [if_pos rfl, if_neg (by decide)]
          exact ⟨_, _, _, _, _, _, _, _, _, _, rfl, rfl, hG, hm⟩
        · rw [if_neg one_ne, if_pos rfl]
          exact ⟨_, _, _, _, _, _, _, _, _, _, rfl, rfl, hG, hm⟩
    · have hS' : S < 2 ^ 31 := by omega
      have hcost : pdf S lpn ln ≤ 99 * ln := pdf_le ln (fun s hs => (HL s hs).2.2.2.2.2.2.2.2.2.2.2.2.2)
      generalize FU = M0 at hFU ⊢
      have k := cost59 (C := C) (K := K) (kd := kd) (nn := nn) (en := en) (tw := tw) hl (fun l h => (HL l h).2.2.2.2.2.2.2.1) hS' (f_ShutWaysModel_build_42 n) (nI N) (nI f) a3 b2 c2 (nI K) wm (nI d) ct A G mf mt my L0 W0 M0 0 (Nat.zero_le _) (by omega)
      rw [show nI (pdf S lpn 0) = 0 from rfl, nI_0] at k
      rw [if_neg (nI_ge (by omega) (by omega)), if_neg (nI_ge (by omega) (by omega)), k, paid_ok hl (by decide) hS' (fun l h => (HL l h).2.2.2.1), Option.bind_some]
      unfold f_ShutWays_build_100 f_ShutWaysModel_build_117 f_ShutWaysModel_build_136
      rcases id hB with ⟨b1, b2', b3⟩ | ⟨v, w, v1, v2, v3, v4, v5, v6⟩
      · rw [b2', if_neg (show ¬ (100000 : Int32) ≤ nI (pdf S lpn ln) from nI_ge (b := 100000) (by omega) (by decide)), if_pos b3]
        obtain ⟨r, q1, wm', A', G', F', T', Y', L', W', u1, u2, u3, u4, u5⟩ := near_core (tw_cong T hm) hK12 hl HL ho hS' hN hf hd S1 (S2.congr hG) ct corners cart tg wc ws wy wm tsh far wst A L0 W0 dco dma dqu dho dom doq dki dni dca dsc dlc dsf dst dsy dsp dlf dlt dly dlp
        rw [u1, u2, Option.bind_some, Option.bind_some]
        dsimp only
        rcases u3 with rfl | rfl
        · rw [if_pos rfl, if_pos rfl, nI_1]
          exact ih (S + 1) _ _ _ _ _ _ _ _ _ _ _ _ _ _ _ _ _ _ _ _ _ _ _ _ _ _ _ _ _ _ _ _ _ _ _ _ _ _ (by omega) (by omega) (Or.inl ⟨b1, rfl, b3⟩) (fun s hs => (u4 s hs).trans (hG s hs)) (fun s hs => ⟨(u5 s hs).1.trans (hm s hs).1, (u5 s hs).2.1.trans (hm s hs).2.1, (u5 s hs).2.2.trans (hm s hs).2.2⟩)
        · rw [if_neg one_ne, if_neg one_ne, nI_1]
          exact ih (S + 1) _ _ _ _ _ _ _ _ _ _ _ _ _ _ _ _ _ _ _ _ _ _ _ _ _ _ _ _ _ _ _ _ _ _ _ _ _ _ (by omega) (by omega) (Or.inr ⟨S, pdf S lpn ln, by omega, by omega, rfl, rfl, rfl, rfl⟩) (fun s hs => (u4 s hs).trans (hG s hs)) (fun s hs => ⟨(u5 s hs).1.trans (hm s hs).1, (u5 s hs).2.1.trans (hm s hs).2.1, (u5 s hs).2.2.trans (hm s hs).2.2⟩)
      · rw [v5, v6, if_neg (show ¬ b2 = -1 by rw [v4]; exact nI_m1 (by omega))]
        by_cases q : w ≤ pdf S lpn ln
        · rw [if_pos (nI_le q (by omega)), if_pos (nI_le q (by omega)), nI_1]
          exact ih (S + 1) _ _ _ _ _ _ _ _ _ _ _ _ _ _ _ _ _ _ _ _ _ _ _ _ _ _ _ _ _ _ _ _ _ _ _ _ _ _ (by omega) (by omega) (Or.inr ⟨v, w, v1, v2, v3, v4, rfl, rfl⟩) hG hm
        · rw [if_neg (nI_ge (by omega) (by omega)), if_neg (nI_ge (by omega) (by omega))]
          obtain ⟨r, q1, wm', A', G', F', T', Y', L', W', u1, u2, u3, u4, u5⟩ := near_core (tw_cong T hm) hK12 hl HL ho hS' hN hf hd S1 (S2.congr hG) ct corners cart tg wc ws wy wm tsh far wst A L0 W0 dco dma dqu dho dom doq dki dni dca dsc dlc dsf dst dsy dsp dlf dlt dly dlp
          rw [u1, u2, Option.bind_some, Option.bind_some]
          dsimp only
          rcases u3 with rfl | rfl
          · rw [if_pos rfl, if_pos rfl, nI_1]
            exact ih (S + 1) _ _ _ _ _ _ _ _ _ _ _ _ _ _ _ _ _ _ _ _ _ _ _ _ _ _ _ _ _ _ _ _ _ _ _ _ _ _ (by omega) (by omega) (Or.inr ⟨v, w, v1, v2, v3, v4, rfl, rfl⟩) (fun s hs => (u4 s hs).trans (hG s hs)) (fun s hs => ⟨(u5 s hs).1.trans (hm s hs).1, (u5 s hs).2.1.trans (hm s hs).2.1, (u5 s hs).2.2.trans (hm s hs).2.2⟩)
          · rw [if_neg one_ne, if_neg one_ne, nI_1]
            exact ih (S + 1) _ _ _ _ _ _ _ _ _ _ _ _ _ _ _ _ _ _ _ _ _ _ _ _ _ _ _ _ _ _ _ _ _ _ _ _ _ _ (by omega) (by omega) (Or.inr ⟨S, pdf S lpn ln, by omega, by omega, rfl, rfl, rfl, rfl⟩) (fun s hs => (u4 s hs).trans (hG s hs)) (fun s hs => ⟨(u5 s hs).1.trans (hm s hs).1, (u5 s hs).2.1.trans (hm s hs).2.1, (u5 s hs).2.2.trans (hm s hs).2.2⟩)
end Near
section Core8
variable {C K : Nat} {corners market quay hasOdd oddM oddQ kind nights cart sc : Int32} {sf st sy sp : Nat → Int32} {lc : Int32} {lf lt ly lp : Nat → Int32} {mcorners mstreets mtwice mcouncil mnights mlanes mcart mall : Int32} {mfrom mto myards mprice mend mlane : Nat → Int32} {gone mday : Int32} {shut mshut : Nat → Int32}
theorem IPlan.ln (hP : IPlan C K corners market quay hasOdd oddM oddQ kind nights cart sc sf st sy sp lc lf lt ly lp mcorners mstreets mtwice mcouncil mnights mlanes mcart mall mfrom mto myards mprice mend mlane) : ∃ (ln : Nat) (la lb lyn lpn : Nat → Nat), ln ≤ 4 ∧ lc = nI ln ∧ mlanes = nI ln ∧ LN C ln la lb lyn lpn lf lt ly lp mlane := by
  obtain ⟨⟨-, c8, -⟩, -, -, -, ⟨ln, hl, e1, e2, hr⟩, -⟩ := hP
  refine ⟨ln, fun l => (lf l).toNatClampNeg, fun l => (lt l).toNatClampNeg, fun l => (ly l).toNatClampNeg, fun l => (lp l).toNatClampNeg, hl, e1, e2, ?_⟩
  intro l h
  obtain ⟨a, b, y, p, h1, h2, h3, h4, h5, h6, g1, g2, g3, g4, g5, g6, g7, g8⟩ := hr l h
  simp only [g1, g2, g3, g4, g5, g6, g7, g8, nIc (show a < 2 ^ 31 by omega), nIc (show b < 2 ^ 31 by omega), nIc (show y < 2 ^ 31 by omega), nIc (show p < 2 ^ 31 by omega)]
  exact ⟨trivial, trivial, trivial, trivial, trivial, trivial, trivial, trivial, h1, h2, h3, h4, h5, h6⟩
theorem IPlan.rows (hP : IPlan C K corners market quay hasOdd oddM oddQ kind nights cart sc sf st sy sp lc lf lt ly lp mcorners mstreets mtwice mcouncil mnights mlanes mcart mall mfrom mto myards mprice mend mlane) {F' T' Y' : Nat → Int32} (h : ∀ s, s < K → F' s = mfrom s ∧ T' s = mto s ∧ Y' s = myards s) : IPlan C K corners market quay hasOdd oddM oddQ kind nights cart sc sf st sy sp lc lf lt ly lp mcorners mstreets mtwice mcouncil mnights mlanes mcart mall F' T' Y' mprice mend mlane := by
  obtain ⟨h1, h2, h3, h4, h5⟩ := hP
  refine ⟨h1, h2, h3, fun s hs => ?_, h5⟩
  obtain ⟨g1, g2, g3⟩ := h s hs
  rw [g1, g2, g3]
  exact h4 s hs
theorem build_core (hP : IPlan C K corners market quay hasOdd oddM oddQ kind nights cart sc sf st sy sp lc lf lt ly lp mcorners mstreets mtwice mcouncil mnights mlanes mcart mall mfrom mto myards mprice mend mlane) (hD : IDays K gone shut mday mshut) (a1 a2 a3 tg wc ws wy wm : Int32) (tsh far wst A L0 W0 : Nat → Int32) (dco dma dqu dho dom doq dki dni dca dsc dlc : Int32) (dsf dst dsy dsp dlf dlt dly dlp : Nat → Int32) :
    ∃ r1, f_ShutWays_build a1 a2 a3 corners market quay hasOdd oddM oddQ kind nights cart lc 4 lp dco dma dqu dho dom doq dki dni dca dsc sc 16 sf 16 st 16 sy 16 sp 16 dsf 16 dst 16 dsy 16 dsp dlc 4 lf 4 lt 4 ly 4 dlf 4 dlt 4 dly 4 dlp tg gone 16 shut 16 tsh wc ws wy 8 far 8 wst = some r1 ∧ ∃ r2, f_ShutWaysModel_build a1 a2 a3 mcorners mstreets mtwice mcouncil mnights mlanes mcart mday mall wm 16 mlane 17 A 16 mshut 16 mfrom 16 mto 16 myards 8 L0 4 mend 16 W0 = some r2 ∧ r1.1 = r2.1 ∧ IDays K gone shut r2.2.1 r2.2.2.2.2.2.1 ∧ r2.2.2.1 = nI K ∧ ∀ s, s < K → r2.2.2.2.2.2.2.1 s = mfrom s ∧ r2.2.2.2.2.2.2.2.1 s = mto s ∧ r2.2.2.2.2.2.2.2.2.1 s = myards s := by
  obtain ⟨fr, to, ya, mk, qu, kd, nn, ct, T, e1, e2, e3, e4, -, e6, -⟩ := hP.tw
  have ho := hP.odd
  obtain ⟨ln, la, lb, lyn, lpn, hl, e14, e15, HL⟩ := hP.ln
  obtain ⟨⟨-, -, h12⟩, ⟨-, e8⟩, ⟨e9, e10, e11⟩, -⟩ := hP
  obtain ⟨d, sh, hd, e12, e13, S1, S2⟩ := id hD.g
  subst e1; subst e2; subst e3; subst e4; subst e6; subst e8; subst e9; subst e10; subst e11; subst e12; subst e13; subst e14; subst e15
  have hFU : 2000 < FU := by rw [FU_eq]; decide
  unfold f_ShutWays_build f_ShutWaysModel_build f_ShutWays_build_30 f_ShutWaysModel_build_30
  generalize FU = M0 at hFU ⊢
  rw [outside_ok, in_ok, Option.bind_some, Option.bind_some]
  by_cases c1 : a1 < 1 ∨ 60 < a1
  · rw [if_pos c1, if_pos c1, if_neg one_ne, if_pos rfl]
    exact ⟨_, rfl, _, rfl, rfl, hD, rfl, fun _ _ => ⟨rfl, rfl, rfl⟩⟩
  · rw [if_neg c1, if_neg c1, if_pos rfl, if_neg one_ne, outside_ok, in_ok, Option.bind_some, Option.bind_some]
    by_cases c2 : a2 < 1 ∨ 999 < a2
    · rw [if_pos c2, if_pos c2, if_neg one_ne, if_pos rfl]
      exact ⟨_, rfl, _, rfl, rfl, hD, rfl, fun _ _ => ⟨rfl, rfl, rfl⟩⟩
    · rw [if_neg c2, if_neg c2, if_pos rfl, if_neg one_ne, outside_ok, in_ok, Option.bind_some, Option.bind_some]
      by_cases c3 : a3 < 0 ∨ 1 < a3
      · rw [if_pos c3, if_pos c3, if_neg one_ne, if_pos rfl]
        exact ⟨_, rfl, _, rfl, rfl, hD, rfl, fun _ _ => ⟨rfl, rfl, rfl⟩⟩
      · rw [if_neg c3, if_neg c3, if_pos rfl, if_neg one_ne]
        obtain ⟨N, n1, n2, rfl⟩ := i32_rng (v := a1) (a := 1) (b := 60) (by decide) (by decide) c1
        obtain ⟨f, f1, f2, rfl⟩ := i32_rng (v := a2) (a := 1) (b := 999) (by decide) (by decide) c2
        have ha3 : a3 = 0 ∨ a3 = 1 := by
          obtain ⟨k, k1, k2, rfl⟩ := i32_rng (v := a3) (a := 0) (b := 1) (by decide) (by decide) c3
          rcases (show k = 0 ∨ k = 1 by omega) with rfl | rfl
          · exact Or.inl rfl
          · exact Or.inr rfl
        have hp : 2 ^ ln ≤ 16 := Nat.pow_le_pow_right (by decide) hl
        obtain ⟨r, q1, wm', A', G', F', T', Y', L', W', u1, u2, u3, u4⟩ := build_sim T h12 hl HL ho n2 f2 hd S1 S2 ct corners cart a3 ha3 M0 0 (-1) 100000 (-1) 0 tg wc ws wy wm tsh far wst A L0 W0 mfrom mto myards mshut dco dma dqu dho dom doq dki dni dca dsc dlc dsf dst dsy dsp dlf dlt dly dlp (Nat.zero_le _) (by omega) (Or.inl ⟨rfl, rfl, rfl⟩) (fun _ _ => rfl) (fun _ _ => ⟨rfl, rfl, rfl⟩)
        rw [nI_0] at u1 u2
        exact ⟨_, u1, _, u2, rfl, IDays.of hd S1 (S2.congr u3), rfl, u4⟩
end Core8
theorem pl_build : PL_build INV := by
  intro x m a1 a2 a3 hI
  obtain ⟨C, K, hT, hP, hD, h0, h1, hN⟩ := hI
  obtain ⟨r1, u1, r2, u2, u3, u4, u5, u6⟩ := build_core hP hD a1 a2 a3 x.2.2.2.2.2.2.2.2.2.1.1 x.2.2.2.2.2.2.2.2.2.2.2.2.2.2.2.2.2.2.1.1 x.2.2.2.2.2.2.2.2.2.2.2.2.2.2.2.2.2.2.1.2.1 x.2.2.2.2.2.2.2.2.2.2.2.2.2.2.2.2.2.2.1.2.2.1 m.1.2.2.2.2.2.2.2.2.2.2.2 x.2.2.2.2.2.2.2.2.2.1.2 x.2.2.2.2.2.2.2.2.2.2.2.2.2.2.2.2.2.2.1.2.2.2.2 x.2.2.2.2.2.2.2.2.2.2.2.2.2.2.2.2.2.2.1.2.2.2.1 m.2.2.2.2.1.2.1 m.2.2.2.2.2.1 m.2.2.2.2.2.2.1 x.2.2.2.2.2.1.1 x.2.2.2.2.2.1.2.1 x.2.2.2.2.2.1.2.2.1 x.2.2.2.2.2.1.2.2.2.1 x.2.2.2.2.2.1.2.2.2.2.1 x.2.2.2.2.2.1.2.2.2.2.2.1 x.2.2.2.2.2.1.2.2.2.2.2.2.1 x.2.2.2.2.2.1.2.2.2.2.2.2.2.1 x.2.2.2.2.2.1.2.2.2.2.2.2.2.2 x.2.2.2.2.2.2.1.1 x.2.2.2.2.2.2.2.1.1 x.2.2.2.2.2.2.1.2.1 x.2.2.2.2.2.2.1.2.2.1 x.2.2.2.2.2.2.1.2.2.2.1 x.2.2.2.2.2.2.1.2.2.2.2 x.2.2.2.2.2.2.2.1.2.1 x.2.2.2.2.2.2.2.1.2.2.1 x.2.2.2.2.2.2.2.1.2.2.2.1 x.2.2.2.2.2.2.2.1.2.2.2.2
  exact ⟨r1, u1, r2, u2, u3, C, K, hT, (hP.all u5).rows u6, u4, h0, h1, hN⟩
