/-! ===== what the invariant says of town and days, as numbers ===== -/
def TW (C K : Nat) (fr to ya mk qu : Nat → Nat) (kd nn : Nat) (sf st sy : Nat → Int32) (market quay hasOdd oddM oddQ : Int32) (mf mt my : Nat → Int32) (tw : Int32) (en : Nat → Int32) : Prop :=
  K ≤ 16 ∧ C ≤ 8 ∧ CodG K C fr to ya sf st sy ∧ CodG K C fr to ya mf mt my ∧ EndsC C mk qu market quay hasOdd oddM oddQ ∧ EndsM mk qu tw en ∧ kd < 4 ∧ nn ≤ 99
theorem IPlan.tw {C K : Nat} {corners market quay hasOdd oddM oddQ kind nights cart sc : Int32} {sf st sy sp : Nat → Int32} {lc : Int32} {lf lt ly lp : Nat → Int32} {mcorners mstreets mtwice mcouncil mnights mlanes mcart mall : Int32} {mfrom mto myards mprice mend mlane : Nat → Int32}
    (h : IPlan C K corners market quay hasOdd oddM oddQ kind nights cart sc sf st sy sp lc lf lt ly lp mcorners mstreets mtwice mcouncil mnights mlanes mcart mall mfrom mto myards mprice mend mlane) :
    ∃ (fr to ya mk qu : Nat → Nat) (kd nn ct : Nat), TW C K fr to ya mk qu kd nn sf st sy market quay hasOdd oddM oddQ mfrom mto myards mtwice mend ∧ kind = nI kd ∧ mcouncil = nI kd ∧ nights = nI nn ∧ mnights = nI nn ∧ cart = nI ct ∧ mcart = nI ct ∧ 1 ≤ nn ∧ nn ≤ 9 ∧ 1 ≤ ct ∧ ct ≤ 99 ∧ ∀ s, s < K → ya s ≤ 99 := by
  obtain ⟨⟨c1, c2, c3⟩, -, -, hr, -, hE, hO, ⟨kd, k1, k2, k3⟩, ⟨nn, n1, n2, n3, n4⟩, ⟨ct, t1, t2, t3, t4⟩⟩ := h
  obtain ⟨mk, qu, E, M⟩ := ends_ex hE hO
  refine ⟨fun s => (sf s).toNatClampNeg, fun s => (st s).toNatClampNeg, fun s => (sy s).toNatClampNeg, mk, qu, kd, nn, ct, ⟨by omega, c2, ?_, ?_, E, M, k1, by omega⟩, k2, k3, n3, n4, t3, t4, n1, n2, t1, t2, ?_⟩
  · intro s hs
    obtain ⟨a, b, y, p, h1, h2, h3, h4, h5, -, e1, e2, e3, e4, e5, e6, -, -⟩ := hr s hs
    simp only [e1, e3, e5, nIc (show a < 2 ^ 31 by omega), nIc (show b < 2 ^ 31 by omega), nIc (show y < 2 ^ 31 by omega)]
    exact ⟨trivial, trivial, trivial, h1, h2, h3, h4, by omega⟩
  · intro s hs
    obtain ⟨a, b, y, p, h1, h2, h3, h4, h5, -, e1, e2, e3, e4, e5, e6, -, -⟩ := hr s hs
    simp only [e1, e2, e3, e4, e5, e6, nIc (show a < 2 ^ 31 by omega), nIc (show b < 2 ^ 31 by omega), nIc (show y < 2 ^ 31 by omega)]
    exact ⟨trivial, trivial, trivial, h1, h2, h3, h4, by omega⟩
  · intro s hs
    obtain ⟨a, b, y, p, h1, h2, h3, h4, h5, -, e1, e2, e3, e4, e5, e6, -, -⟩ := hr s hs
    simp only [e5, nIc (show y < 2 ^ 31 by omega)]
    exact h5
theorem IDays.g {K : Nat} {gone mday : Int32} {shut mshut : Nat → Int32} (h : IDays K gone shut mday mshut) : ∃ (d : Nat) (sh : Nat → Nat), d ≤ 9999 ∧ gone = nI d ∧ mday = nI d ∧ CodS K sh shut ∧ CodS K sh mshut := by
  obtain ⟨d, hd, e1, e2, hs⟩ := h
  refine ⟨d, fun s => (shut s).toNatClampNeg, hd, e1, e2, ?_, ?_⟩
  · intro s hs'
    obtain ⟨k, k1, k2, k3, k4⟩ := hs s hs'
    simp only [k2, nIc (show k < 2 ^ 31 by omega)]
    exact ⟨k1, trivial, k4⟩
  · intro s hs'
    obtain ⟨k, k1, k2, k3, k4⟩ := hs s hs'
    simp only [k2, k3, nIc (show k < 2 ^ 31 by omega)]
    exact ⟨k1, trivial, k4⟩
theorem IDays.of {K d : Nat} {sh : Nat → Nat} {F G : Nat → Int32} (hd : d ≤ 9999) (h1 : CodS K sh F) (h2 : CodS K sh G) : IDays K (nI d) F (nI d) G :=
  ⟨d, hd, rfl, rfl, fun s hs => ⟨sh s, (h1 s hs).1, (h1 s hs).2.1, (h2 s hs).2.1, (h1 s hs).2.2⟩⟩
theorem CodS.congr {K : Nat} {sh : Nat → Nat} {F G : Nat → Int32} (h : CodS K sh F) (e : ∀ s, s < 16 → G s = F s) : CodS K sh G := fun s hs => ⟨(h s hs).1, (e s hs).trans (h s hs).2.1, (h s hs).2.2⟩
theorem IPlan.all {C K : Nat} {corners market quay hasOdd oddM oddQ kind nights cart sc : Int32} {sf st sy sp : Nat → Int32} {lc : Int32} {lf lt ly lp : Nat → Int32} {mcorners mstreets mtwice mcouncil mnights mlanes mcart mall mall' : Int32} {mfrom mto myards mprice mend mlane : Nat → Int32}
    (h : IPlan C K corners market quay hasOdd oddM oddQ kind nights cart sc sf st sy sp lc lf lt ly lp mcorners mstreets mtwice mcouncil mnights mlanes mcart mall mfrom mto myards mprice mend mlane) (e : mall' = nI K) :
    IPlan C K corners market quay hasOdd oddM oddQ kind nights cart sc sf st sy sp lc lf lt ly lp mcorners mstreets mtwice mcouncil mnights mlanes mcart mall' mfrom mto myards mprice mend mlane := by
  obtain ⟨h1, h2, ⟨h3, h4, -⟩, h5⟩ := h
  exact ⟨h1, h2, ⟨h3, h4, e⟩, h5⟩
theorem yI_ok {L : List Nat} {y : Nat} (h : L = [] ↔ ¬ y < FARn) : (if L = [] then (-1 : Int32) else nI y) = yI y := by
  unfold yI
  by_cases c : y < FARn
  · rw [if_pos c, if_neg (fun z => (h.mp z) c)]
  · rw [if_neg c, if_pos (h.mpr c)]
theorem yI_m1 {L : List Nat} {y : Nat} (h : L = [] ↔ ¬ y < FARn) : yI y = -1 ↔ L = [] := by
  unfold yI
  by_cases c : y < FARn
  · rw [if_pos c]
    exact ⟨fun z => absurd z (nI_m1 (by have : FARn = 1000000 := rfl; omega)), fun z => absurd c (h.mp z)⟩
  · rw [if_neg c]
    exact ⟨fun _ => h.mpr c, fun _ => rfl⟩
section Sim
variable {C K kd nn : Nat} {fr to ya mk qu : Nat → Nat} {sf st sy mf mt my en : Nat → Int32} {market quay hasOdd oddM oddQ tw : Int32}
theorem go_sim (T : TW C K fr to ya mk qu kd nn sf st sy market quay hasOdd oddM oddQ mf mt my tw en) (ct N : Nat) (hN : N < 1000) : ∀ (n i d : Nat) (sh : Nat → Nat) (F G : Nat → Int32) (x2 wc ws wy wm : Int32) (far wst L0 W0 : Nat → Int32), i ≤ N → N - i < n → d + (N - i) ≤ 9999 → CodS K sh F → CodS K sh G → ¬ x2 < -1 →
    ∃ (sh' : Nat → Nat) (F' G' : Nat → Int32) (wc' ws' wy' wm' : Int32) (far' wst' L' W' : Nat → Int32), f_ShutWays_go_34 n (nI N) (nI i) (nI d) market quay hasOdd oddM oddQ (nI kd) (nI nn) wc ws wy (nI K) 16 F 8 far 16 sf 16 st 16 sy 8 wst = some (nI (d + (N - i)), nI (d + (N - i)), wc', ws', wy', F', far', wst') ∧
      f_ShutWaysModel_go_33 n (nI N) x2 (nI i) (nI C) tw (nI kd) (nI nn) (nI ct) (nI d) (nI K) wm 8 L0 4 en 16 G 16 my 16 mf 16 mt 16 W0 = some (nI (d + (N - i)), nI (d + (N - i)), wm', L', G', W') ∧ CodS K sh' F' ∧ CodS K sh' G' := by
  obtain ⟨hK, hC, G1, G2, E, M, hkd, hnn⟩ := T
  intro n
  induction n with
  | zero => intro i d sh F G x2 wc ws wy wm far wst L0 W0 _ h; omega
  | succ n ih =>
    intro i d sh F G x2 wc ws wy wm far wst L0 W0 hi hn hd S1 S2 hx
    rw [show f_ShutWays_go_34 (n + 1) = b_ShutWays_go_34 (f_ShutWays_go_34 n) from rfl, show f_ShutWaysModel_go_33 (n + 1) = b_ShutWaysModel_go_33 (f_ShutWaysModel_go_33 n) from rfl]
    unfold b_ShutWays_go_34 b_ShutWaysModel_go_33 f_ShutWaysModel_go_62
    by_cases c : i = N
    · subst c
      rw [if_pos (nI_le (Nat.le_refl _) (by omega)), if_pos (nI_le (Nat.le_refl _) (by omega)), if_pos (Int32.not_lt.mp hx), Nat.sub_self]
      exact ⟨sh, F, G, _, _, _, _, _, _, _, _, rfl, rfl, S1, S2⟩
    · rw [if_neg (nI_ge (by omega) (by omega)), if_neg (nI_ge (by omega) (by omega))]
      obtain ⟨F', far', wst', w1, w2, w3, w4, w5, w6, w7⟩ := pass_ok hK hC G1 S1 E hkd hnn (show d < 100000 by omega) wc ws wy far wst
      obtain ⟨L', G', W', v1, v2, v3⟩ := goNight_ok hK hC G2 S2 E M hkd hnn (show d < 100000 by omega) w3 w5 ct wm L0 W0
      rw [w1, v1, Option.bind_some, Option.bind_some, nI_1, show d + (N - i) = d + 1 + (N - (i + 1)) by omega]
      refine ih (i + 1) (d + 1) _ F' G' _ _ _ _ _ _ _ _ _ (by omega) (by omega) (by omega) w2 v2 ?_
      unfold yI
      split
      · intro z; exact nI_pos (show dy fr to ya K mk qu sh d < 2 ^ 31 by have : FARn = 1000000 := rfl; omega) (Int32.lt_trans z (by decide))
      · show ¬ ((-1 : Int32) < -1)
        decide
theorem later_sim (T : TW C K fr to ya mk qu kd nn sf st sy market quay hasOdd oddM oddQ mf mt my tw en) (ct N : Nat) (hN : N < 100) (g str : Int32) (tsh A : Nat → Int32) : ∀ (n i d : Nat) (sh : Nat → Nat) (F G : Nat → Int32) (x2 wc ws wy wm : Int32) (far wst L0 W0 : Nat → Int32), i ≤ N → N - i + 1 < n → d + (N - i) ≤ 90000 → CodS K sh F → CodS K sh G →
    ∃ (r : Int32) (q1 : _) (wm' : Int32) (G' L' W' : Nat → Int32), f_ShutWays_later_26 n (nI N) (nI i) (nI d) g 16 tsh 16 F market quay hasOdd oddM oddQ (nI kd) (nI nn) wc ws wy (nI K) 8 far 16 sf 16 st 16 sy 8 wst = some (r, q1) ∧
      f_ShutWaysModel_later_21 n (nI N) x2 (nI i) (nI C) str tw (nI kd) (nI nn) (nI ct) (nI d) (nI K) wm 17 A 16 G 8 L0 4 en 16 my 16 mf 16 mt 16 W0 = some (r, A 16, str, wm', A, G', L', W') ∧ ∀ s, s < 16 → G' s = A s := by
  obtain ⟨hK, hC, G1, G2, E, M, hkd, hnn⟩ := T
  intro n
  induction n with
  | zero => intro i d sh F G x2 wc ws wy wm far wst L0 W0 _ h; omega
  | succ n ih =>
    intro i d sh F G x2 wc ws wy wm far wst L0 W0 hi hn hd S1 S2
    rw [show f_ShutWays_later_26 (n + 1) = b_ShutWays_later_26 (f_ShutWays_later_26 n) from rfl, show f_ShutWaysModel_later_21 (n + 1) = b_ShutWaysModel_later_21 (f_ShutWaysModel_later_21 n) from rfl]
    unfold b_ShutWays_later_26 b_ShutWaysModel_later_21 f_ShutWays_later_83
    rw [if_neg (nI_nlt hi (by omega))]
    by_cases c : i = N
    · subst c
      obtain ⟨far', wst', w1, w2, w3, w4, w5, w6⟩ := findWay_ok hK hC G1 S1 E (show d < 100000 by omega) wc ws wy far wst
      obtain ⟨L', G', W', v1, v2, v3⟩ := goNight_ok hK hC G2 S2 E M hkd hnn (show d < 100000 by omega) w2 w4 ct wm L0 W0
      rw [if_pos (nI_le (Nat.le_refl _) (by omega)), w1, v1, Option.bind_some, Option.bind_some, there_ok w2, Option.bind_some]
      obtain ⟨n', rfl⟩ : ∃ n', n = n' + 1 := ⟨n - 1, by omega⟩
      rw [show f_ShutWaysModel_later_21 (n' + 1) = b_ShutWaysModel_later_21 (f_ShutWaysModel_later_21 n') from rfl]
      unfold b_ShutWaysModel_later_21
      obtain ⟨B, u1, u2⟩ := putBack_ok str (nI (d + 1)) (nI K) A G'
      simp only [nI_1, if_pos (nI_lt (Nat.lt_succ_self i) (show i + 1 < 2 ^ 31 by omega)), u1, Option.bind_some]
      rw [← yI_ok w6]
      by_cases z : dw fr to ya K mk qu sh d = []
      · rw [if_pos z, if_pos rfl, if_pos z]
        exact ⟨_, _, _, _, _, _, rfl, rfl, u2⟩
      · rw [if_neg z, if_neg one_ne, if_neg z]
        exact ⟨_, _, _, _, _, _, rfl, rfl, u2⟩
    · obtain ⟨F', far', wst', w1, w2, w3, w4, w5, w6, w7⟩ := pass_ok hK hC G1 S1 E hkd hnn (show d < 100000 by omega) wc ws wy far wst
      obtain ⟨L', G', W', v1, v2, v3⟩ := goNight_ok hK hC G2 S2 E M hkd hnn (show d < 100000 by omega) w3 w5 ct wm L0 W0
      rw [if_neg (nI_ge (by omega) (by omega)), w1, v1, Option.bind_some, Option.bind_some, nI_1]
      exact ih (i + 1) (d + 1) _ F' G' _ _ _ _ _ _ _ _ _ (by omega) (by omega) (by omega) w2 v2
theorem never_sim (T : TW C K fr to ya mk qu kd nn sf st sy market quay hasOdd oddM oddQ mf mt my tw en) (ct : Nat) (g str : Int32) (tsh A : Nat → Int32) : ∀ (n i d : Nat) (sh : Nat → Nat) (F G : Nat → Int32) (wc ws wy wm : Int32) (far wst L0 W0 : Nat → Int32), i ≤ 400 → 400 - i + 1 < n → d + (400 - i) ≤ 90000 → CodS K sh F → CodS K sh G →
    ∃ (r : Int32) (q1 : _) (wm' : Int32) (G' L' W' : Nat → Int32), f_ShutWays_never_13 n (nI i) (nI d) g 16 tsh 16 F market quay hasOdd oddM oddQ (nI kd) (nI nn) wc ws wy (nI K) 8 far 16 sf 16 st 16 sy 8 wst = some (r, q1) ∧
      f_ShutWaysModel_never_8 n (-1) (nI i) (nI C) str tw (nI kd) (nI nn) (nI ct) (nI d) (nI K) wm 17 A 16 G 8 L0 4 en 16 my 16 mf 16 mt 16 W0 = some (r, A 16, str, wm', A, G', L', W') ∧ ∀ s, s < 16 → G' s = A s := by
  obtain ⟨hK, hC, G1, G2, E, M, hkd, hnn⟩ := T
  intro n
  induction n with
  | zero => intro i d sh F G wc ws wy wm far wst L0 W0 _ h; omega
  | succ n ih =>
    intro i d sh F G wc ws wy wm far wst L0 W0 hi hn hd S1 S2
    rw [show f_ShutWays_never_13 (n + 1) = b_ShutWays_never_13 (f_ShutWays_never_13 n) from rfl, show f_ShutWaysModel_never_8 (n + 1) = b_ShutWaysModel_never_8 (f_ShutWaysModel_never_8 n) from rfl]
    unfold b_ShutWays_never_13 b_ShutWaysModel_never_8 f_ShutWaysModel_never_33 f_ShutWaysModel_never_40
    by_cases c : i = 400
    · subst c
      obtain ⟨B, u1, u2⟩ := putBack_ok str (nI d) (nI K) A G
      rw [if_pos (show (400 : Int32) ≤ nI 400 by decide), if_pos (show (400 : Int32) ≤ nI 400 by decide), u1, Option.bind_some]
      exact ⟨_, _, _, _, _, _, rfl, rfl, u2⟩
    · obtain ⟨F', far', wst', w1, w2, w3, w4, w5, w6, w7⟩ := pass_ok hK hC G1 S1 E hkd hnn (show d < 100000 by omega) wc ws wy far wst
      obtain ⟨L', G', W', v1, v2, v3⟩ := goNight_ok hK hC G2 S2 E M hkd hnn (show d < 100000 by omega) w3 w5 ct wm L0 W0
      rw [if_neg (show ¬ (400 : Int32) ≤ nI i from nI_ge (b := 400) (by omega) (by decide)), if_neg (show ¬ (400 : Int32) ≤ nI i from nI_ge (b := 400) (by omega) (by decide)), if_pos rfl, w1, v1, Option.bind_some, Option.bind_some, there_ok w3, Option.bind_some, nI_1]
      by_cases z : dw fr to ya K mk qu sh d = []
      · rw [if_pos z, if_pos rfl, if_pos ((yI_m1 w7).mpr z)]
        obtain ⟨n', rfl⟩ : ∃ n', n = n' + 1 := ⟨n - 1, by omega⟩
        rw [show f_ShutWaysModel_never_8 (n' + 1) = b_ShutWaysModel_never_8 (f_ShutWaysModel_never_8 n') from rfl]
        unfold b_ShutWaysModel_never_8 f_ShutWaysModel_never_40
        obtain ⟨B, u1, u2⟩ := putBack_ok str (nI (d + 1)) (nI K) A G'
        rw [if_neg (nI_m1 (show i < 2 ^ 31 by omega)), ite_self, u1, Option.bind_some]
        exact ⟨_, _, _, _, _, _, rfl, rfl, u2⟩
      · rw [if_neg z, if_neg one_ne, if_neg (fun q => z ((yI_m1 w7).mp q))]
        exact ih (i + 1) (d + 1) _ F' G' _ _ _ _ _ _ _ _ (by omega) (by omega) (by omega) w2 v2
end Sim
