/-! ===== count, apart ===== -/
theorem mcount4 {K : Nat} {sh : Nat → Nat} {F : Nat → Int32} (S : CodS K sh F) (hK : K ≤ 16) (x1 co tw cl ni la ct by_ da to_ : Int32) (en : Nat → Int32) : ∀ n i, i ≤ K → K - i < n →
    f_ShutWaysModel_count_4 n x1 (nI (ssm sh i)) (nI i) co (nI K) tw cl ni la ct by_ da to_ 4 en 16 F = if x1 = 0 then some co else if x1 = 1 then some (nI K) else if x1 = 2 then some la else if x1 = 3 then some cl else if x1 = 4 then some ni else if x1 = 5 then some ct else if x1 = 6 then some da else if x1 = 7 then some to_ else if x1 = 8 then some (nI (ssm sh K)) else if x1 = 9 then (f_ShutWaysModel_market tw da 4 en).bind (fun r12 => some r12) else if x1 = 10 then (f_ShutWaysModel_quay tw da 4 en).bind (fun r15 => some r15) else if x1 = 11 then some by_ else some (-3) := by
  intro n
  induction n with
  | zero => intro i _ h; omega
  | succ n ih =>
    intro i hi hn
    rw [show f_ShutWaysModel_count_4 (n + 1) = b_ShutWaysModel_count_4 (f_ShutWaysModel_count_4 n) from rfl]
    unfold b_ShutWaysModel_count_4 f_ShutWaysModel_count_29
    by_cases c : i = K
    · subst c
      rw [if_pos (nI_le (Nat.le_refl _) (by omega))]
    · have hi' : i < K := by omega
      obtain ⟨b1, b2, b3⟩ := S i (by omega)
      have h := ih (i + 1) (by omega) (by omega)
      rw [if_neg (nI_ge hi' (by omega)), gixN (show i < 16 by omega) (by decide), nIc (by omega), b2, nI_bit i (by omega), nI_or, nI_1]
      by_cases z : sh i = 0
      · rw [if_pos (show nI (sh i) ≤ 0 from nI_le (b := 0) (by omega) (by decide))]
        rw [show ssm sh (i + 1) = ssm sh i by show (ssm sh i ||| _) = _; rw [if_pos z, Nat.or_zero]] at h
        rw [← h]
        congr 1
        rw [show (0 : Int32) = nI 0 from rfl, nI_or, Nat.or_zero]
      · rw [if_neg (nI_nle (by omega) (by omega))]
        rw [show ssm sh (i + 1) = ssm sh i ||| 2 ^ i by show (ssm sh i ||| _) = _; rw [if_neg z]] at h
        exact h
section Core2
variable {C K : Nat} {corners market quay hasOdd oddM oddQ kind nights cart sc : Int32} {sf st sy sp : Nat → Int32} {lc : Int32} {lf lt ly lp : Nat → Int32} {mcorners mstreets mtwice mcouncil mnights mlanes mcart mall : Int32} {mfrom mto myards mprice mend mlane : Nat → Int32} {gone mday : Int32} {shut mshut : Nat → Int32}
theorem count_core (hP : IPlan C K corners market quay hasOdd oddM oddQ kind nights cart sc sf st sy sp lc lf lt ly lp mcorners mstreets mtwice mcouncil mnights mlanes mcart mall mfrom mto myards mprice mend mlane) (hD : IDays K gone shut mday mshut) (a1 : Int32) {tc tl mt mb : Int32} (ht : tc = mt) (hb : tl = mb) :
    ∃ r, f_ShutWays_count a1 tc corners market quay hasOdd oddM oddQ kind nights cart sc lc gone 16 shut tl = some r ∧ f_ShutWaysModel_count a1 mcorners mstreets mtwice mcouncil mnights mlanes mcart mb mday mt 4 mend 16 mshut = some r := by
  obtain ⟨fr, to, ya, mk, qu, kd, nn, ct, T, e1, e2, e3, e4, e5, e6, -⟩ := hP.tw
  obtain ⟨⟨-, -, h12⟩, ⟨e7, e8⟩, ⟨e9, e10, -⟩, -, ⟨ln, -, e14, e15, -⟩, -⟩ := hP
  obtain ⟨d, sh, hd, e12, e13, S1, S2⟩ := id hD.g
  subst e1; subst e2; subst e3; subst e4; subst e5; subst e6; subst e7; subst e8; subst e9; subst e10; subst e12; subst e13; subst e14; subst e15; subst ht; subst hb
  obtain ⟨hK, hC, G1, G2, E, M, hkd, hnn⟩ := T
  have hFU : 2000 < FU := by rw [FU_eq]; decide
  obtain ⟨m1, m2, -, -, -⟩ := E d (by omega)
  obtain ⟨m3, m4⟩ := M d (by omega)
  unfold f_ShutWays_count f_ShutWaysModel_count
  generalize FU = N at hFU ⊢
  have h := mcount4 S2 hK a1 (nI C) mtwice (nI kd) (nI nn) (nI ln) (nI ct) tl (nI d) tc mend N 0 (Nat.zero_le _) (by omega)
  rw [show ssm sh 0 = 0 from rfl, nI_0, m3, m4, Option.bind_some, Option.bind_some] at h
  rw [h, shutSet_ok S1 hK, m1, m2, Option.bind_some, Option.bind_some, Option.bind_some]
  have key : ∀ o : Option Int32, o.isSome = true → ∃ r, o = some r ∧ o = some r := by
    intro o h
    obtain ⟨r, hr⟩ := Option.isSome_iff_exists.mp h
    exact ⟨r, hr, hr⟩
  apply key
  (repeat' split) <;> rfl
end Core2
theorem pl_count : PL_count INV := by
  intro x m a1 hI
  obtain ⟨C, K, hT, hP, hD, h0, h1, hN⟩ := id hI
  obtain ⟨n, hn, e1, e2, hb⟩ := hT
  obtain ⟨n', hn', e3, e4, hb'⟩ := hN
  obtain ⟨r, u1, u2⟩ := count_core hP hD a1 (e3.trans e4.symm) (e1.trans e2.symm)
  exact ⟨r, u1, r, u2, rfl, hI⟩
/-- how many streets leave a side -/
def lvn (fr to : Nat → Nat) (S : Nat) : Nat → Nat
  | 0 => 0
  | n + 1 => lvn fr to S n + (if S.testBit (fr n) = S.testBit (to n) then 0 else 1)
theorem lvn_le (fr to : Nat → Nat) (S : Nat) : ∀ n, lvn fr to S n ≤ n
  | 0 => Nat.le_refl _
  | n + 1 => by
    have := lvn_le fr to S n
    show lvn fr to S n + (if _ then 0 else 1) ≤ n + 1
    split <;> omega
section Apart
variable {K C : Nat} {fr to ya : Nat → Nat} {frF toF yaF : Nat → Int32}
theorem leaving4 (hK : K ≤ 16) (hC : C ≤ 8) (G : CodG K C fr to ya frF toF yaF) {S : Nat} (hS : S < 2 ^ 31) : ∀ n i, i ≤ K → K - i < n → f_Roads_leaving_4 n (nI S) (nI (lvn fr to S i)) (nI i) (nI K) 16 frF 16 toF = some (nI (lvn fr to S K)) := by
  intro n
  induction n with
  | zero => intro i _ h; omega
  | succ n ih =>
    intro i hi hn
    rw [show f_Roads_leaving_4 (n + 1) = b_Roads_leaving_4 (f_Roads_leaving_4 n) from rfl]
    unfold b_Roads_leaving_4 f_Roads_leaving_37
    by_cases c : i = K
    · subst c
      rw [if_pos (nI_le (Nat.le_refl _) (by omega))]
    · have hi' : i < K := by omega
      obtain ⟨a1, a2, a3, a4, a5, a6, a7, a8⟩ := G i hi'
      have h := ih (i + 1) (by omega) (by omega)
      rw [if_neg (nI_ge hi' (by omega)), gixN (show i < 16 by omega) (by decide), gixN (show i < 16 by omega) (by decide), nIc (by omega), a1, a2]
      simp only [nI_1]
      by_cases z : S.testBit (fr i) = S.testBit (to i)
      · rw [if_pos ((lv_ok hS (by omega) (by omega)).mpr z)]
        rw [show lvn fr to S (i + 1) = lvn fr to S i by show lvn fr to S i + _ = _; rw [if_pos z, Nat.add_zero]] at h
        exact h
      · rw [if_neg (fun q => z ((lv_ok hS (by omega) (by omega)).mp q))]
        rw [show lvn fr to S (i + 1) = lvn fr to S i + 1 by show lvn fr to S i + _ = _; rw [if_neg z]] at h
        exact h
theorem leaving_ok (hK : K ≤ 16) (hC : C ≤ 8) (G : CodG K C fr to ya frF toF yaF) {S : Nat} (hS : S < 2 ^ 31) : f_Roads_leaving (nI S) (nI K) 16 frF 16 toF = some (nI (lvn fr to S K)) := by
  unfold f_Roads_leaving
  have hFU : 20 < FU := by rw [FU_eq]; decide
  generalize FU = N at hFU ⊢
  exact leaving4 hK hC G hS N 0 (Nat.zero_le _) (by omega)
theorem mapart42 (hK : K ≤ 16) (hC : C ≤ 8) (G : CodG K C fr to ya frF toF yaF) {S : Nat} (hS : S < 2 ^ 31) (k5 : _) {v : Nat} (hv : v ≤ 100) (co tw da : Int32) (en : Nat → Int32) : ∀ n i, i ≤ K → K - i < n →
    f_ShutWaysModel_apart_42 k5 n (nI v) (nI S) (nI (lvn fr to S i)) (nI i) co (nI K) tw da 4 en 16 frF 16 toF = k5 (nI (if lvn fr to S K < v then lvn fr to S K else v)) (nI (S + 1)) co (nI K) tw da 4 en 16 frF 16 toF := by
  intro n
  induction n with
  | zero => intro i _ h; omega
  | succ n ih =>
    intro i hi hn
    rw [show f_ShutWaysModel_apart_42 k5 (n + 1) = b_ShutWaysModel_apart_42 k5 (f_ShutWaysModel_apart_42 k5 n) from rfl]
    unfold b_ShutWaysModel_apart_42 f_ShutWaysModel_apart_100 f_ShutWaysModel_apart_101 f_ShutWaysModel_apart_82
    have hl := lvn_le fr to S i
    by_cases c : i = K
    · subst c
      rw [if_pos (nI_le (Nat.le_refl _) (by omega)), nI_1]
      by_cases q : lvn fr to S i < v
      · rw [if_neg (nI_ge q (by omega)), if_pos q]
      · rw [if_pos (nI_le (by omega) (by omega)), if_neg q]
    · have hi' : i < K := by omega
      obtain ⟨a1, a2, a3, a4, a5, a6, a7, a8⟩ := G i hi'
      have h := ih (i + 1) (by omega) (by omega)
      rw [if_neg (nI_ge hi' (by omega)), gixN (show i < 16 by omega) (by decide), nIc (by omega), a1, a2, mhas_ok hS (by omega), Option.bind_some, gixN (show i < 16 by omega) (by decide), mhas_ok hS (by omega), Option.bind_some]
      simp only [nI_1, Int32.add_zero]
      by_cases z : S.testBit (fr i) = S.testBit (to i)
      · rw [if_pos (by rw [z])]
        rw [show lvn fr to S (i + 1) = lvn fr to S i by show lvn fr to S i + _ = _; rw [if_pos z, Nat.add_zero]] at h
        exact h
      · rw [if_neg (by
          intro q
          apply z
          cases h1 : S.testBit (fr i) <;> cases h2 : S.testBit (to i) <;> rw [h1, h2] at q <;> first | rfl | exact absurd q (by decide))]
        rw [show lvn fr to S (i + 1) = lvn fr to S i + 1 by show lvn fr to S i + _ = _; rw [if_neg z]] at h
        exact h
theorem apart_sim {frM toM yaM en : Nat → Int32} {mk qu : Nat → Nat} {market quay hasOdd oddM oddQ tw : Int32} {d : Nat} (hK : K ≤ 16) (hC : C ≤ 8) (G : CodG K C fr to ya frF toF yaF) (G2 : CodG K C fr to ya frM toM yaM) (E : EndsC C mk qu market quay hasOdd oddM oddQ) (M : EndsM mk qu tw en) (hd : d < 100000) :
    ∀ n S v, S ≤ 2 ^ C → 2 ^ C - S < n → v ≤ 100 → ∃ r : Int32, f_ShutWays_apart_40 n (nI (2 ^ mk d)) (nI (2 ^ qu d)) (nI v) (nI S) (nI C) market quay hasOdd oddM oddQ (nI d) (nI K) 16 frF 16 toF = some r ∧ f_ShutWaysModel_apart_5 n (nI v) (nI S) (nI C) (nI K) tw (nI d) 4 en 16 frM 16 toM = some r := by
  have hFU : 2000 < FU := by rw [FU_eq]; decide
  obtain ⟨e1, e2, e3, e4, e5⟩ := E d hd
  obtain ⟨m1, m2⟩ := M d hd
  have hp : 2 ^ C ≤ 256 := Nat.pow_le_pow_right (by decide) hC
  intro n
  induction n with
  | zero => intro S v _ h; omega
  | succ n ih =>
    intro S v hS hn hv
    rw [show f_ShutWays_apart_40 (n + 1) = b_ShutWays_apart_40 (f_ShutWays_apart_40 n) from rfl, show f_ShutWaysModel_apart_5 (n + 1) = b_ShutWaysModel_apart_5 (f_ShutWaysModel_apart_5 n) from rfl]
    unfold b_ShutWays_apart_40 b_ShutWaysModel_apart_5 f_ShutWays_apart_85 f_ShutWaysModel_apart_101
    generalize FU = N at hFU ⊢
    rw [nI_bit C (by omega)]
    by_cases c : S = 2 ^ C
    · rw [if_pos (nI_le (by omega) (by omega)), if_pos (nI_le (by omega) (by omega))]
      exact ⟨_, rfl, rfl⟩
    · have hS' : S < 2 ^ 31 := by omega
      rw [if_neg (nI_ge (by omega) (by omega)), if_neg (nI_ge (by omega) (by omega)), m1, Option.bind_some, mhas_ok hS' (by omega), Option.bind_some, m2, Option.bind_some, mhas_ok hS' (by omega), Option.bind_some, leaving_ok hK hC G hS', Option.bind_some]
      simp only [nmI, nI_1]
      by_cases z1 : S.testBit (mk d) = true
      · rw [if_neg (fun q => by rw [(cand_ok hS').mp q] at z1; cases z1), if_pos z1, if_neg one_ne]
        by_cases z2 : S.testBit (qu d) = true
        · rw [if_neg (fun q => by rw [(cand_ok hS').mp q] at z2; cases z2), if_pos z2, if_neg one_ne]
          exact ih (S + 1) v (by omega) (by omega) hv
        · have z2' : S.testBit (qu d) = false := by simpa using z2
          have hl := lvn_le fr to S K
          have w := mapart42 hK hC G2 hS' (f_ShutWaysModel_apart_5 n) hv (nI C) tw (nI d) en N 0 (Nat.zero_le _) (by omega)
          rw [show nI (lvn fr to S 0) = 0 from rfl, nI_0] at w
          rw [if_pos ((cand_ok hS').mpr z2'), if_neg z2, if_pos rfl, w]
          have e : (if nI (lvn fr to S K) < nI v then nI (lvn fr to S K) else nI v) = nI (if lvn fr to S K < v then lvn fr to S K else v) := by
            by_cases q : lvn fr to S K < v
            · rw [if_pos (nI_lt q (by omega)), if_pos q]
            · rw [if_neg (nI_nlt (by omega) (by omega)), if_neg q]
          rw [e]
          exact ih (S + 1) _ (by omega) (by omega) (by split <;> omega)
      · have z1' : S.testBit (mk d) = false := by simpa using z1
        rw [if_pos ((cand_ok hS').mpr z1'), if_neg z1, if_pos rfl]
        exact ih (S + 1) v (by omega) (by omega) hv
end Apart
section Core3
variable {C K : Nat} {corners market quay hasOdd oddM oddQ kind nights cart sc : Int32} {sf st sy sp : Nat → Int32} {lc : Int32} {lf lt ly lp : Nat → Int32} {mcorners mstreets mtwice mcouncil mnights mlanes mcart mall : Int32} {mfrom mto myards mprice mend mlane : Nat → Int32} {gone mday : Int32} {shut mshut : Nat → Int32}
theorem apart_core (hP : IPlan C K corners market quay hasOdd oddM oddQ kind nights cart sc sf st sy sp lc lf lt ly lp mcorners mstreets mtwice mcouncil mnights mlanes mcart mall mfrom mto myards mprice mend mlane) (hD : IDays K gone shut mday mshut) :
    ∃ r, f_ShutWays_apart corners market quay hasOdd oddM oddQ gone sc 16 sf 16 st = some r ∧ f_ShutWaysModel_apart mcorners mstreets mtwice mday 4 mend 16 mfrom 16 mto = some r := by
  obtain ⟨fr, to, ya, mk, qu, kd, nn, ct, T, -⟩ := hP.tw
  obtain ⟨-, ⟨e7, e8⟩, ⟨e9, e10, -⟩, -⟩ := hP
  obtain ⟨d, sh, hd, e12, e13, S1, S2⟩ := id hD.g
  subst e7; subst e8; subst e9; subst e10; subst e12; subst e13
  obtain ⟨hK, hC, G1, G2, E, M, hkd, hnn⟩ := T
  have hFU : 2000 < FU := by rw [FU_eq]; decide
  obtain ⟨m1, m2, m3, m4, -⟩ := E d (by omega)
  have hp : 2 ^ C ≤ 256 := Nat.pow_le_pow_right (by decide) hC
  unfold f_ShutWays_apart f_ShutWaysModel_apart
  generalize FU = N at hFU ⊢
  rw [m1, Option.bind_some, nI_bit _ (by omega)]
  simp only [nmI]
  rw [m2, Option.bind_some, nI_bit _ (by omega)]
  exact apart_sim hK hC G1 G2 E M (by omega) N 0 12 (Nat.zero_le _) (by omega) (by decide)
end Core3
theorem pl_apart : PL_apart INV := by
  intro x m hI
  obtain ⟨C, K, hT, hP, hD, h0, h1, hN⟩ := id hI
  obtain ⟨r, u1, u2⟩ := apart_core hP hD
  exact ⟨r, u1, r, u2, rfl, hI⟩
