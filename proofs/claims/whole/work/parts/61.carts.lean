/-! ===== carts ===== -/
def ycr (ya : Nat → Nat) (ct S s : Nat) : Nat := ya s + (if S.testBit s = true then ct else 0)
theorem msk_bit (i : Nat) : ∀ (L : List Nat) (a : Nat), (mskA a L).testBit i = (a.testBit i || decide (i ∈ L))
  | [], a => by
    show a.testBit i = _
    simp
  | s :: L, a => by
    show (mskA (a ||| 2 ^ s) L).testBit i = _
    rw [msk_bit i L, Nat.testBit_or]
    by_cases e : i = s
    · subst e; simp [Nat.testBit_two_pow_self]
    · rw [Nat.testBit_two_pow_of_ne (Ne.symm e)]
      simp [e]
theorem msk_lt : ∀ (L : List Nat) (a : Nat), (∀ s, s ∈ L → s < 16) → a < 2 ^ 16 → mskA a L < 2 ^ 16
  | [], _, _, h => h
  | s :: L, a, h, ha => by
    show mskA (a ||| 2 ^ s) L < 2 ^ 16
    refine msk_lt L _ (fun t ht => h t (List.mem_cons_of_mem _ ht)) (Nat.or_lt_two_pow ha ?_)
    exact Nat.pow_lt_pow_right (by decide) (h s (List.mem_cons_self ..))
theorem ite_bb {α : Type} (x y z : Int32) (X Y : α) (h : x = -1 ∨ ¬ y ≤ z) : (if x = -1 then X else if y ≤ z then Y else X) = X := by
  by_cases c : x = -1
  · rw [if_pos c]
  · rw [if_neg c]
    rcases h with h | h
    · exact absurd h c
    · rw [if_neg h]
theorem pdf_mono {S T : Nat} {pr : Nat → Nat} (h : ∀ i, S.testBit i = true → T.testBit i = true) : ∀ n, pdf S pr n ≤ pdf T pr n
  | 0 => Nat.le_refl _
  | n + 1 => by
    have h1 := pdf_mono (pr := pr) h n
    show pdf S pr n + (if S.testBit n = true then pr n else 0) ≤ pdf T pr n + (if T.testBit n = true then pr n else 0)
    by_cases c : S.testBit n = true
    · rw [if_pos c, if_pos (h n c)]; omega
    · rw [if_neg c]; omega
def minus (T U : Nat) : Nat := T ^^^ (T &&& U)
theorem minus_bit (T U i : Nat) : (minus T U).testBit i = (T.testBit i && !U.testBit i) := by
  unfold minus
  rw [Nat.testBit_xor, Nat.testBit_and]
  cases T.testBit i <;> cases U.testBit i <;> rfl
theorem minus_le (T U : Nat) : minus T U ≤ T := by
  have e : minus T U ||| (T &&& U) = T := by
    apply Nat.eq_of_testBit_eq
    intro i
    rw [Nat.testBit_or, minus_bit, Nat.testBit_and]
    cases T.testBit i <;> cases U.testBit i <;> rfl
  have h := Nat.left_le_or (n := minus T U) (m := T &&& U)
  rw [e] at h
  exact h
theorem minus_and (T U : Nat) : minus T U &&& U = 0 := by
  apply Nat.eq_of_testBit_eq
  intro i
  rw [Nat.testBit_and, minus_bit, Nat.zero_testBit]
  cases T.testBit i <;> cases U.testBit i <;> rfl
def ansK (a2 b c : Int32) : Int32 := if b = -1 then -1 else if a2 = 0 then c else b
section Carts
variable {C K : Nat} {fr to ya mk qu sh : Nat → Nat} {sf st sy mf mt my en shut G : Nat → Int32} {market quay hasOdd oddM oddQ tw : Int32} {ct d s0 : Nat}
theorem pw2 (hK : K ≤ 12) (hC : C ≤ 8) (hg : ∀ s, s < K → sf s = nI (fr s) ∧ st s = nI (to s) ∧ fr s < C ∧ to s < C ∧ fr s ≠ to s) (hy : ∀ s, s < K → sy s = nI (ya s) ∧ 1 ≤ ya s ∧ ya s ≤ 99) (hct : ct ≤ 99) (S1 : CodS K sh shut) (E : EndsC C mk qu market quay hasOdd oddM oddQ) (hd : d ≤ 9999) (hs0 : s0 < K) {S : Nat} (hS : S < 2 ^ 31) :
    ∀ (n i : Nat) (D : Nat → Int32) (wc ws wy : Int32) (far wst : Nat → Int32), i ≤ K → K - i < n → (∀ s, s < i → D s = nI (ycr ya ct S s)) → ∃ (b wc' ws' wy' : Int32) (far' D' wst' : Nat → Int32), f_ShutWays_isPassedWithCarts_2 n (nI s0) (nI S) (nI i) (nI ct) (nI K) market quay hasOdd oddM oddQ (nI d) wc ws wy (nI K) 16 shut 8 far 16 sf 16 st 16 D 8 wst 16 sy = some (b, wc', ws', wy', far', D', wst') ∧ ((b = 1 ∧ s0 ∈ dw fr to (ycr ya ct S) K mk qu sh d) ∨ (b = 0 ∧ ¬ s0 ∈ dw fr to (ycr ya ct S) K mk qu sh d)) := by
  intro n
  induction n with
  | zero => intro i D wc ws wy far wst _ h; omega
  | succ n ih =>
    intro i D wc ws wy far wst hi hn hD
    rw [show f_ShutWays_isPassedWithCarts_2 (n + 1) = b_ShutWays_isPassedWithCarts_2 (f_ShutWays_isPassedWithCarts_2 n) from rfl]
    unfold b_ShutWays_isPassedWithCarts_2
    by_cases c : i = K
    · subst c
      have Gd : CodG i C fr to (ycr ya ct S) sf st D := by
        intro s hs
        obtain ⟨a1, a2, a3, a4, a5⟩ := hg s hs
        obtain ⟨b1, b2, b3⟩ := hy s hs
        refine ⟨a1, a2, hD s hs, a3, a4, a5, ?_, ?_⟩
        · unfold ycr; omega
        · unfold ycr; split <;> omega
      obtain ⟨far', st', w1, w2, w3, w4, w5, w6⟩ := findWay_ok (show i ≤ 16 by omega) hC Gd S1 E (show d < 100000 by omega) wc ws wy far wst
      have hm := msk_lt (dw fr to (ycr ya ct S) i mk qu sh d) 0 (fun s hs => by have := w4 s hs; omega) (by decide)
      have hbit := msk_bit s0 (dw fr to (ycr ya ct S) i mk qu sh d) 0
      rw [Nat.zero_testBit, Bool.false_or] at hbit
      unfold f_ShutWays_isPassedWithCarts_101
      rw [if_pos (nI_le (Nat.le_refl _) (by omega)), w1, Option.bind_some]
      dsimp only
      by_cases q : s0 ∈ dw fr to (ycr ya ct S) i mk qu sh d
      · rw [if_neg (fun z => by rw [(chas_ok (by omega) (by omega)).mp z] at hbit; simp [q] at hbit)]
        exact ⟨1, _, _, _, _, _, _, rfl, Or.inl ⟨rfl, q⟩⟩
      · rw [if_pos ((chas_ok (by omega) (by omega)).mpr (by rw [hbit]; simpa using q))]
        exact ⟨0, _, _, _, _, _, _, rfl, Or.inr ⟨rfl, q⟩⟩
    · obtain ⟨b1, b2, b3⟩ := hy i (by omega)
      unfold f_ShutWays_isPassedWithCarts_35
      rw [if_neg (nI_ge (by omega) (by omega))]
      simp only [gixN (show i < 16 by omega) (by decide : 16 < 2 ^ 31), nIc (show i < 2 ^ 31 by omega), b1, nmI, nI_add, nI_1, Int32.add_zero]
      have go : ∀ v : Nat, v = ycr ya ct S i → ∃ (b wc' ws' wy' : Int32) (far' D' wst' : Nat → Int32), f_ShutWays_isPassedWithCarts_2 n (nI s0) (nI S) (nI (i + 1)) (nI ct) (nI K) market quay hasOdd oddM oddQ (nI d) wc ws wy (nI K) 16 shut 8 far 16 sf 16 st 16 (upd D i (nI v)) 8 wst 16 sy = some (b, wc', ws', wy', far', D', wst') ∧ ((b = 1 ∧ s0 ∈ dw fr to (ycr ya ct S) K mk qu sh d) ∨ (b = 0 ∧ ¬ s0 ∈ dw fr to (ycr ya ct S) K mk qu sh d)) := by
        intro v hv
        refine ih (i + 1) _ wc ws wy far wst (by omega) (by omega) ?_
        intro s hs
        by_cases e : s = i
        · subst e; rw [pk_us, hv]
        · rw [pk_un e]; exact hD s (by omega)
      by_cases z : S.testBit i = true
      · rw [if_neg (fun q => by rw [(chas_ok hS (by omega)).mp q] at z; cases z)]
        exact go (ya i + ct) (by unfold ycr; rw [if_pos z])
      · rw [if_pos ((chas_ok hS (by omega)).mpr (by simpa using z))]
        exact go (ya i) (by unfold ycr; rw [if_neg z, Nat.add_zero])
theorem pw_ok (hK : K ≤ 12) (hC : C ≤ 8) (hg : ∀ s, s < K → sf s = nI (fr s) ∧ st s = nI (to s) ∧ fr s < C ∧ to s < C ∧ fr s ≠ to s) (hy : ∀ s, s < K → sy s = nI (ya s) ∧ 1 ≤ ya s ∧ ya s ≤ 99) (hct : ct ≤ 99) (S1 : CodS K sh shut) (E : EndsC C mk qu market quay hasOdd oddM oddQ) (hd : d ≤ 9999) (hs0 : s0 < K) {S : Nat} (hS : S < 2 ^ 31) (D : Nat → Int32) (wc ws wy : Int32) (far wst : Nat → Int32) :
    ∃ (b wc' ws' wy' : Int32) (far' D' wst' : Nat → Int32), f_ShutWays_isPassedWithCarts (nI s0) (nI S) (nI ct) (nI K) market quay hasOdd oddM oddQ (nI d) wc ws wy (nI K) 16 shut 8 far 16 sf 16 st 16 D 8 wst 16 sy = some (b, wc', ws', wy', far', D', wst') ∧ ((b = 1 ∧ s0 ∈ dw fr to (ycr ya ct S) K mk qu sh d) ∨ (b = 0 ∧ ¬ s0 ∈ dw fr to (ycr ya ct S) K mk qu sh d)) := by
  unfold f_ShutWays_isPassedWithCarts
  have hFU : 20 < FU := by rw [FU_eq]; decide
  generalize FU = M0 at hFU ⊢
  exact pw2 hK hC hg hy hct S1 E hd hs0 hS M0 0 D wc ws wy far wst (Nat.zero_le _) (by omega) (fun s hs => absurd hs (Nat.not_lt_zero _))
/-- go on looking, or too dear -/
theorem Bs.test {p : Nat → Prop} {cost : Nat → Nat} {n : Nat} {b c : Int32} (h : Bs p cost n b c) (h2 : b = -1 → c = 100000) (hn : n < 2 ^ 20) (hc : ∀ v, cost v < 100000) : (c ≤ nI (cost n) ∧ ¬ b = -1 ∧ ∃ v, b = nI v ∧ v < 2 ^ 31 ∧ cost v ≤ cost n) ∨ (¬ c ≤ nI (cost n) ∧ (b = -1 ∨ ∀ v, v < 2 ^ 31 → b = nI v → cost n < cost v)) := by
  have hcn := hc n
  rcases h with ⟨h1, -⟩ | ⟨v, v1, v2, v3, v4, v5⟩
  · right
    rw [h2 h1]
    exact ⟨nI_ge (b := 100000) (by omega) (by decide), Or.inl h1⟩
  · have hcv := hc v
    by_cases q : cost v ≤ cost n
    · left
      rw [v3]
      exact ⟨nI_le q (by omega), by rw [v2]; exact nI_m1 (by omega), v, v2, by omega, q⟩
    · right
      rw [v3]
      refine ⟨nI_ge (by omega) (by omega), Or.inr fun w hw e => ?_⟩
      have : w = v := (nI_eq hw (by omega)).mp (e.symm.trans v2)
      rw [this]
      omega
theorem Bs.test2 {p : Nat → Prop} {cost : Nat → Nat} {n : Nat} {b c : Int32} (h : Bs p cost n b c) (hn : n < 2 ^ 20) (hc : ∀ v, cost v < 100000) : (c ≤ nI (cost n) ∧ ¬ b = -1 ∧ ∃ v, b = nI v ∧ v < 2 ^ 31 ∧ cost v ≤ cost n) ∨ ((b = -1 ∨ ¬ c ≤ nI (cost n)) ∧ (b = -1 ∨ ∀ v, v < 2 ^ 31 → b = nI v → cost n < cost v)) := by
  have hcn := hc n
  rcases h with ⟨h1, -⟩ | ⟨v, v1, v2, v3, v4, v5⟩
  · right
    exact ⟨Or.inl h1, Or.inl h1⟩
  · have hcv := hc v
    by_cases q : cost v ≤ cost n
    · left
      rw [v3]
      exact ⟨nI_le q (by omega), by rw [v2]; exact nI_m1 (by omega), v, v2, by omega, q⟩
    · right
      rw [v3]
      refine ⟨Or.inr (nI_ge (by omega) (by omega)), Or.inr fun w hw e => ?_⟩
      have : w = v := (nI_eq hw (by omega)).mp (e.symm.trans v2)
      rw [this]
      omega
theorem Bs.ne {p : Nat → Prop} {cost : Nat → Nat} {n : Nat} {b c : Int32} (h : Bs p cost n b c) (hn : n < 2 ^ 20) : ¬ b = nI n := by
  rcases h with ⟨h1, -⟩ | ⟨v, v1, v2, -⟩
  · rw [h1]; exact fun e => nI_m1 (show n < 2 ^ 31 by omega) e.symm
  · rw [v2]; exact nI_ne (by omega) (by omega) (by omega)
theorem ccart76 (hK : K ≤ 12) (hC : C ≤ 8) (hg : ∀ s, s < K → sf s = nI (fr s) ∧ st s = nI (to s) ∧ fr s < C ∧ to s < C ∧ fr s ≠ to s) (hy : ∀ s, s < K → sy s = nI (ya s) ∧ 1 ≤ ya s ∧ ya s ≤ 99) (hct : ct ≤ 99) (S1 : CodS K sh shut) (E : EndsC C mk qu market quay hasOdd oddM oddQ) (hd : d ≤ 9999) (hs0 : s0 < K) {pr : Nat → Nat} {sp : Nat → Int32} (hpr : ∀ s, s < K → sp s = nI (pr s) ∧ pr s ≤ 99) {U : Nat} (hU : U < 2 ^ 20) {a2 : Int32} (ha2 : a2 = 0 ∨ a2 = 1) (pco pma pqu pho pom poq pki pni dco dki dni dca dlc lc : Int32) (psf pst dsp dlf dlt dly dlp lf lt ly lp : Nat → Int32) :
    ∀ (n S : Nat) (b c wc ws wy : Int32) (D far wst : Nat → Int32), S ≤ 2 ^ K → 2 ^ K - S < n → Bs (fun T => T &&& U = 0 ∧ s0 ∈ dw fr to (ycr ya ct T) K mk qu sh d) (fun T => pdf T pr K) S b c → (b = -1 → c = 100000) →
    ∃ (r : Int32) (q1 : _) (b' c' : Int32), f_ShutWays_carts_76 n (nI s0) a2 (nI U) b c (nI S) pco pma pqu pho pom poq pki pni (nI ct) (nI K) (nI d) 16 shut dco market quay hasOdd oddM oddQ dki dni dca (nI K) 16 psf 16 pst 16 sy 16 sp 16 sf 16 st 16 D 16 dsp dlc lc 4 lf 4 lt 4 ly 4 lp 4 dlf 4 dlt 4 dly 4 dlp wc ws wy 8 far 8 wst = some (r, q1) ∧ Bs (fun T => T &&& U = 0 ∧ s0 ∈ dw fr to (ycr ya ct T) K mk qu sh d) (fun T => pdf T pr K) (2 ^ K) b' c' ∧ r = ansK a2 b' c' := by
  have hp : 2 ^ K ≤ 4096 := Nat.pow_le_pow_right (by decide) hK
  have hcost : ∀ T, pdf T pr K < 100000 := by
    intro T
    have := pdf_le (S := T) (pr := pr) K (fun s hs => (hpr s hs).2)
    omega
  intro n
  induction n with
  | zero => intro S b c wc ws wy D far wst _ h; omega
  | succ n ih =>
    intro S b c wc ws wy D far wst hS hn hB hc
    rw [show f_ShutWays_carts_76 (n + 1) = b_ShutWays_carts_76 (f_ShutWays_carts_76 n) from rfl]
    unfold b_ShutWays_carts_76
    rw [nI_bit K (by omega)]
    by_cases cS : S = 2 ^ K
    · unfold f_ShutWays_carts_170
      rw [if_pos (nI_le (by omega) (by omega))]
      rw [cS] at hB
      by_cases z : b = -1
      · rw [if_pos z]
        exact ⟨_, _, b, c, rfl, hB, by unfold ansK; rw [if_pos z]⟩
      · rw [if_neg z]
        by_cases z2 : a2 = 0
        · rw [if_pos z2]
          exact ⟨_, _, b, c, rfl, hB, by unfold ansK; rw [if_neg z, if_pos z2]⟩
        · rw [if_neg z2]
          exact ⟨_, _, b, c, rfl, hB, by unfold ansK; rw [if_neg z, if_neg z2]⟩
    · have hS' : S < 2 ^ 31 := by omega
      unfold f_ShutWays_carts_145
      rw [if_neg (nI_ge (by omega) (by omega)), nI_and, nI_1]
      by_cases u : S &&& U = 0
      · rw [if_pos (by rw [u]; rfl), paid_ok (N := 16) (by omega) (by decide) hS' (fun s hs => (hpr s hs).1), Option.bind_some]
        rcases hB.test hc (by omega) hcost with ⟨t1, t2, v, t3, t4, t5⟩ | ⟨t1, t2⟩
        · rw [if_pos t1]
          exact ih (S + 1) b c _ _ _ _ _ _ (by omega) (by omega) (hB.dear t3 t4 hS' t5) hc
        · obtain ⟨r, wc', ws', wy', far', D', wst', u1, u2⟩ := pw_ok hK hC hg hy hct S1 E hd hs0 hS' D wc ws wy far wst
          rw [if_neg t1, u1, Option.bind_some]
          dsimp only
          rcases u2 with ⟨rfl, u2⟩ | ⟨rfl, u2⟩
          · rw [if_neg one_ne, Option.bind_some]
            exact ih (S + 1) _ _ _ _ _ _ _ _ (by omega) (by omega) (hB.take ⟨u, u2⟩ t2 hS') (fun z => absurd z (nI_m1 hS'))
          · rw [if_pos rfl]
            exact ih (S + 1) b c _ _ _ _ _ _ (by omega) (by omega) (hB.keep (fun z => u2 z.2)) hc
      · have hlt : S &&& U < 2 ^ 31 := Nat.lt_of_le_of_lt Nat.and_le_left hS'
        rw [if_neg (fun z => u ((nI_z hlt).mp z))]
        exact ih (S + 1) b c _ _ _ _ _ _ (by omega) (by omega) (hB.keep (fun z => u z.1)) hc
theorem mcost48 (hK : K ≤ 12) {pr : Nat → Nat} {price : Nat → Int32} (hpr : ∀ s, s < K → price s = nI (pr s)) {S : Nat} (hS : S < 2 ^ 31) (k31 : _) (x1 x2 x3 x4 wm da : Int32) (L0 W0 : Nat → Int32) :
    ∀ n i, i ≤ K → K - i < n → f_ShutWaysModel_carts_48 k31 n x1 x2 x3 x4 (nI S) (nI (pdf S pr i)) (nI i) (nI C) (nI K) tw (nI ct) da (nI K) wm 12 price 8 L0 4 en 16 G 16 my 16 mf 16 mt 16 W0 =
      if x3 = (-1) then f_ShutWaysModel_carts_101 k31 x1 x2 x3 x4 (nI S) (nI (pdf S pr K)) (nI C) (nI K) tw (nI ct) da (nI K) wm 12 price 8 L0 4 en 16 G 16 my 16 mf 16 mt 16 W0 else if x4 ≤ nI (pdf S pr K) then f_ShutWaysModel_carts_186 k31 x1 x2 x3 x4 (nI S) (nI C) (nI K) tw (nI ct) da (nI K) wm 12 price 8 L0 4 en 16 G 16 my 16 mf 16 mt 16 W0 else f_ShutWaysModel_carts_101 k31 x1 x2 x3 x4 (nI S) (nI (pdf S pr K)) (nI C) (nI K) tw (nI ct) da (nI K) wm 12 price 8 L0 4 en 16 G 16 my 16 mf 16 mt 16 W0 := by
  intro n
  induction n with
  | zero => intro i _ h; omega
  | succ n ih =>
    intro i hi hn
    rw [show f_ShutWaysModel_carts_48 k31 (n + 1) = b_ShutWaysModel_carts_48 k31 (f_ShutWaysModel_carts_48 k31 n) from rfl]
    unfold b_ShutWaysModel_carts_48
    by_cases c : i = K
    · subst c
      rw [if_pos (nI_le (Nat.le_refl _) (by omega))]
    · have h := ih (i + 1) (by omega) (by omega)
      unfold f_ShutWaysModel_carts_80
      rw [if_neg (nI_ge (by omega) (by omega)), mhas_ok hS (by omega), Option.bind_some, gixN (show i < 12 by omega) (by decide), nIc (by omega), hpr i (by omega), nI_add, nI_1]
      by_cases z : S.testBit i = true
      · rw [if_pos z, if_neg one_ne]
        rw [show pdf S pr (i + 1) = pdf S pr i + pr i by show pdf S pr i + _ = _; rw [if_pos z]] at h
        exact h
      · rw [if_neg z, if_pos rfl, Int32.add_zero]
        rw [show pdf S pr (i + 1) = pdf S pr i by show pdf S pr i + _ = _; rw [if_neg z]; rfl] at h
        exact h
theorem mc115 {L : List Nat} (hl : L.length ≤ 7) {W : Nat → Int32} (hW : ∀ i, i < L.length → W i = nI (L.getD i 0)) (hm : ∀ s, s ∈ L → s < 16) (hs0 : s0 < 16) (k31 : _) (a2 b c sS cost y da : Int32) (hy : s0 ∈ L → ¬ y = -1) (price L0 : Nat → Int32) :
    ∀ (n i : Nat) (f : Int32), i ≤ L.length → L.length - i < n → ((f = 1 ∧ s0 ∈ L) ∨ (f = 0 ∧ (s0 ∈ L ↔ s0 ∈ L.drop i))) → f_ShutWaysModel_carts_115 k31 n (nI s0) a2 b c sS cost y f (nI i) (nI C) (nI K) tw (nI ct) da (nI K) (nI L.length) 12 price 8 L0 4 en 16 G 16 my 16 mf 16 mt 16 W = f_ShutWaysModel_carts_170 k31 (nI s0) a2 c sS cost (if s0 ∈ L then sS else b) (nI C) (nI K) tw (nI ct) da (nI K) (nI L.length) 12 price 8 L0 4 en 16 G 16 my 16 mf 16 mt 16 W := by
  intro n
  induction n with
  | zero => intro i f _ h; omega
  | succ n ih =>
    intro i f hi hn hf
    rw [show f_ShutWaysModel_carts_115 k31 (n + 1) = b_ShutWaysModel_carts_115 k31 (f_ShutWaysModel_carts_115 k31 n) from rfl]
    unfold b_ShutWaysModel_carts_115 f_ShutWaysModel_carts_169
    by_cases e : i = L.length
    · rw [if_pos (nI_le (by omega) (by omega))]
      rcases hf with ⟨rfl, q⟩ | ⟨rfl, q⟩
      · rw [if_neg one_ne, if_neg (hy q), if_pos q]
      · rw [e, List.drop_length] at q
        have nq : ¬ s0 ∈ L := fun z => by cases q.mp z
        rw [if_pos rfl, if_neg nq]
    · have hi' : i < L.length := by omega
      unfold f_ShutWaysModel_carts_140 f_ShutWaysModel_carts_145
      rw [if_neg (nI_ge hi' (by omega)), nI_1]
      rcases hf with ⟨rfl, q⟩ | ⟨rfl, q⟩
      · rw [if_neg one_ne]
        exact ih (i + 1) 1 (by omega) (by omega) (Or.inl ⟨rfl, q⟩)
      · have hs := hm _ (getD_mem hi')
        have hdr := drop_getD hi'
        rw [if_pos rfl, gixN (show i < 16 by omega) (by decide), nIc (by omega), hW i hi']
        rw [hdr] at q
        generalize L.getD i 0 = s at *
        by_cases e2 : s = s0
        · subst e2
          rw [if_pos rfl]
          exact ih (i + 1) 1 (by omega) (by omega) (Or.inl ⟨rfl, q.mpr (List.mem_cons_self ..)⟩)
        · rw [if_neg (nI_ne (by omega) (by omega) e2)]
          refine ih (i + 1) 0 (by omega) (by omega) (Or.inr ⟨rfl, q.trans ?_⟩)
          constructor
          · intro z
            rcases List.mem_cons.mp z with w | w
            · exact absurd w.symm e2
            · exact w
          · exact fun z => List.mem_cons_of_mem _ z
theorem mcart31 (hK : K ≤ 12) (hC : C ≤ 8) (hg : ∀ s, s < K → mf s = nI (fr s) ∧ mt s = nI (to s) ∧ fr s < C ∧ to s < C ∧ fr s ≠ to s) (hy : ∀ s, s < K → my s = nI (ya s) ∧ 1 ≤ ya s ∧ ya s ≤ 99) (hct : ct ≤ 99) (S1 : CodS K sh G) (E : EndsC C mk qu market quay hasOdd oddM oddQ) (M : EndsM mk qu tw en) (hd : d ≤ 9999) (hs0 : s0 < K) {pr : Nat → Nat} {price : Nat → Int32} (hpr : ∀ s, s < K → price s = nI (pr s) ∧ pr s ≤ 99) {a2 : Int32} (ha2 : a2 = 0 ∨ a2 = 1) :
    ∀ (n S : Nat) (b c wm : Int32) (L0 W0 : Nat → Int32), S ≤ 2 ^ K → 2 ^ K - S < n → Bs (fun T => s0 ∈ dw fr to (ycr ya ct T) K mk qu sh d) (fun T => pdf T pr K) S b c →
    ∃ (r : Int32) (q1 : _) (b' c' : Int32), f_ShutWaysModel_carts_31 n (nI s0) a2 b c (nI S) (nI C) (nI K) tw (nI ct) (nI d) (nI K) wm 12 price 8 L0 4 en 16 G 16 my 16 mf 16 mt 16 W0 = some (r, q1) ∧ Bs (fun T => s0 ∈ dw fr to (ycr ya ct T) K mk qu sh d) (fun T => pdf T pr K) (2 ^ K) b' c' ∧ r = ansK a2 b' c' := by
  have hFU : 2000 < FU := by rw [FU_eq]; decide
  have f1 : FARn = 1000000 := rfl
  have hp : 2 ^ K ≤ 4096 := Nat.pow_le_pow_right (by decide) hK
  have hcost : ∀ T, pdf T pr K < 100000 := by
    intro T
    have := pdf_le (S := T) (pr := pr) K (fun s hs => (hpr s hs).2)
    omega
  obtain ⟨-, -, x3, x4, x5⟩ := E d (by omega)
  obtain ⟨m1, m2⟩ := M d (by omega)
  intro n
  induction n with
  | zero => intro S b c wm L0 W0 _ h; omega
  | succ n ih =>
    intro S b c wm L0 W0 hS hn hB
    rw [show f_ShutWaysModel_carts_31 (n + 1) = b_ShutWaysModel_carts_31 (f_ShutWaysModel_carts_31 n) from rfl]
    unfold b_ShutWaysModel_carts_31
    rw [nI_bit K (by omega)]
    by_cases cS : S = 2 ^ K
    · unfold f_ShutWaysModel_carts_202 f_ShutWaysModel_carts_208
      rw [if_pos (nI_le (by omega) (by omega))]
      rw [cS] at hB
      by_cases z : b = -1
      · rw [if_pos z]
        exact ⟨_, _, b, c, rfl, hB, by unfold ansK; rw [if_pos z]; exact z⟩
      · rw [if_neg z]
        rcases ha2 with rfl | rfl
        · rw [if_neg (by decide)]
          exact ⟨_, _, b, c, rfl, hB, by unfold ansK; rw [if_neg z, if_pos rfl]⟩
        · rw [if_pos rfl]
          exact ⟨_, _, b, c, rfl, hB, by unfold ansK; rw [if_neg z, if_neg one_ne]⟩
    · have hS' : S < 2 ^ 31 := by omega
      have hFU2 := hFU
      generalize FU = M0 at hFU ⊢
      have k := mcost48 (C := C) (mf := mf) (mt := mt) (my := my) (en := en) (G := G) (tw := tw) (ct := ct) hK (fun s hs => (hpr s hs).1) hS' (f_ShutWaysModel_carts_31 n) (nI s0) a2 b c wm (nI d) L0 W0 M0 0 (Nat.zero_le _) (by omega)
      rw [show nI (pdf S pr 0) = 0 from rfl, nI_0] at k
      rw [if_neg (nI_ge (by omega) (by omega)), k]
      clear k
      rcases hB.test2 (by omega) hcost with ⟨t1, t2, v, t3, t4, t5⟩ | ⟨t1, t2⟩
      · unfold f_ShutWaysModel_carts_186
        rw [if_neg t2, if_pos t1, nI_1]
        exact ih (S + 1) b c _ _ _ (by omega) (by omega) (hB.dear t3 t4 hS' t5)
      · rw [ite_bb _ _ _ _ _ t1]
        have hcod : Cod K C fr to (ycr ya ct S) sh mf mt (fun s => nI (ycr ya ct S s)) G := by
          intro s hs
          obtain ⟨a1, a2, a3, a4, a5⟩ := hg s hs
          obtain ⟨b1, b2, b3⟩ := hy s hs
          obtain ⟨c1, c2, -⟩ := S1 s (by omega)
          refine ⟨a1, a2, rfl, c2, a3, a4, a5, ?_, ?_, c1⟩
          · unfold ycr; omega
          · unfold ycr; split <;> omega
        have hM : CodM K C fr to (ycr ya ct S) ya sh mf mt my G (fun s => S.testBit s) ct (nI S) := ⟨fun s hs => mhas_ok hS' (by omega), fun s _ => rfl, fun s hs => (hy s hs).1, hcod⟩
        obtain ⟨L', W', v1, v2⟩ := layWay_ok (show K ≤ 16 by omega) hC hM x4 tw (nI d) wm x3 m1 m2 L0 W0
        obtain ⟨-, -, -, w2, -⟩ := find_ok (show K ≤ 16 by omega) hC hcod x4 x3 0 0 0 L0 W0
        have hmem := wyl_mem (sh := sh) hC x4 hcod.b4 x3
        have hnil := wyl_nil (fr := fr) (to := to) (ya := ycr ya ct S) (sh := sh) (K := K) x5
        unfold f_ShutWaysModel_carts_101
        rw [v1, Option.bind_some]
        dsimp only
        have e115 := mc115 (C := C) (K := K) (mf := mf) (mt := mt) (my := my) (en := en) (G := G) (tw := tw) (ct := ct) (s0 := s0) w2 v2 (fun s hs => by have := (hmem s hs).1; omega) (by omega) (f_ShutWaysModel_carts_31 n) a2 b c (nI S) (nI (pdf S pr K)) (if dst fr to (ycr ya ct S) sh K (qu d) (mk d) < FARn then nI (dst fr to (ycr ya ct S) sh K (qu d) (mk d)) else -1) (nI d) (by
          intro z
          have : dst fr to (ycr ya ct S) sh K (qu d) (mk d) < FARn := Classical.byContradiction (fun q => by rw [hnil.mpr q] at z; cases z)
          rw [if_pos this]
          exact nI_m1 (by omega)) price L' FU 0 0 (Nat.zero_le _) (by omega) (Or.inr ⟨rfl, Iff.rfl⟩)
        rw [nI_0] at e115
        rw [e115]
        clear e115
        unfold f_ShutWaysModel_carts_170 f_ShutWaysModel_carts_184 f_ShutWaysModel_carts_186
        rw [nI_1]
        by_cases u : s0 ∈ wyl fr to (ycr ya ct S) sh K (qu d) (mk d)
        · rw [if_pos u, if_pos rfl]
          exact ih (S + 1) _ _ _ _ _ (by omega) (by omega) (hB.take u t2 hS')
        · rw [if_neg u, if_neg (hB.ne (by omega))]
          exact ih (S + 1) b c _ _ _ (by omega) (by omega) (hB.keep u)
end Carts
section Core10
variable {C K : Nat} {corners market quay hasOdd oddM oddQ kind nights cart sc : Int32} {sf st sy sp : Nat → Int32} {lc : Int32} {lf lt ly lp : Nat → Int32} {mcorners mstreets mtwice mcouncil mnights mlanes mcart mall : Int32} {mfrom mto myards mprice mend mlane : Nat → Int32} {gone mday : Int32} {shut mshut : Nat → Int32}
theorem IPlan.pr (hP : IPlan C K corners market quay hasOdd oddM oddQ kind nights cart sc sf st sy sp lc lf lt ly lp mcorners mstreets mtwice mcouncil mnights mlanes mcart mall mfrom mto myards mprice mend mlane) : ∃ pr : Nat → Nat, ∀ s, s < K → sp s = nI (pr s) ∧ mprice s = nI (pr s) ∧ pr s ≤ 99 := by
  obtain ⟨-, -, -, hr, -⟩ := hP
  refine ⟨fun s => (sp s).toNatClampNeg, fun s hs => ?_⟩
  obtain ⟨a, b, y, p, h1, h2, h3, h4, h5, h6, g1, g2, g3, g4, g5, g6, g7, g8⟩ := hr s hs
  simp only [g7, g8, nIc (show p < 2 ^ 31 by omega)]
  exact ⟨trivial, trivial, h6⟩
theorem carts_core (hP : IPlan C K corners market quay hasOdd oddM oddQ kind nights cart sc sf st sy sp lc lf lt ly lp mcorners mstreets mtwice mcouncil mnights mlanes mcart mall mfrom mto myards mprice mend mlane) (hD : IDays K gone shut mday mshut) (a1 a2 wc ws wy wm : Int32) (far wst L0 W0 : Nat → Int32) (dco dma dqu dho dom doq dki dni dca dsc dlc : Int32) (dsf dst dsy dsp dlf dlt dly dlp : Nat → Int32) :
    ∃ r1, f_ShutWays_carts a1 a2 corners market quay hasOdd oddM oddQ kind nights cart sc gone 16 shut dco dma dqu dho dom doq dki dni dca dsc 16 sf 16 st 16 sy 16 sp 16 dsf 16 dst 16 dsy 16 dsp dlc lc 4 lf 4 lt 4 ly 4 lp 4 dlf 4 dlt 4 dly 4 dlp wc ws wy 8 far 8 wst = some r1 ∧ ∃ r2, f_ShutWaysModel_carts a1 a2 mcorners mstreets mtwice mcart mday mall wm 12 mprice 8 L0 4 mend 16 mshut 16 myards 16 mfrom 16 mto 16 W0 = some r2 ∧ r1.1 = r2.1 := by
  obtain ⟨fr, to, ya, mk, qu, kd, nn, ct, T, e1, e2, e3, e4, e5, e6, -, -, -, hct, hya⟩ := hP.tw
  obtain ⟨pr, hpr⟩ := hP.pr
  have ho := hP.odd
  obtain ⟨⟨-, -, h12⟩, ⟨-, e8⟩, ⟨e9, e10, e11⟩, -, ⟨ln, hl, e14, -, -⟩, -⟩ := hP
  obtain ⟨d, sh, hd, e12, e13, S1, S2⟩ := id hD.g
  subst e1; subst e3; subst e5; subst e6; subst e8; subst e9; subst e10; subst e11; subst e12; subst e13; subst e14
  obtain ⟨hK, hC, G1, G2, E, M, hkd, hnn⟩ := T
  have hFU : 20000 < FU := by rw [FU_eq]; decide
  have hp : 2 ^ K ≤ 4096 := Nat.pow_le_pow_right (by decide) h12
  unfold f_ShutWays_carts f_ShutWaysModel_carts
  generalize FU = M0 at hFU ⊢
  rcases has_ok a1 (show K < 2 ^ 31 by omega) with ⟨h1, n1⟩ | ⟨h1, s0, hs0, rfl⟩
  · rcases isStreet_ok a1 h12 with ⟨h2, n2⟩ | ⟨h2, n2⟩
    · rw [h1, h2, Option.bind_some, Option.bind_some, if_pos rfl, if_pos rfl]
      exact ⟨_, rfl, _, rfl, rfl⟩
    · exact absurd n2 n1
  · rcases isStreet_ok (nI s0) h12 with ⟨h2, n2⟩ | ⟨h2, n2⟩
    · exact absurd ⟨s0, hs0, rfl⟩ n2
    · rw [h1, h2, Option.bind_some, Option.bind_some, if_neg one_ne, if_neg one_ne, outside_ok, in_ok, Option.bind_some, Option.bind_some]
      by_cases c : a2 < 0 ∨ 1 < a2
      · rw [if_pos c, if_pos c, if_neg one_ne, if_pos rfl]
        exact ⟨_, rfl, _, rfl, rfl⟩
      · have ha2 : a2 = 0 ∨ a2 = 1 := by
          obtain ⟨k, k1, k2, rfl⟩ := i32_rng (v := a2) (a := 0) (b := 1) (by decide) (by decide) c
          rcases (show k = 0 ∨ k = 1 by omega) with rfl | rfl
          · exact Or.inl rfl
          · exact Or.inr rfl
        obtain ⟨t1, t2, -⟩ := S1 s0 (by omega)
        rw [if_neg c, if_neg c, if_pos rfl, if_neg one_ne, gixN (show s0 < 16 by omega) (by decide), nIc (by omega), t2]
        have hgM : ∀ s, s < K → mfrom s = nI (fr s) ∧ mto s = nI (to s) ∧ fr s < C ∧ to s < C ∧ fr s ≠ to s := fun s hs => ⟨(G2 s hs).1, (G2 s hs).2.1, (G2 s hs).2.2.2.1, (G2 s hs).2.2.2.2.1, (G2 s hs).2.2.2.2.2.1⟩
        have hyM : ∀ s, s < K → myards s = nI (ya s) ∧ 1 ≤ ya s ∧ ya s ≤ 99 := fun s hs => ⟨(G2 s hs).2.2.1, (G2 s hs).2.2.2.2.2.2.1, hya s hs⟩
        have hyC : ∀ s, s < K → sy s = nI (ya s) ∧ 1 ≤ ya s ∧ ya s ≤ 99 := fun s hs => ⟨(G1 s hs).2.2.1, (G1 s hs).2.2.2.2.2.2.1, hya s hs⟩
        obtain ⟨r2, q2, b2, c2, m1, m2, m3⟩ := mcart31 h12 hC hgM hyM hct S2 E M hd hs0 (fun s hs => ⟨(hpr s hs).2.1, (hpr s hs).2.2⟩) ha2 M0 0 (-1) 0 wm L0 W0 (Nat.zero_le _) (by omega) (Or.inl ⟨rfl, fun T hT => absurd hT (Nat.not_lt_zero _)⟩)
        rw [nI_0] at m1
        obtain ⟨x1, x2, x3, x4, x5⟩ := E d (by omega)
        by_cases z : sh s0 = 0
        · obtain ⟨f', t', y', p', f2, t2', y2, p2, q1, q3, q4⟩ := pcopy_ok h12 hl corners market quay hasOdd oddM oddQ (nI kd) (nI nn) (nI ct) sf st sy sp lf lt ly lp ho dco dma dqu dho dom doq dki dni dca dsc dsf dst dsy dsp dlc dlf dlt dly dlp
          rw [if_pos (show nI (sh s0) ≤ 0 from nI_le (b := 0) (by omega) (by decide)), shutSet_ok S1 hK, Option.bind_some, nI_bit s0 (by omega), nI_or]
          simp only [nmI]
          rw [q1, Option.bind_some]
          dsimp only
          have hU : ssm sh K ||| 2 ^ s0 < 2 ^ 12 := Nat.or_lt_two_pow (Nat.lt_of_lt_of_le (ssm_lt sh K) (Nat.pow_le_pow_right (by decide) h12)) (Nat.pow_lt_pow_right (by decide) (by omega))
          have hgC : ∀ s, s < K → f' s = nI (fr s) ∧ t' s = nI (to s) ∧ fr s < C ∧ to s < C ∧ fr s ≠ to s := fun s hs => ⟨(q3 s hs).1.trans (G1 s hs).1, (q3 s hs).2.1.trans (G1 s hs).2.1, (G1 s hs).2.2.2.1, (G1 s hs).2.2.2.2.1, (G1 s hs).2.2.2.2.2.1⟩
          obtain ⟨r1, q5, b1, c1, k1, k2, k3⟩ := ccart76 h12 hC hgC hyC hct S1 E hd hs0 (fun s hs => ⟨(hpr s hs).1, (hpr s hs).2.2⟩) (U := ssm sh K ||| 2 ^ s0) (by omega) ha2 corners market quay hasOdd oddM oddQ (nI kd) (nI nn) corners (nI kd) (nI nn) (nI ct) (nI ln) (nI ln) sf st p' f2 t2' y2 p2 lf lt ly lp M0 0 (-1) 100000 wc ws wy y' far wst (Nat.zero_le _) (by omega) (Or.inl ⟨rfl, fun T hT => absurd hT (Nat.not_lt_zero _)⟩) (fun _ => rfl)
          rw [nI_0] at k1
          refine ⟨_, k1, _, m1, ?_⟩
          show r1 = r2
          obtain ⟨g1, g2⟩ := k2.same m2 (fun T _ h => h.2) (by
            intro T hT hpT
            refine ⟨minus T (ssm sh K ||| 2 ^ s0), minus_le _ _, ⟨minus_and _ _, ?_⟩, pdf_mono (fun i hi => ?_) K⟩
            · have hbU : ∀ i, (ssm sh K ||| 2 ^ s0).testBit i = ((decide (i < K) && !decide (sh i = 0)) || decide (s0 = i)) := by
                intro i
                rw [Nat.testBit_or, ssm_bit, Nat.testBit_two_pow]
              have e0 : ycr ya ct T s0 = ycr ya ct (minus T (ssm sh K ||| 2 ^ s0)) s0 + (if T.testBit s0 = true then ct else 0) := by
                unfold ycr
                rw [minus_bit, hbU s0]
                simp
              refine drop_core (ya := ycr ya ct T) hC x4 (fun s hs => ?_) (fun s hs => ?_) e0 (fun s hs h0 hne => ?_) x3 hpT
              · obtain ⟨a1, a2, a3, a4, a5⟩ := hgC s hs
                obtain ⟨b1, b2, b3⟩ := hyC s hs
                exact ⟨a3, a4, a5, by unfold ycr; omega⟩
              · obtain ⟨b1, b2, b3⟩ := hyC s hs
                unfold ycr
                omega
              · unfold ycr
                rw [minus_bit, hbU s]
                have : ¬ s0 = s := fun q => hne q.symm
                simp [h0, this]
            · rw [minus_bit] at hi
              rw [Bool.and_eq_true] at hi
              exact hi.1)
          rw [k3, m3, g1]
          unfold ansK
          by_cases w : b2 = -1
          · rw [if_pos w, if_pos w]
          · rw [if_neg w, if_neg w]
            rcases g2 with g2 | g2
            · exact absurd (g1.symm.trans g2) w
            · rw [g2]
        · rw [if_neg (nI_nle (by omega) (by omega))]
          refine ⟨_, rfl, _, m1, ?_⟩
          show -1 = r2
          rw [m3]
          rcases m2 with ⟨w1, -⟩ | ⟨v, -, -, -, w4, -⟩
          · unfold ansK; rw [if_pos w1]
          · have hb4 : ∀ s, s < K → fr s < C ∧ to s < C ∧ fr s ≠ to s ∧ 1 ≤ ycr ya ct v s := by
              intro s hs
              obtain ⟨a1, a2, a3, a4, a5⟩ := hgM s hs
              obtain ⟨b1, b2, b3⟩ := hyM s hs
              exact ⟨a3, a4, a5, by unfold ycr; omega⟩
            exact absurd (wyl_mem (sh := sh) hC x4 hb4 x3 s0 w4).2 z
end Core10
theorem pl_carts : PL_carts INV := by
  intro x m a1 a2 hI
  obtain ⟨C, K, hT, hP, hD, h0, h1, hN⟩ := hI
  obtain ⟨r1, u1, r2, u2, u3⟩ := carts_core hP hD a1 a2 x.2.2.2.2.2.2.2.2.2.2.2.2.2.2.2.2.2.2.1.1 x.2.2.2.2.2.2.2.2.2.2.2.2.2.2.2.2.2.2.1.2.1 x.2.2.2.2.2.2.2.2.2.2.2.2.2.2.2.2.2.2.1.2.2.1 m.1.2.2.2.2.2.2.2.2.2.2.2 x.2.2.2.2.2.2.2.2.2.2.2.2.2.2.2.2.2.2.1.2.2.2.2 x.2.2.2.2.2.2.2.2.2.2.2.2.2.2.2.2.2.2.1.2.2.2.1 m.2.2.2.2.2.1 m.2.2.2.2.2.2.1 x.2.2.2.2.2.1.1 x.2.2.2.2.2.1.2.1 x.2.2.2.2.2.1.2.2.1 x.2.2.2.2.2.1.2.2.2.1 x.2.2.2.2.2.1.2.2.2.2.1 x.2.2.2.2.2.1.2.2.2.2.2.1 x.2.2.2.2.2.1.2.2.2.2.2.2.1 x.2.2.2.2.2.1.2.2.2.2.2.2.2.1 x.2.2.2.2.2.1.2.2.2.2.2.2.2.2 x.2.2.2.2.2.2.1.1 x.2.2.2.2.2.2.2.1.1 x.2.2.2.2.2.2.1.2.1 x.2.2.2.2.2.2.1.2.2.1 x.2.2.2.2.2.2.1.2.2.2.1 x.2.2.2.2.2.2.1.2.2.2.2 x.2.2.2.2.2.2.2.1.2.1 x.2.2.2.2.2.2.2.1.2.2.1 x.2.2.2.2.2.2.2.1.2.2.2.1 x.2.2.2.2.2.2.2.1.2.2.2.2
  exact ⟨r1, u1, r2, u2, u3, C, K, hT, hP, hD, h0, h1, hN⟩
