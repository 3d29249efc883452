/-! ===== a line of any kind ===== -/
section AnyLine
variable {n w C K a e0 s0 : Nat} {b : Nat → Nat} {B S T : Nat → Int32} {corners market quay hasOdd oddM oddQ kind nights cart sc : Int32} {sf st sy sp : Nat → Int32} {lc : Int32} {lf lt ly lp : Nat → Int32} {mcorners mstreets mtwice mcouncil mnights mlanes mcart mal : Int32} {mend mfrom mto myards mprice mlane : Nat → Int32} {so sta va co ot v0 : Int32} {t0 : Int64} {dg nb fa : Int32} {rd : Nat → Int32}
theorem md_fail (hw : w + 4 < 60) (t0 : Int64) : f_ShutWaysModel_isLine_193 (nI w) (-1) (nI w) (nI n) (nI e0) (nI s0) t0 dg nb fa (nI C) (nI K) lc 200 T 60 rd = some (0, nI e0, nI s0, t0, dg, nb, nI s0, nI C, nI K, lc, upd rd w (-1)) := by
  unfold f_ShutWaysModel_isLine_193 f_ShutWaysModel_fails
  rw [gixN (show w < 60 by omega) (by decide), gixN (show w < 60 by omega) (by decide), nIc (show w < 2 ^ 31 by omega), if_neg (show ¬ upd rd w (-1) w = 0 by rw [pk_us]; decide), if_neg (show ¬ upd rd w (-1) w = 1 by rw [pk_us]; decide), if_neg (show ¬ upd rd w (-1) w = 2 by rw [pk_us]; decide), if_neg (show ¬ upd rd w (-1) w = 3 by rw [pk_us]; decide), if_neg (show ¬ upd rd w (-1) w = 4 by rw [pk_us]; decide), if_neg (show ¬ upd rd w (-1) w = 5 by rw [pk_us]; decide), if_neg (show ¬ upd rd w (-1) w = 6 by rw [pk_us]; decide), if_neg (show ¬ upd rd w (-1) w = 7 by rw [pk_us]; decide), if_neg (show ¬ upd rd w (-1) w = 8 by rw [pk_us]; decide), if_neg (show ¬ upd rd w (-1) w = 9 by rw [pk_us]; decide), if_neg (show ¬ upd rd w (-1) w = 10 by rw [pk_us]; decide)]
  rfl
theorem line_sim (X : TX n b B S T) (ha : a ≤ n) (hw : w + 4 < 60) (hP : IPlan C K corners market quay hasOdd oddM oddQ kind nights cart sc sf st sy sp lc lf lt ly lp mcorners mstreets mtwice mcouncil mnights mlanes mcart (nI K) mfrom mto myards mprice mend mlane) (ta : Int32) (to : Int64) : LineR n w fa rd mcorners mstreets mtwice mcouncil mnights mlanes mcart mal mend mfrom mto myards mprice mlane (f_Text_readLine (nI n) so sta (nI a) va co ot corners market quay hasOdd oddM oddQ kind nights cart 200 S 200 B lc 4 lf 4 lt 4 ly 4 lp sc 16 sp 16 sf 16 st 16 sy) (f_ShutWaysModel_isLine (nI w) (nI n) (nI a) ta to dg nb fa (nI C) (nI K) lc 200 T 60 rd) := by
  obtain ⟨v0, c1, -⟩ := class_tok X so sta va ha
  obtain ⟨t, dg', nb', m1, m2⟩ := model_tok X ta to dg nb ha
  obtain ⟨h1, h2⟩ := sk_le (b := b) ha
  obtain ⟨l1, l2, l3⟩ := te_le (b := b) h2
  have htk := tk_le (n := n) (b := b) (sk n b a)
  have w0 := tw0 X h2 m2
  have w1 := tw1 X h2 m2
  have w2 := tw2 X h2 m2
  have w3 := tw3 X h2 m2
  have w4 := tw4 X h2 m2
  have w5 := tw5 X h2 m2
  have w6 := tw6 X h2 m2
  have w7 := tw7 X h2 m2
  have w8 := tw8 X h2 m2
  have w9 := tw9 X h2 m2
  have w10 := tw10 X h2 m2
  unfold f_ShutWaysModel_isLine
  rw [m1, Option.bind_some]
  dsimp only
  generalize sk n b a = s0 at *
  generalize te n b s0 = e0 at *
  by_cases hk : tk n b s0 = 0
  · rw [hk] at c1
    have c1' : f_Text_readToken (nI n) so sta (nI a) va 200 S 200 B = some (0, nI s0, nI e0, v0) := c1
    obtain ⟨r0, u0, x0⟩ := sp0 X l1 l2
    obtain ⟨r1, u1, x1⟩ := sp1 X l1 l2
    obtain ⟨r2, u2, x2⟩ := sp2 X l1 l2
    obtain ⟨r3, u3, x3⟩ := sp3 X l1 l2
    obtain ⟨r4, u4, x4⟩ := sp4 X l1 l2
    obtain ⟨r5, u5, x5⟩ := sp5 X l1 l2
    obtain ⟨r6, u6, x6⟩ := sp6 X l1 l2
    obtain ⟨r7, u7, x7⟩ := sp7 X l1 l2
    obtain ⟨r8, u8, x8⟩ := sp8 X l1 l2
    obtain ⟨r9, u9, x9⟩ := sp9 X l1 l2
    obtain ⟨r10, u10, x10⟩ := sp10 X l1 l2
    by_cases p0 : isW b s0 e0 [116, 111, 119, 110]
    · skip
      rcases x0 with ⟨rfl, -⟩ | ⟨-, q⟩
      · rw [if_pos (w0.mpr ⟨hk, p0⟩)]
        unfold f_ShutWaysModel_isLine_95 f_ShutWaysModel_isLine_177
        simp only [if_neg (show ¬ (0 : Int32) = -1 by decide), ite_self]
        exact ln_town X hw l2 h2 hP c1' u0
      · exact absurd p0 q
    have y0 : r0 = 0 := by
      rcases x0 with ⟨-, q⟩ | ⟨q, -⟩
      · exact absurd q p0
      · exact q
    subst y0
    by_cases p1 : isW b s0 e0 [115, 116, 114, 101, 101, 116]
    · skip
      rcases x1 with ⟨rfl, -⟩ | ⟨-, q⟩
      · rw [if_neg (fun z => p0 (w0.mp z).2), if_pos (w1.mpr ⟨hk, p1⟩)]
        unfold f_ShutWaysModel_isLine_95 f_ShutWaysModel_isLine_177
        simp only [if_neg (show ¬ (1 : Int32) = -1 by decide), ite_self]
        exact ln_street X hw l2 h2 hP c1' u0 u1
      · exact absurd p1 q
    have y1 : r1 = 0 := by
      rcases x1 with ⟨-, q⟩ | ⟨q, -⟩
      · exact absurd q p1
      · exact q
    subst y1
    by_cases p2 : isW b s0 e0 [112, 114, 105, 99, 101]
    · skip
      rcases x2 with ⟨rfl, -⟩ | ⟨-, q⟩
      · rw [if_neg (fun z => p0 (w0.mp z).2), if_neg (fun z => p1 (w1.mp z).2), if_pos (w2.mpr ⟨hk, p2⟩)]
        unfold f_ShutWaysModel_isLine_95 f_ShutWaysModel_isLine_177
        simp only [if_neg (show ¬ (2 : Int32) = -1 by decide), ite_self]
        exact ln_price X hw l2 h2 hP c1' u0 u1 u2
      · exact absurd p2 q
    have y2 : r2 = 0 := by
      rcases x2 with ⟨-, q⟩ | ⟨q, -⟩
      · exact absurd q p2
      · exact q
    subst y2
    by_cases p3 : isW b s0 e0 [101, 110, 100, 115]
    · skip
      rcases x3 with ⟨rfl, -⟩ | ⟨-, q⟩
      · rw [if_neg (fun z => p0 (w0.mp z).2), if_neg (fun z => p1 (w1.mp z).2), if_neg (fun z => p2 (w2.mp z).2), if_pos (w3.mpr ⟨hk, p3⟩)]
        unfold f_ShutWaysModel_isLine_95 f_ShutWaysModel_isLine_177
        simp only [if_neg (show ¬ (3 : Int32) = -1 by decide), ite_self]
        exact ln_ends X hw l2 h2 hP c1' u0 u1 u2 u3
      · exact absurd p3 q
    have y3 : r3 = 0 := by
      rcases x3 with ⟨-, q⟩ | ⟨q, -⟩
      · exact absurd q p3
      · exact q
    subst y3
    by_cases p4 : isW b s0 e0 [97, 108, 115, 111]
    · skip
      rcases x4 with ⟨rfl, -⟩ | ⟨-, q⟩
      · rw [if_neg (fun z => p0 (w0.mp z).2), if_neg (fun z => p1 (w1.mp z).2), if_neg (fun z => p2 (w2.mp z).2), if_neg (fun z => p3 (w3.mp z).2), if_pos (w4.mpr ⟨hk, p4⟩)]
        unfold f_ShutWaysModel_isLine_95 f_ShutWaysModel_isLine_177
        simp only [if_neg (show ¬ (4 : Int32) = -1 by decide), ite_self]
        exact ln_also X hw l2 h2 hP c1' u0 u1 u2 u3 u4
      · exact absurd p4 q
    have y4 : r4 = 0 := by
      rcases x4 with ⟨-, q⟩ | ⟨q, -⟩
      · exact absurd q p4
      · exact q
    subst y4
    by_cases p5 : isW b s0 e0 [108, 97, 110, 101]
    · skip
      rcases x5 with ⟨rfl, -⟩ | ⟨-, q⟩
      · rw [if_neg (fun z => p0 (w0.mp z).2), if_neg (fun z => p1 (w1.mp z).2), if_neg (fun z => p2 (w2.mp z).2), if_neg (fun z => p3 (w3.mp z).2), if_neg (fun z => p4 (w4.mp z).2), if_pos (w5.mpr ⟨hk, p5⟩)]
        unfold f_ShutWaysModel_isLine_95 f_ShutWaysModel_isLine_177
        simp only [if_neg (show ¬ (5 : Int32) = -1 by decide), ite_self]
        exact ln_lane X hw l2 h2 hP c1' u0 u1 u2 u3 u4 u5
      · exact absurd p5 q
    have y5 : r5 = 0 := by
      rcases x5 with ⟨-, q⟩ | ⟨q, -⟩
      · exact absurd q p5
      · exact q
    subst y5
    by_cases p6 : isW b s0 e0 [99, 97, 114, 116]
    · skip
      rcases x6 with ⟨rfl, -⟩ | ⟨-, q⟩
      · rw [if_neg (fun z => p0 (w0.mp z).2), if_neg (fun z => p1 (w1.mp z).2), if_neg (fun z => p2 (w2.mp z).2), if_neg (fun z => p3 (w3.mp z).2), if_neg (fun z => p4 (w4.mp z).2), if_neg (fun z => p5 (w5.mp z).2)]
        unfold f_ShutWaysModel_isLine_95 f_ShutWaysModel_isLine_177
        rw [if_pos (w6.mpr ⟨hk, p6⟩), if_pos rfl]
        exact ln_cart X hw l2 h2 hP c1' u0 u1 u2 u3 u4 u5 u6
      · exact absurd p6 q
    have y6 : r6 = 0 := by
      rcases x6 with ⟨-, q⟩ | ⟨q, -⟩
      · exact absurd q p6
      · exact q
    subst y6
    by_cases p7 : isW b s0 e0 [102, 105, 114, 115, 116]
    · skip
      rcases x7 with ⟨rfl, -⟩ | ⟨-, q⟩
      · rw [if_neg (fun z => p0 (w0.mp z).2), if_neg (fun z => p1 (w1.mp z).2), if_neg (fun z => p2 (w2.mp z).2), if_neg (fun z => p3 (w3.mp z).2), if_neg (fun z => p4 (w4.mp z).2), if_neg (fun z => p5 (w5.mp z).2)]
        unfold f_ShutWaysModel_isLine_95 f_ShutWaysModel_isLine_177
        rw [if_neg (fun z => p6 (w6.mp z).2), if_pos (w7.mpr ⟨hk, p7⟩), if_pos rfl]
        exact ln_first X hw l2 h2 hP c1' u0 u1 u2 u3 u4 u5 u6 u7
      · exact absurd p7 q
    have y7 : r7 = 0 := by
      rcases x7 with ⟨-, q⟩ | ⟨q, -⟩
      · exact absurd q p7
      · exact q
    subst y7
    by_cases p8 : isW b s0 e0 [108, 97, 115, 116]
    · skip
      rcases x8 with ⟨rfl, -⟩ | ⟨-, q⟩
      · rw [if_neg (fun z => p0 (w0.mp z).2), if_neg (fun z => p1 (w1.mp z).2), if_neg (fun z => p2 (w2.mp z).2), if_neg (fun z => p3 (w3.mp z).2), if_neg (fun z => p4 (w4.mp z).2), if_neg (fun z => p5 (w5.mp z).2)]
        unfold f_ShutWaysModel_isLine_95 f_ShutWaysModel_isLine_177
        rw [if_neg (fun z => p6 (w6.mp z).2), if_neg (fun z => p7 (w7.mp z).2), if_pos (w8.mpr ⟨hk, p8⟩), if_pos rfl]
        exact ln_last X hw l2 h2 hP c1' u0 u1 u2 u3 u4 u5 u6 u7 u8
      · exact absurd p8 q
    have y8 : r8 = 0 := by
      rcases x8 with ⟨-, q⟩ | ⟨q, -⟩
      · exact absurd q p8
      · exact q
    subst y8
    by_cases p9 : isW b s0 e0 [108, 111, 110, 103, 101, 115, 116]
    · skip
      rcases x9 with ⟨rfl, -⟩ | ⟨-, q⟩
      · rw [if_neg (fun z => p0 (w0.mp z).2), if_neg (fun z => p1 (w1.mp z).2), if_neg (fun z => p2 (w2.mp z).2), if_neg (fun z => p3 (w3.mp z).2), if_neg (fun z => p4 (w4.mp z).2), if_neg (fun z => p5 (w5.mp z).2)]
        unfold f_ShutWaysModel_isLine_95 f_ShutWaysModel_isLine_177
        rw [if_neg (fun z => p6 (w6.mp z).2), if_neg (fun z => p7 (w7.mp z).2), if_neg (fun z => p8 (w8.mp z).2), if_pos (w9.mpr ⟨hk, p9⟩), if_pos rfl]
        exact ln_longest X hw l2 h2 hP c1' u0 u1 u2 u3 u4 u5 u6 u7 u8 u9
      · exact absurd p9 q
    have y9 : r9 = 0 := by
      rcases x9 with ⟨-, q⟩ | ⟨q, -⟩
      · exact absurd q p9
      · exact q
    subst y9
    by_cases p10 : isW b s0 e0 [108, 101, 97, 115, 116]
    · skip
      rcases x10 with ⟨rfl, -⟩ | ⟨-, q⟩
      · rw [if_neg (fun z => p0 (w0.mp z).2), if_neg (fun z => p1 (w1.mp z).2), if_neg (fun z => p2 (w2.mp z).2), if_neg (fun z => p3 (w3.mp z).2), if_neg (fun z => p4 (w4.mp z).2), if_neg (fun z => p5 (w5.mp z).2)]
        unfold f_ShutWaysModel_isLine_95 f_ShutWaysModel_isLine_177
        rw [if_neg (fun z => p6 (w6.mp z).2), if_neg (fun z => p7 (w7.mp z).2), if_neg (fun z => p8 (w8.mp z).2), if_neg (fun z => p9 (w9.mp z).2), if_pos (w10.mpr ⟨hk, p10⟩), if_pos rfl]
        exact ln_least X hw l2 h2 hP c1' u0 u1 u2 u3 u4 u5 u6 u7 u8 u9 u10
      · exact absurd p10 q
    have y10 : r10 = 0 := by
      rcases x10 with ⟨-, q⟩ | ⟨q, -⟩
      · exact absurd q p10
      · exact q
    subst y10
    rw [if_neg (fun z => p0 (w0.mp z).2), if_neg (fun z => p1 (w1.mp z).2), if_neg (fun z => p2 (w2.mp z).2), if_neg (fun z => p3 (w3.mp z).2), if_neg (fun z => p4 (w4.mp z).2), if_neg (fun z => p5 (w5.mp z).2)]
    unfold f_ShutWaysModel_isLine_95 f_ShutWaysModel_isLine_177
    rw [if_neg (fun z => p6 (w6.mp z).2), if_neg (fun z => p7 (w7.mp z).2), if_neg (fun z => p8 (w8.mp z).2), if_neg (fun z => p9 (w9.mp z).2), if_neg (fun z => p10 (w10.mp z).2), if_pos rfl, md_fail hw]
    have hks : f_Text_kindSpelt (nI s0) (nI e0) 200 B = some (-1) := by
      unfold f_Text_kindSpelt f_Text_kindSpelt_47
      rw [u7, Option.bind_some, if_pos rfl, u8, Option.bind_some, if_pos rfl, u9, Option.bind_some, if_pos rfl, u10, Option.bind_some, if_pos rfl]
    unfold f_Text_readLine f_Text_readCouncil f_Text_readCouncil_15
    rw [c1', Option.bind_some]
    dsimp only
    rw [if_pos rfl, u0, Option.bind_some, if_pos rfl, u1, Option.bind_some, if_pos rfl, u2, Option.bind_some, if_pos rfl, u3, Option.bind_some, if_pos rfl, u4, Option.bind_some, if_pos rfl, u5, Option.bind_some, if_pos rfl, u6, Option.bind_some, if_pos rfl, hks, Option.bind_some, if_pos rfl]
    exact Or.inr ⟨s0, h2, _, _, _, _, _, _, _, _, _, _, _, rfl, rfl⟩
  · rw [if_neg (fun z => hk (w0.mp z).1), if_neg (fun z => hk (w1.mp z).1), if_neg (fun z => hk (w2.mp z).1), if_neg (fun z => hk (w3.mp z).1), if_neg (fun z => hk (w4.mp z).1), if_neg (fun z => hk (w5.mp z).1)]
    unfold f_ShutWaysModel_isLine_95 f_ShutWaysModel_isLine_177
    rw [if_neg (fun z => hk (w6.mp z).1), if_neg (fun z => hk (w7.mp z).1), if_neg (fun z => hk (w8.mp z).1), if_neg (fun z => hk (w9.mp z).1), if_neg (fun z => hk (w10.mp z).1), if_pos rfl, md_fail hw]
    unfold f_Text_readLine
    rw [c1, Option.bind_some]
    dsimp only
    rw [if_neg (fun z => hk ((nI_z (by omega)).mp z))]
    exact Or.inr ⟨s0, h2, _, _, _, _, _, _, _, _, _, _, _, rfl, rfl⟩
end AnyLine
/-- doing the first j lines -/
def DoL (j : Nat) (mcorners mstreets mtwice mcouncil mnights mlanes mcart mal : Int32) (mend mfrom mto myards mprice mlane : Nat → Int32) (rd : Nat → Int32) (c2 s2 t2 k2 n2 l2 ca2 al2 : Int32) (e2 f2 to2 y2 p2 la2 : Nat → Int32) : Prop :=
  ∀ (m R : Nat) (rdx : Nat → Int32) (tby tpo tta : Int32) (tto : Int64) (tdg tnb tfa trc trs trl tda ttd : Int32) (ttx tsh tik : Nat → Int32), j ≤ R → R ≤ 12 → (∀ p, p < 5 * j → rdx p = rd p) → f_ShutWaysModel_town_12 (m + j) 0 mcorners mstreets mtwice mcouncil mnights mlanes mcart tby tpo tta tto tdg tnb tfa (nI R) trc trs trl tda mal ttd 200 ttx 60 rdx 16 tsh 2 tik 4 mend 16 mfrom 16 mto 16 myards 12 mprice 16 mlane = f_ShutWaysModel_town_12 m (nI j) c2 s2 t2 k2 n2 l2 ca2 tby tpo tta tto tdg tnb tfa (nI R) trc trs trl tda al2 ttd 200 ttx 60 rdx 16 tsh 2 tik 4 e2 16 f2 16 to2 16 y2 12 p2 16 la2
theorem DoL.zero (mcorners mstreets mtwice mcouncil mnights mlanes mcart mal : Int32) (mend mfrom mto myards mprice mlane : Nat → Int32) (rd : Nat → Int32) : DoL 0 mcorners mstreets mtwice mcouncil mnights mlanes mcart mal mend mfrom mto myards mprice mlane rd mcorners mstreets mtwice mcouncil mnights mlanes mcart mal mend mfrom mto myards mprice mlane := fun _ _ _ _ _ _ _ _ _ _ _ _ _ _ _ _ _ _ _ _ _ => rfl
theorem DoL.step {j : Nat} {mcorners mstreets mtwice mcouncil mnights mlanes mcart mal : Int32} {mend mfrom mto myards mprice mlane : Nat → Int32} {rd rd' : Nat → Int32} {c2 s2 t2 k2 n2 l2 ca2 al2 c3 s3 t3 k3 n3 l3 ca3 al3 : Int32} {e2 f2 to2 y2 p2 la2 e3 f3 to3 y3 p3 la3 : Nat → Int32} (h : DoL j mcorners mstreets mtwice mcouncil mnights mlanes mcart mal mend mfrom mto myards mprice mlane rd c2 s2 t2 k2 n2 l2 ca2 al2 e2 f2 to2 y2 p2 la2) (hr : ∀ p, p < 5 * j → rd' p = rd p)
    (hd : ∀ rd2 : Nat → Int32, (∀ p, p < 5 * j + 5 → rd2 p = rd' p) → f_ShutWaysModel_doLine (nI (5 * j)) c2 s2 t2 k2 n2 l2 ca2 al2 60 rd2 4 e2 16 f2 16 to2 16 y2 12 p2 16 la2 = some (c3, s3, t3, k3, n3, l3, ca3, al3, e3, f3, to3, y3, p3, la3)) : DoL (j + 1) mcorners mstreets mtwice mcouncil mnights mlanes mcart mal mend mfrom mto myards mprice mlane rd' c3 s3 t3 k3 n3 l3 ca3 al3 e3 f3 to3 y3 p3 la3 := by
  intro m R rdx tby tpo tta tto tdg tnb tfa trc trs trl tda ttd ttx tsh tik hR hR2 hx
  have h1 := h (m + 1) R rdx tby tpo tta tto tdg tnb tfa trc trs trl tda ttd ttx tsh tik (by omega) hR2 (fun p hp => (hx p (by omega)).trans (hr p hp))
  rw [show m + (j + 1) = m + 1 + j by omega, h1]
  rw [show f_ShutWaysModel_town_12 (m + 1) = b_ShutWaysModel_town_12 (f_ShutWaysModel_town_12 m) from rfl]
  unfold b_ShutWaysModel_town_12
  rw [if_neg (nI_ge (by omega) (by omega)), show (5 : Int32) * nI j = nI (5 * j) from pk_mul 5 j, hd rdx (fun p hp => hx p (by omega)), Option.bind_some, nI_1]
theorem tok_end {n : Nat} {b : Nat → Nat} {B S T : Nat → Int32} (X : TX n b B S T) {s : Nat} (hs : s ≤ n) {t : Int64} {nb : Int32} (h : TokS n b s t nb) : (t = -2 ↔ tk n b s = 4) ∧ (t = -3 ↔ (tk n b s = 2 ∧ b s = 59)) := by
  obtain ⟨l1, l2, l3⟩ := te_le (b := b) hs
  rcases h with ⟨h1, h2⟩ | ⟨h1, h2⟩ | ⟨h1, h2, h3, h4⟩ | ⟨h1, h2, h3⟩ | ⟨h1, h2, h3⟩ | ⟨h1, h2, h3⟩
  · rw [h2]
    exact ⟨⟨fun _ => h1, fun _ => rfl⟩, ⟨fun z => absurd z (by decide), fun z => by omega⟩⟩
  · have hneg : ∀ k : Int64, k.toInt < 0 → k ≠ -4 → ¬ t = k := by
      intro k hk k4
      rw [h2]
      by_cases q : te n b s - s ≤ 9
      · rw [if_pos q]
        refine lN_m ?_ _ hk
        have hl := wv_lt (b := b) (s := s) (te n b s - s) (fun i hi => by
          have := te_all (b := b) hs (i := s + i) (by omega) (by omega) (by omega)
          rw [h1] at this
          exact ((srt_0 _).mp this).2)
        have h9 : 27 ^ (te n b s - s) ≤ 27 ^ 9 := Nat.pow_le_pow_right (by decide) q
        have e9 : (27 : Nat) ^ 9 = 7625597484987 := by decide
        omega
      · rw [if_neg q]
        exact fun z => k4 z.symm
    exact ⟨⟨fun z => absurd z (hneg _ (by decide) (by decide)), fun z => by omega⟩, ⟨fun z => absurd z (hneg _ (by decide) (by decide)), fun z => by omega⟩⟩
  · rw [h3]
    exact ⟨⟨fun z => absurd z (by decide), fun z => by omega⟩, ⟨fun z => absurd z (by decide), fun z => by omega⟩⟩
  · rw [h3]
    exact ⟨⟨fun z => absurd z (by decide), fun z => by omega⟩, ⟨fun z => absurd z (by decide), fun z => by omega⟩⟩
  · rw [h3]
    exact ⟨⟨fun z => absurd z (by decide), fun z => by omega⟩, ⟨fun _ => ⟨h1, h2⟩, fun _ => rfl⟩⟩
  · rw [h3]
    exact ⟨⟨fun z => absurd z (by decide), fun z => by omega⟩, ⟨fun z => absurd z (by decide), fun z => absurd z.2 h2⟩⟩
abbrev CRT : Type := Int32 × Int32 × Int32 × Int32 × Int32 × Int32 × Int32 × Int32 × Int32 × Int32 × Int32 × Int32 × Int32 × Int32 × Int32 × Int32 × Int32 × Int32 × (Nat → Int32) × (Nat → Int32) × (Nat → Int32) × (Nat → Int32) × Int32 × (Nat → Int32) × (Nat → Int32) × (Nat → Int32) × (Nat → Int32)
abbrev MRT : Type := Int32 × Int32 × Int32 × Int64 × Int32 × Int32 × Int32 × Int32 × Int32 × Int32 × Int32 × (Nat → Int32)
def ReadR (mcorners mstreets mtwice mcouncil mnights mlanes mcart mal : Int32) (mend mfrom mto myards mprice mlane : Nat → Int32) (cl : Option CRT) (mo : Option MRT) : Prop :=
  (∃ (J C K : Nat) (so sta at_ va co ot corners market quay hasOdd oddM oddQ kind nights cart lc sc : Int32) (lf lt ly lp sp sf st sy : Nat → Int32) (p' ta : Int32) (t : Int64) (dg nb fa rc rs rl : Int32) (rd' : Nat → Int32) (c2 s2 t2 k2 n2 l2 ca2 al2 : Int32) (e2 f2 to2 y2 p2 la2 : Nat → Int32),
    cl = some (-1, nI J, so, sta, at_, va, co, ot, corners, market, quay, hasOdd, oddM, oddQ, kind, nights, cart, lc, lf, lt, ly, lp, sc, sp, sf, st, sy) ∧ mo = some (1, p', ta, t, dg, nb, fa, nI J, rc, rs, rl, rd') ∧ 1 ≤ J ∧ J ≤ 12 ∧ IPlan C K corners market quay hasOdd oddM oddQ kind nights cart sc sf st sy sp lc lf lt ly lp c2 s2 t2 k2 n2 l2 ca2 (nI K) f2 to2 y2 p2 e2 la2 ∧ DoL J mcorners mstreets mtwice mcouncil mnights mlanes mcart mal mend mfrom mto myards mprice mlane rd' c2 s2 t2 k2 n2 l2 ca2 al2 e2 f2 to2 y2 p2 la2) ∨
  (∃ (s : Nat) (_ : s ≤ 200) (q : Int32 × Int32 × Int32 × Int32 × Int32 × Int32 × Int32 × Int32 × Int32 × Int32 × Int32 × Int32 × Int32 × Int32 × Int32 × Int32 × (Nat → Int32) × (Nat → Int32) × (Nat → Int32) × (Nat → Int32) × Int32 × (Nat → Int32) × (Nat → Int32) × (Nat → Int32) × (Nat → Int32)) (q2 : Int32) (p' ta : Int32) (t : Int64) (dg nb rm rc rs rl : Int32) (rd' : Nat → Int32), cl = some (nI s, q2, q) ∧ mo = some (0, p', ta, t, dg, nb, nI s, rm, rc, rs, rl, rd'))
theorem read_sim {n : Nat} {b : Nat → Nat} {B S T : Nat → Int32} (X : TX n b B S T) (mcorners mstreets mtwice mcouncil mnights mlanes mcart mal : Int32) (mend mfrom mto myards mprice mlane : Nat → Int32) (qco qst qla : Int32) :
    ∀ (m j a C K : Nat) (so sta va co ot corners market quay hasOdd oddM oddQ kind nights cart sc : Int32) (sf st sy sp : Nat → Int32) (lc : Int32) (lf lt ly lp : Nat → Int32) (ta : Int32) (to : Int64) (dg nb fa : Int32) (rd : Nat → Int32) (c2 s2 t2 k2 n2 l2 ca2 al2 : Int32) (e2 f2 to2 y2 p2 la2 : Nat → Int32), j ≤ 11 → a ≤ n → 14 - j < m → IPlan C K corners market quay hasOdd oddM oddQ kind nights cart sc sf st sy sp lc lf lt ly lp c2 s2 t2 k2 n2 l2 ca2 (nI K) f2 to2 y2 p2 e2 la2 → DoL j mcorners mstreets mtwice mcouncil mnights mlanes mcart mal mend mfrom mto myards mprice mlane rd c2 s2 t2 k2 n2 l2 ca2 al2 e2 f2 to2 y2 p2 la2 →
    ReadR mcorners mstreets mtwice mcouncil mnights mlanes mcart mal mend mfrom mto myards mprice mlane (f_Text_readInto_10 m (nI n) (nI (j + 1)) so sta (nI a) va co ot corners market quay hasOdd oddM oddQ kind nights cart 200 S 200 B lc 4 lf 4 lt 4 ly 4 lp sc 16 sp 16 sf 16 st 16 sy) (f_ShutWaysModel_isRead_36 m 1 qco qst qla (nI n) (nI a) ta to dg nb fa (nI j) (nI C) (nI K) lc 200 T 60 rd) := by
  have hn := X.1
  intro m
  induction m with
  | zero => intro j a C K so sta va co ot corners market quay hasOdd oddM oddQ kind nights cart sc sf st sy sp lc lf lt ly lp ta to dg nb fa rd c2 s2 t2 k2 n2 l2 ca2 al2 e2 f2 to2 y2 p2 la2 _ _ h; omega
  | succ m ih =>
    intro j a C K so sta va co ot corners market quay hasOdd oddM oddQ kind nights cart sc sf st sy sp lc lf lt ly lp ta to dg nb fa rd c2 s2 t2 k2 n2 l2 ca2 al2 e2 f2 to2 y2 p2 la2 hj ha hm hP hD
    rw [show f_Text_readInto_10 (m + 1) = b_Text_readInto_10 (f_Text_readInto_10 m) from rfl, show f_ShutWaysModel_isRead_36 (m + 1) = b_ShutWaysModel_isRead_36 (f_ShutWaysModel_isRead_36 m) from rfl]
    unfold b_Text_readInto_10 b_ShutWaysModel_isRead_36
    rw [if_neg (show ¬ (12 : Int32) < nI (j + 1) from nI_nlt (a := 12) (by omega) (by decide)), if_neg one_ne, show (5 : Int32) * nI j = nI (5 * j) from pk_mul 5 j]
    have hL := line_sim (w := 5 * j) (mal := al2) (so := so) (sta := sta) (va := va) (co := co) (ot := ot) (dg := dg) (nb := nb) (fa := fa) (rd := rd) X ha (by omega) hP ta to
    unfold LineR at hL
    rcases hL with ⟨C1, K1, e, s, so1, va1, co1, ot1, corners1, market1, quay1, hasOdd1, oddM1, oddQ1, kind1, nights1, cart1, lc1, sc1, lf1, lt1, ly1, lp1, sp1, sf1, st1, sy1, t1, dg1, nb1, rd1, c3, s3, t3, k3, n3, l3, ca3, al3, e3, f3, to3, y3, p3, la3, g1, g2, g3, g4, g5, g6⟩ | ⟨s, hsn, so1, q, p', ta1, t1, dg1, nb1, rc1, rs1, rl1, rd1, g1, g2⟩
    · have hD2 := hD.step g4 g6
      obtain ⟨v2, c1, -⟩ := class_tok X so1 (nI s) va1 g3
      obtain ⟨tt, dg2, nb2, m1, m2⟩ := model_tok X (nI s) t1 dg1 nb1 g3
      obtain ⟨h1, h2⟩ := sk_le (b := b) g3
      obtain ⟨l1, l2', l3'⟩ := te_le (b := b) h2
      obtain ⟨x1, x2⟩ := tok_end X h2 m2
      have htk := tk_le (n := n) (b := b) (sk n b e)
      rw [g1, g2, Option.bind_some, Option.bind_some]
      dsimp only
      rw [if_neg one_ne, if_neg one_ne, c1, Option.bind_some]
      simp only [nmI, nI_1]
      rw [m1, Option.bind_some]
      dsimp only
      unfold f_ShutWaysModel_isRead_93 f_ShutWaysModel_isRead_94 f_Text_readInto_68
      generalize sk n b e = s1 at *
      generalize te n b s1 = e1 at *
      obtain ⟨m, rfl⟩ : ∃ m', m = m' + 1 := ⟨m - 1, by omega⟩
      have stop : ∀ (fa' rm : Int32) (rc rs rl : Int32) (rdx : Nat → Int32), ¬ tt = -2 → f_ShutWaysModel_isRead_36 (m + 1) 0 qco qst qla (nI n) (nI e1) (nI s1) tt dg2 nb2 fa' rm rc rs rl 200 T 60 rdx = some (0, nI e1, nI s1, tt, dg2, nb2, nI s1, rm, rc, rs, rl, rdx) := by
        intro fa' rm rc rs rl rdx hne
        rw [show f_ShutWaysModel_isRead_36 (m + 1) = b_ShutWaysModel_isRead_36 (f_ShutWaysModel_isRead_36 m) from rfl]
        unfold b_ShutWaysModel_isRead_36 f_ShutWaysModel_fails f_ShutWaysModel_isRead_121
        rw [if_pos rfl, if_neg (fun z => hne ((lg_cmp_eq _ _).mp z))]
        rfl
      by_cases z4 : tk n b s1 = 4
      · have t2' := x1.mpr z4
        have n3x : ¬ tt = -3 := by rw [t2']; decide
        rw [if_pos (show nI (tk n b s1) = 4 by rw [z4]; rfl), if_neg (fun z => n3x ((lg_cmp_eq _ _).mp z))]
        rw [show f_ShutWaysModel_isRead_36 (m + 1) = b_ShutWaysModel_isRead_36 (f_ShutWaysModel_isRead_36 m) from rfl]
        unfold b_ShutWaysModel_isRead_36 f_ShutWaysModel_isRead_116 f_ShutWaysModel_isRead_121
        rw [if_pos rfl, if_pos ((lg_cmp_eq _ _).mpr t2')]
        exact Or.inl ⟨j + 1, C1, K1, _, _, _, _, _, _, _, _, _, _, _, _, _, _, _, _, _, _, _, _, _, _, _, _, _, _, _, _, _, _, _, _, _, _, _, c3, s3, t3, k3, n3, l3, ca3, al3, e3, f3, to3, y3, p3, la3, rfl, rfl, by omega, by omega, g5, hD2⟩
      · have n2' : ¬ tt = -2 := fun z => z4 (x1.mp z)
        rw [if_neg (show ¬ nI (tk n b s1) = 4 from nI_ne (b := 4) (by omega) (by decide) z4)]
        by_cases z2 : tk n b s1 = 2 ∧ b s1 = 59
        · have hs1 : s1 < n := by
            rcases Nat.lt_or_ge s1 n with g | g
            · exact g
            · exfalso
              apply z4
              unfold tk
              rw [if_pos (by omega)]
          obtain ⟨b1, b2, b3, b4⟩ := X.2 s1 hs1
          rw [if_pos (show nI (tk n b s1) = 2 by rw [z2.1]; rfl), gixN (show s1 < 200 by omega) (by decide), nIc (by omega), b2, if_pos (show nI (b s1) = 59 by rw [z2.2]; rfl), if_pos ((lg_cmp_eq _ _).mpr (x2.mpr z2))]
          by_cases j11 : j = 11
          · rw [if_pos (show (12 : Int32) ≤ nI (j + 1) by rw [j11]; decide), stop _ _ _ _ _ _ n2']
            rw [show f_Text_readInto_10 (m + 1) = b_Text_readInto_10 (f_Text_readInto_10 m) from rfl]
            unfold b_Text_readInto_10
            rw [if_pos (show (12 : Int32) < nI (j + 1 + 1) by rw [j11]; decide)]
            exact Or.inr ⟨s1, by omega, _, _, _, _, _, _, _, _, _, _, _, _, rfl, rfl⟩
          · rw [if_neg (show ¬ (12 : Int32) ≤ nI (j + 1) from nI_ge (b := 12) (by omega) (by decide))]
            exact ih (j + 1) e1 C1 K1 _ _ _ _ _ _ _ _ _ _ _ _ _ _ _ _ _ _ _ _ _ _ _ _ _ _ _ _ _ _ _ _ _ _ _ _ _ _ _ _ _ _ _ _ (by omega) l2' (by omega) g5 hD2
        · rw [if_neg (fun z => z2 (x2.mp ((lg_cmp_eq _ _).mp z))), stop _ _ _ _ _ _ n2']
          by_cases z3 : tk n b s1 = 2
          · have hs1 : s1 < n := by
              rcases Nat.lt_or_ge s1 n with g | g
              · exact g
              · exfalso
                apply z4
                unfold tk
                rw [if_pos (by omega)]
            obtain ⟨b1, b2, b3, b4⟩ := X.2 s1 hs1
            have b59 : b s1 ≠ 59 := fun q => z2 ⟨z3, q⟩
            rw [if_pos (show nI (tk n b s1) = 2 by rw [z3]; rfl), gixN (show s1 < 200 by omega) (by decide), nIc (by omega), b2, if_neg (show ¬ nI (b s1) = 59 from nI_ne (b := 59) (by omega) (by decide) b59)]
            exact Or.inr ⟨s1, by omega, _, _, _, _, _, _, _, _, _, _, _, _, rfl, rfl⟩
          · rw [if_neg (show ¬ nI (tk n b s1) = 2 from nI_ne (b := 2) (by omega) (by decide) z3)]
            exact Or.inr ⟨s1, by omega, _, _, _, _, _, _, _, _, _, _, _, _, rfl, rfl⟩
    · rw [g1, g2, Option.bind_some, Option.bind_some]
      dsimp only
      rw [if_pos rfl, if_pos rfl]
      exact Or.inr ⟨s, by omega, _, _, _, _, _, _, _, _, _, _, _, _, rfl, rfl⟩
