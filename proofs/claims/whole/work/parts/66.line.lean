/-! ===== a line of the text ===== -/
abbrev CLT : Type := Int32 × Int32 × Int32 × Int32 × Int32 × Int32 × Int32 × Int32 × Int32 × Int32 × Int32 × Int32 × Int32 × Int32 × Int32 × Int32 × Int32 × (Nat → Int32) × (Nat → Int32) × (Nat → Int32) × (Nat → Int32) × Int32 × (Nat → Int32) × (Nat → Int32) × (Nat → Int32) × (Nat → Int32)
abbrev MLT : Type := Int32 × Int32 × Int32 × Int64 × Int32 × Int32 × Int32 × Int32 × Int32 × Int32 × (Nat → Int32)
def LineR (n w : Nat) (fa : Int32) (rd : Nat → Int32) (mcorners mstreets mtwice mcouncil mnights mlanes mcart mal : Int32) (mend mfrom mto myards mprice mlane : Nat → Int32) (cl : Option CLT) (mo : Option MLT) : Prop :=
  (∃ (C K e s : Nat) (so va co ot corners market quay hasOdd oddM oddQ kind nights cart lc sc : Int32) (lf lt ly lp sp sf st sy : Nat → Int32) (t : Int64) (dg nb : Int32) (rd' : Nat → Int32) (c2 s2 t2 k2 n2 l2 ca2 al2 : Int32) (e2 f2 to2 y2 p2 la2 : Nat → Int32),
    cl = some (1, so, nI s, nI e, va, co, ot, corners, market, quay, hasOdd, oddM, oddQ, kind, nights, cart, lc, lf, lt, ly, lp, sc, sp, sf, st, sy) ∧ mo = some (1, nI e, nI s, t, dg, nb, fa, nI C, nI K, lc, rd') ∧ e ≤ n ∧ (∀ p, p < w → rd' p = rd p) ∧
    IPlan C K corners market quay hasOdd oddM oddQ kind nights cart sc sf st sy sp lc lf lt ly lp c2 s2 t2 k2 n2 l2 ca2 (nI K) f2 to2 y2 p2 e2 la2 ∧ ∀ rd2 : Nat → Int32, (∀ p, p < w + 5 → rd2 p = rd' p) → f_ShutWaysModel_doLine (nI w) mcorners mstreets mtwice mcouncil mnights mlanes mcart mal 60 rd2 4 mend 16 mfrom 16 mto 16 myards 12 mprice 16 mlane = some (c2, s2, t2, k2, n2, l2, ca2, al2, e2, f2, to2, y2, p2, la2)) ∨
  (∃ (s : Nat) (_ : s ≤ n) (so : Int32) (q : Int32 × Int32 × Int32 × Int32 × Int32 × Int32 × Int32 × Int32 × Int32 × Int32 × Int32 × Int32 × Int32 × Int32 × (Nat → Int32) × (Nat → Int32) × (Nat → Int32) × (Nat → Int32) × Int32 × (Nat → Int32) × (Nat → Int32) × (Nat → Int32) × (Nat → Int32)) (p' ta : Int32) (t : Int64) (dg nb rc rs rl : Int32) (rd' : Nat → Int32), cl = some (0, so, nI s, q) ∧ mo = some (0, p', ta, t, dg, nb, nI s, rc, rs, rl, rd'))
theorem upd_lt {rd : Nat → Int32} {w p k : Nat} {v : Int32} (h : p < w) (hk : w ≤ k) : upd rd k v p = rd p := pk_un (by omega)
section Line
variable {n w C K a e0 s0 : Nat} {b : Nat → Nat} {B S T : Nat → Int32} {corners market quay hasOdd oddM oddQ kind nights cart sc : Int32} {sf st sy sp : Nat → Int32} {lc : Int32} {lf lt ly lp : Nat → Int32} {mcorners mstreets mtwice mcouncil mnights mlanes mcart mal : Int32} {mend mfrom mto myards mprice mlane : Nat → Int32} {so sta va co ot v0 : Int32} {t0 : Int64} {dg nb fa : Int32} {rd : Nat → Int32}
theorem do_pre (hw : w + 4 < 60) (rd2 : Nat → Int32) : f_ShutWaysModel_doLine (nI w) mcorners mstreets mtwice mcouncil mnights mlanes mcart mal 60 rd2 4 mend 16 mfrom 16 mto 16 myards 12 mprice 16 mlane = (if rd2 w = 0 then (f_ShutWaysModel_plain mstreets mtwice mcouncil mnights mlanes mcart mal 4 mend).bind (fun r7 => some (rd2 (w + 1), r7.1, r7.2.1, r7.2.2.1, r7.2.2.2.1, r7.2.2.2.2.1, r7.2.2.2.2.2.1, r7.2.2.2.2.2.2.1, r7.2.2.2.2.2.2.2, mfrom, mto, myards, mprice, mlane)) else if rd2 w = 1 then gix mstreets 16 (gix mstreets 16 (gix mstreets 16 (gix mstreets 12 (some (mcorners, mstreets + 1, mtwice, mcouncil, mnights, mlanes, mcart, mal, mend, upd mfrom mstreets.toNatClampNeg (rd2 (w + 1)), upd mto mstreets.toNatClampNeg (rd2 (w + 2)), upd myards mstreets.toNatClampNeg (rd2 (w + 3)), upd mprice mstreets.toNatClampNeg 1, mlane))))) else if rd2 w = 2 then gix (rd2 (w + 1)) 12 (some (mcorners, mstreets, mtwice, mcouncil, mnights, mlanes, mcart, mal, mend, mfrom, mto, myards, upd mprice (rd2 (w + 1)).toNatClampNeg (rd2 (w + 2)), mlane)) else if rd2 w = 3 then gix 0 4 (gix 1 4 (some (mcorners, mstreets, mtwice, mcouncil, mnights, mlanes, mcart, mal, upd (upd mend (0 : Int32).toNatClampNeg (rd2 (w + 1))) (1 : Int32).toNatClampNeg (rd2 (w + 2)), mfrom, mto, myards, mprice, mlane))) else if rd2 w = 4 then gix 2 4 (gix 3 4 (some (mcorners, mstreets, 1, mcouncil, mnights, mlanes, mcart, mal, upd (upd mend (2 : Int32).toNatClampNeg (rd2 (w + 1))) (3 : Int32).toNatClampNeg (rd2 (w + 2)), mfrom, mto, myards, mprice, mlane))) else if rd2 w = 5 then f_ShutWaysModel_doLine_192 FU (nI w) 0 mcorners mstreets mtwice mcouncil mnights mlanes mcart mal 60 rd2 4 mend 16 mfrom 16 mto 16 myards 12 mprice 16 mlane else if rd2 w = 6 then some (mcorners, mstreets, mtwice, mcouncil, mnights, mlanes, rd2 (w + 1), mal, mend, mfrom, mto, myards, mprice, mlane) else some (mcorners, mstreets, mtwice, rd2 w - 7, rd2 (w + 1), mlanes, mcart, mal, mend, mfrom, mto, myards, mprice, mlane)) := by
  unfold f_ShutWaysModel_doLine
  rw [show nI w + 1 = nI (w + 1) from nI_1 w, show nI w + 2 = nI (w + 2) from nI_add w 2, show nI w + 3 = nI (w + 3) from nI_add w 3]
  simp only [gixN (show w < 60 by omega) (by decide : 60 < 2 ^ 31), gixN (show w + 1 < 60 by omega) (by decide : 60 < 2 ^ 31), gixN (show w + 2 < 60 by omega) (by decide : 60 < 2 ^ 31), gixN (show w + 3 < 60 by omega) (by decide : 60 < 2 ^ 31), nIc (show w < 2 ^ 31 by omega), nIc (show w + 1 < 2 ^ 31 by omega), nIc (show w + 2 < 2 ^ 31 by omega), nIc (show w + 3 < 2 ^ 31 by omega), nmI]
theorem ln_town (X : TX n b B S T) (hw : w + 4 < 60) (he : e0 ≤ n) (hs0 : s0 ≤ n) (hP : IPlan C K corners market quay hasOdd oddM oddQ kind nights cart sc sf st sy sp lc lf lt ly lp mcorners mstreets mtwice mcouncil mnights mlanes mcart (nI K) mfrom mto myards mprice mend mlane) (c1 : f_Text_readToken (nI n) so sta (nI a) va 200 S 200 B = some (0, nI s0, nI e0, v0)) (u0 : f_Text_spells_0 (nI s0) (nI e0) 200 B = some 1) : LineR n w fa rd mcorners mstreets mtwice mcouncil mnights mlanes mcart mal mend mfrom mto myards mprice mlane (f_Text_readLine (nI n) so sta (nI a) va co ot corners market quay hasOdd oddM oddQ kind nights cart 200 S 200 B lc 4 lf 4 lt 4 ly 4 lp sc 16 sp 16 sf 16 st 16 sy) (f_ShutWaysModel_isLine_193 (nI w) (nI 0) (nI w) (nI n) (nI e0) (nI s0) t0 dg nb fa (nI C) (nI K) lc 200 T 60 rd) := by
  unfold f_Text_readLine f_ShutWaysModel_isLine_193
  rw [c1, Option.bind_some]
  dsimp only
  rw [if_pos rfl, u0, Option.bind_some, if_neg one_ne]
  rw [gixN (show w < 60 by omega) (by decide), gixN (show w < 60 by omega) (by decide), nIc (show w < 2 ^ 31 by omega), if_pos (show upd rd w (nI 0) w = 0 from pk_us)]
  unfold f_Text_readTown f_ShutWaysModel_isTown f_Plan_begin
  rw [show nI w + 1 = nI (w + 1) from nI_1 w]
  rcases num_sim X he (w := w + 1) (by omega) 2 8 0 (nI s0) v0 (nI s0) t0 dg nb fa (upd rd w (nI 0)) with ⟨v, e, s, hsx, so1, t1, dg1, nb1, p1, p2, p3, p4, p5⟩ | ⟨s, hsn, so1, e1, v1, p1, t1, dg1, nb1, p4, p5⟩
  · obtain ⟨k, k1, k2, k3⟩ := i32_rng (v := nI v) (a := 2) (b := 8) (by decide) (by decide) p3
    have kv : v = k := (nI_eq (by omega) (by omega)).mp k3
    subst kv
    rw [p4, p5]
    simp only [Option.bind_some, if_neg one_ne, gixN (show w + 1 < 60 by omega) (by decide : 60 < 2 ^ 31), nIc (show w + 1 < 2 ^ 31 by omega), nmI, pk_us]
    refine Or.inl ⟨v, 0, e, s, _, _, _, _, _, _, _, _, _, _, _, _, _, _, _, _, _, _, _, _, _, _, _, _, _, _, _, nI v, 0, 0, 0, 2, 0, 10, 0, upd (upd mend 0 0) 1 1, mfrom, mto, myards, mprice, mlane, rfl, rfl, p2, fun p hp => (upd_lt hp (by omega)).trans (upd_lt hp (Nat.le_refl _)), ?_, ?_⟩
    · exact ⟨⟨k1, k2, by omega⟩, ⟨rfl, rfl⟩, ⟨rfl, rfl, rfl⟩, fun s h => absurd h (Nat.not_lt_zero _), ⟨0, by decide, rfl, rfl, fun s h => absurd h (Nat.not_lt_zero _)⟩, ⟨0, 1, by omega, by omega, by decide, rfl, (pk_un (by decide)).trans pk_us, rfl, pk_us⟩, Or.inl ⟨rfl, rfl⟩, ⟨0, by decide, rfl, rfl⟩, ⟨2, by decide, by decide, rfl, rfl⟩, ⟨10, by decide, by decide, rfl, rfl⟩⟩
    · intro rd2 hr
      rw [do_pre hw, if_pos (show rd2 w = 0 by rw [hr w (by omega), pk_un (by omega), pk_us]; rfl), hr (w + 1) (by omega), pk_us]
      rfl
  · rw [p4, p5, Option.bind_some, Option.bind_some]
    exact Or.inr ⟨s, hsn, _, _, _, _, _, _, _, _, _, _, _, rfl, rfl⟩
theorem ln_street (X : TX n b B S T) (hw : w + 4 < 60) (he : e0 ≤ n) (hs0 : s0 ≤ n) (hP : IPlan C K corners market quay hasOdd oddM oddQ kind nights cart sc sf st sy sp lc lf lt ly lp mcorners mstreets mtwice mcouncil mnights mlanes mcart (nI K) mfrom mto myards mprice mend mlane) (c1 : f_Text_readToken (nI n) so sta (nI a) va 200 S 200 B = some (0, nI s0, nI e0, v0)) (u0 : f_Text_spells_0 (nI s0) (nI e0) 200 B = some 0) (u1 : f_Text_spells_1 (nI s0) (nI e0) 200 B = some 1) : LineR n w fa rd mcorners mstreets mtwice mcouncil mnights mlanes mcart mal mend mfrom mto myards mprice mlane (f_Text_readLine (nI n) so sta (nI a) va co ot corners market quay hasOdd oddM oddQ kind nights cart 200 S 200 B lc 4 lf 4 lt 4 ly 4 lp sc 16 sp 16 sf 16 st 16 sy) (f_ShutWaysModel_isLine_193 (nI w) (nI 1) (nI w) (nI n) (nI e0) (nI s0) t0 dg nb fa (nI C) (nI K) lc 200 T 60 rd) := by
  obtain ⟨⟨q1, q2, q3⟩, ⟨q4, q5⟩, ⟨q6, q7, -⟩, q8, q9⟩ := id hP
  subst q4; subst q5; subst q6; subst q7
  unfold f_Text_readLine f_ShutWaysModel_isLine_193
  rw [c1, Option.bind_some]
  dsimp only
  rw [if_pos rfl, u0, Option.bind_some, if_pos rfl, u1, Option.bind_some, if_neg one_ne]
  rw [gixN (show w < 60 by omega) (by decide), gixN (show w < 60 by omega) (by decide), nIc (show w < 2 ^ 31 by omega), if_neg (show ¬ upd rd w (nI 1) w = 0 by rw [pk_us]; decide), if_pos (show upd rd w (nI 1) w = 1 from pk_us)]
  unfold f_Text_readStreet f_ShutWaysModel_isStreetLine f_Text_readStreet_30 f_ShutWaysModel_isStreetLine_49 f_ShutWaysModel_isStreetLine_50 f_ShutWaysModel_fails
  rw [show nI w + 3 = nI (w + 3) from nI_add w 3]
  by_cases z : K = 12
  · rw [if_pos (show (12 : Int32) ≤ nI K by rw [z]; decide), if_pos (show nI K = 12 by rw [z]; rfl)]
    exact Or.inr ⟨s0, hs0, _, _, _, _, _, _, _, _, _, _, _, rfl, rfl⟩
  · rw [if_neg (show ¬ (12 : Int32) ≤ nI K from nI_ge (b := 12) (by omega) (by decide)), if_neg (show ¬ nI K = 12 from nI_ne (b := 12) (by omega) (by decide) z)]
    simp only [nmI, nI_1]
    rcases places_sim X he (w := w) (C := C) (by omega) q1 q2 0 (nI s0) v0 co ot (nI s0) t0 dg nb fa (upd rd w (nI 1)) with ⟨u, v, e, s, so1, va1, t1, dg1, nb1, r1, r2, r3, r4, r5, r6⟩ | ⟨s, hsn, so1, e1, v1, co1, ot1, p1, t1, dg1, nb1, rd1, r5, r6⟩
    · rw [r5, r6, Option.bind_some, Option.bind_some]
      dsimp only
      rw [if_neg one_ne, if_neg one_ne]
      rcases num_sim X r4 (w := w + 3) (by omega) 1 99 so1 (nI s) va1 (nI s) t1 dg1 nb1 fa (upd (upd (upd rd w (nI 1)) (w + 1) (nI u)) (w + 2) (nI v)) with ⟨y, e', s', hsx, so2, t2, dg2, nb2, p1, p2, p3, p4, p5⟩ | ⟨s, hsn, so2, e2, v2, p1, t2, dg2, nb2, p4, p5⟩
      · obtain ⟨k, k1, k2, k3⟩ := i32_rng (v := nI y) (a := 1) (b := 99) (by decide) (by decide) p3
        have kv : y = k := (nI_eq (by omega) (by omega)).mp k3
        subst kv
        rw [p4, p5, Option.bind_some, Option.bind_some]
        dsimp only
        unfold f_Roads_add
        simp only [if_neg one_ne, gixN (show K < 16 by omega) (by decide : 16 < 2 ^ 31), nIc (show K < 2 ^ 31 by omega), if_pos (nI_lt (show K < 16 by omega) (by decide : 16 < 2 ^ 31)), nmI, nI_1, Option.bind_some]
        refine Or.inl ⟨C, K + 1, e', s', _, _, _, _, _, _, _, _, _, _, _, _, _, _, _, _, _, _, _, _, _, _, _, _, _, _, _, nI C, nI (K + 1), mtwice, mcouncil, mnights, mlanes, mcart, mal, mend, upd mfrom K (nI u), upd mto K (nI v), upd myards K (nI y), upd mprice K 1, mlane, rfl, rfl, p2, fun p hp => (upd_lt hp (by omega)).trans ((upd_lt hp (by omega)).trans ((upd_lt hp (by omega)).trans (upd_lt hp (Nat.le_refl _)))), ?_, ?_⟩
        · refine ⟨⟨q1, q2, by omega⟩, ⟨rfl, rfl⟩, ⟨rfl, rfl, rfl⟩, ?_, q9⟩
          intro s hs
          by_cases ee : s = K
          · subst ee
            rw [pk_us, pk_us, pk_us, pk_us]
            exact ⟨u, v, y, 1, r1, r2, r3, k1, k2, by decide, pk_us, rfl, pk_us, rfl, pk_us, rfl, pk_us, rfl⟩
          · rw [pk_un ee, pk_un ee, pk_un ee, pk_un ee]
            obtain ⟨a1, a2, a3, a4, h1, h2, h3, h4, h5, h6, g1, g2, g3, g4, g5, g6, g7, g8⟩ := q8 s (by omega)
            exact ⟨a1, a2, a3, a4, h1, h2, h3, h4, h5, h6, (pk_un ee).trans g1, g2, (pk_un ee).trans g3, g4, (pk_un ee).trans g5, g6, (pk_un ee).trans g7, g8⟩
        · intro rd2 hr
          replace hr : ∀ p, p < w + 5 → rd2 p = upd (upd (upd (upd rd w (nI 1)) (w + 1) (nI u)) (w + 2) (nI v)) (w + 3) (nI y) p := hr
          have x0 : rd2 w = 1 := by rw [hr w (by omega), pk_un (by omega), pk_un (by omega), pk_un (by omega), pk_us]; rfl
          have x1 : rd2 (w + 1) = nI u := by rw [hr (w + 1) (by omega), pk_un (by omega), pk_un (by omega), pk_us]
          have x2 : rd2 (w + 2) = nI v := by rw [hr (w + 2) (by omega), pk_un (by omega), pk_us]
          have x3 : rd2 (w + 3) = nI y := by rw [hr (w + 3) (by omega), pk_us]
          rw [do_pre hw, x0, x1, x2, x3, if_neg one_ne, if_pos rfl, gixN (show K < 16 by omega) (by decide), gixN (show K < 16 by omega) (by decide), gixN (show K < 16 by omega) (by decide), gixN (show K < 12 by omega) (by decide), nIc (by omega), nI_1]
      · rw [p4, p5, Option.bind_some, Option.bind_some]
        exact Or.inr ⟨s, hsn, _, _, _, _, _, _, _, _, _, _, _, rfl, rfl⟩
    · rw [r5, r6, Option.bind_some, Option.bind_some]
      exact Or.inr ⟨s, hsn, _, _, _, _, _, _, _, _, _, _, _, rfl, rfl⟩
theorem ln_price (X : TX n b B S T) (hw : w + 4 < 60) (he : e0 ≤ n) (hs0 : s0 ≤ n) (hP : IPlan C K corners market quay hasOdd oddM oddQ kind nights cart sc sf st sy sp lc lf lt ly lp mcorners mstreets mtwice mcouncil mnights mlanes mcart (nI K) mfrom mto myards mprice mend mlane) (c1 : f_Text_readToken (nI n) so sta (nI a) va 200 S 200 B = some (0, nI s0, nI e0, v0)) (u0 : f_Text_spells_0 (nI s0) (nI e0) 200 B = some 0) (u1 : f_Text_spells_1 (nI s0) (nI e0) 200 B = some 0) (u2 : f_Text_spells_2 (nI s0) (nI e0) 200 B = some 1) : LineR n w fa rd mcorners mstreets mtwice mcouncil mnights mlanes mcart mal mend mfrom mto myards mprice mlane (f_Text_readLine (nI n) so sta (nI a) va co ot corners market quay hasOdd oddM oddQ kind nights cart 200 S 200 B lc 4 lf 4 lt 4 ly 4 lp sc 16 sp 16 sf 16 st 16 sy) (f_ShutWaysModel_isLine_193 (nI w) (nI 2) (nI w) (nI n) (nI e0) (nI s0) t0 dg nb fa (nI C) (nI K) lc 200 T 60 rd) := by
  obtain ⟨⟨q1, q2, q3⟩, ⟨q4, q5⟩, ⟨q6, q7, -⟩, q8, q9⟩ := id hP
  subst q4; subst q5; subst q6; subst q7
  unfold f_Text_readLine f_ShutWaysModel_isLine_193
  rw [c1, Option.bind_some]
  dsimp only
  rw [if_pos rfl, u0, Option.bind_some, if_pos rfl, u1, Option.bind_some, if_pos rfl, u2, Option.bind_some, if_neg one_ne]
  rw [gixN (show w < 60 by omega) (by decide), gixN (show w < 60 by omega) (by decide), nIc (show w < 2 ^ 31 by omega), if_neg (show ¬ upd rd w (nI 2) w = 0 by rw [pk_us]; decide), if_neg (show ¬ upd rd w (nI 2) w = 1 by rw [pk_us]; decide), if_pos (show upd rd w (nI 2) w = 2 from pk_us)]
  unfold f_Text_readPrice f_ShutWaysModel_isLine_306 f_ShutWaysModel_isLine_307
  rw [show nI w + 1 = nI (w + 1) from nI_1 w, show nI w + 2 = nI (w + 2) from nI_add w 2]
  rcases num_sim X he (w := w + 1) (by omega) 0 (nI K - 1) 0 (nI s0) v0 (nI s0) t0 dg nb fa (upd rd w (nI 2)) with ⟨u, e, s, hsx, so1, t1, dg1, nb1, p1, p2, p3, p4, p5⟩ | ⟨s, hsn, so1, e1, v1, p1, t1, dg1, nb1, p4, p5⟩
  · have hu : u < K := by
      rcases Nat.lt_or_ge u K with g | g
      · exact g
      · exfalso
        apply p3
        right
        apply Int32.lt_iff_toInt_lt.mpr
        rw [show (nI K - 1 : Int32) = nI K - nI 1 from rfl, pk_sub_toInt (by omega) (by decide), nI_toInt (by omega)]
        omega
    rw [p4, p5, Option.bind_some, Option.bind_some]
    dsimp only
    rw [if_neg one_ne, if_neg one_ne]
    rcases num_sim X p2 (w := w + 2) (by omega) 0 99 so1 (nI s) (nI u) (nI s) t1 dg1 nb1 fa (upd (upd rd w (nI 2)) (w + 1) (nI u)) with ⟨v, e', s', hsx, so2, t2, dg2, nb2, r1, r2, r3, r4, r5⟩ | ⟨s, hsn, so2, e2, v2, p1', t2, dg2, nb2, r4, r5⟩
    · rw [r4, r5, Option.bind_some, Option.bind_some]
      dsimp only
      rw [if_neg one_ne, if_neg one_ne, gixN (show u < 16 by omega) (by decide), nIc (by omega), Option.bind_some]
      refine Or.inl ⟨C, K, e', s', _, _, _, _, _, _, _, _, _, _, _, _, _, _, _, _, _, _, _, _, _, _, _, _, _, _, _, nI C, nI K, mtwice, mcouncil, mnights, mlanes, mcart, mal, mend, mfrom, mto, myards, upd mprice u (nI v), mlane, rfl, rfl, r2, fun p hp => (upd_lt hp (by omega)).trans ((upd_lt hp (by omega)).trans (upd_lt hp (Nat.le_refl _))), ?_, ?_⟩
      · refine ⟨⟨q1, q2, q3⟩, ⟨rfl, rfl⟩, ⟨rfl, rfl, rfl⟩, ?_, q9⟩
        intro s hs
        obtain ⟨a1, a2, a3, a4, h1, h2, h3, h4, h5, h6, g1, g2, g3, g4, g5, g6, g7, g8⟩ := q8 s hs
        by_cases ee : s = u
        · subst ee
          rw [pk_us]
          exact ⟨a1, a2, a3, v, h1, h2, h3, h4, h5, r1, g1, g2, g3, g4, g5, g6, pk_us, rfl⟩
        · rw [pk_un ee]
          exact ⟨a1, a2, a3, a4, h1, h2, h3, h4, h5, h6, g1, g2, g3, g4, g5, g6, (pk_un ee).trans g7, g8⟩
      · intro rd2 hr
        have x0 : rd2 w = 2 := by rw [hr w (by omega), pk_un (by omega), pk_un (by omega), pk_us]; rfl
        have x1 : rd2 (w + 1) = nI u := by rw [hr (w + 1) (by omega), pk_un (by omega), pk_us]
        have x2 : rd2 (w + 2) = nI v := by rw [hr (w + 2) (by omega), pk_us]
        rw [do_pre hw, x0, x1, x2, if_neg (by decide), if_neg (by decide), if_pos rfl, gixN (show u < 12 by omega) (by decide), nIc (by omega)]
    · rw [r4, r5, Option.bind_some, Option.bind_some]
      exact Or.inr ⟨s, hsn, _, _, _, _, _, _, _, _, _, _, _, rfl, rfl⟩
  · rw [p4, p5, Option.bind_some, Option.bind_some]
    exact Or.inr ⟨s, hsn, _, _, _, _, _, _, _, _, _, _, _, rfl, rfl⟩
theorem ln_ends (X : TX n b B S T) (hw : w + 4 < 60) (he : e0 ≤ n) (hs0 : s0 ≤ n) (hP : IPlan C K corners market quay hasOdd oddM oddQ kind nights cart sc sf st sy sp lc lf lt ly lp mcorners mstreets mtwice mcouncil mnights mlanes mcart (nI K) mfrom mto myards mprice mend mlane) (c1 : f_Text_readToken (nI n) so sta (nI a) va 200 S 200 B = some (0, nI s0, nI e0, v0)) (u0 : f_Text_spells_0 (nI s0) (nI e0) 200 B = some 0) (u1 : f_Text_spells_1 (nI s0) (nI e0) 200 B = some 0) (u2 : f_Text_spells_2 (nI s0) (nI e0) 200 B = some 0) (u3 : f_Text_spells_3 (nI s0) (nI e0) 200 B = some 1) : LineR n w fa rd mcorners mstreets mtwice mcouncil mnights mlanes mcart mal mend mfrom mto myards mprice mlane (f_Text_readLine (nI n) so sta (nI a) va co ot corners market quay hasOdd oddM oddQ kind nights cart 200 S 200 B lc 4 lf 4 lt 4 ly 4 lp sc 16 sp 16 sf 16 st 16 sy) (f_ShutWaysModel_isLine_193 (nI w) (nI 3) (nI w) (nI n) (nI e0) (nI s0) t0 dg nb fa (nI C) (nI K) lc 200 T 60 rd) := by
  obtain ⟨⟨q1, q2, q3⟩, ⟨q4, q5⟩, q6, q8, q9, q10, q11, q12⟩ := id hP
  subst q4; subst q5
  unfold f_Text_readLine f_ShutWaysModel_isLine_193
  rw [c1, Option.bind_some]
  dsimp only
  rw [if_pos rfl, u0, Option.bind_some, if_pos rfl, u1, Option.bind_some, if_pos rfl, u2, Option.bind_some, if_pos rfl, u3, Option.bind_some, if_neg one_ne]
  rw [gixN (show w < 60 by omega) (by decide), gixN (show w < 60 by omega) (by decide), nIc (show w < 2 ^ 31 by omega), if_neg (show ¬ upd rd w (nI 3) w = 0 by rw [pk_us]; decide), if_neg (show ¬ upd rd w (nI 3) w = 1 by rw [pk_us]; decide), if_neg (show ¬ upd rd w (nI 3) w = 2 by rw [pk_us]; decide), if_pos (show upd rd w (nI 3) w = 3 from pk_us)]
  unfold f_Text_readEnds
  rcases places_sim X he (w := w) (C := C) (by omega) q1 q2 0 (nI s0) v0 co ot (nI s0) t0 dg nb fa (upd rd w (nI 3)) with ⟨u, v, e, s, so1, va1, t1, dg1, nb1, r1, r2, r3, r4, r5, r6⟩ | ⟨s, hsn, so1, e1, v1, co1, ot1, p1, t1, dg1, nb1, rd1, r5, r6⟩
  · rw [r5, r6, Option.bind_some, Option.bind_some]
    dsimp only
    rw [if_neg one_ne, Option.bind_some]
    refine Or.inl ⟨C, K, e, s, _, _, _, _, _, _, _, _, _, _, _, _, _, _, _, _, _, _, _, _, _, _, _, _, _, _, _, nI C, mstreets, mtwice, mcouncil, mnights, mlanes, mcart, mal, upd (upd mend 0 (nI u)) 1 (nI v), mfrom, mto, myards, mprice, mlane, rfl, rfl, r4, fun p hp => (upd_lt hp (by omega)).trans ((upd_lt hp (by omega)).trans (upd_lt hp (Nat.le_refl _))), ?_, ?_⟩
    · refine ⟨⟨q1, q2, q3⟩, ⟨rfl, rfl⟩, q6, q8, q9, ⟨u, v, r1, r2, r3, rfl, (pk_un (by decide)).trans pk_us, rfl, pk_us⟩, ?_, q12⟩
      rcases q11 with g | ⟨g1, g2, a1, a2, a3, a4, a5, a6, a7, a8, a9⟩
      · exact Or.inl g
      · exact Or.inr ⟨g1, g2, a1, a2, a3, a4, a5, a6, (pk_un (by decide)).trans ((pk_un (by decide)).trans a7), a8, (pk_un (by decide)).trans ((pk_un (by decide)).trans a9)⟩
    · intro rd2 hr
      have x0 : rd2 w = 3 := by rw [hr w (by omega), pk_un (by omega), pk_un (by omega), pk_us]; rfl
      have x1 : rd2 (w + 1) = nI u := by rw [hr (w + 1) (by omega), pk_un (by omega), pk_us]
      have x2 : rd2 (w + 2) = nI v := by rw [hr (w + 2) (by omega), pk_us]
      rw [do_pre hw, x0, x1, x2, if_neg (by decide), if_neg (by decide), if_neg (by decide), if_pos rfl]
      rfl
  · rw [r5, r6, Option.bind_some, Option.bind_some]
    exact Or.inr ⟨s, hsn, _, _, _, _, _, _, _, _, _, _, _, rfl, rfl⟩
theorem ln_also (X : TX n b B S T) (hw : w + 4 < 60) (he : e0 ≤ n) (hs0 : s0 ≤ n) (hP : IPlan C K corners market quay hasOdd oddM oddQ kind nights cart sc sf st sy sp lc lf lt ly lp mcorners mstreets mtwice mcouncil mnights mlanes mcart (nI K) mfrom mto myards mprice mend mlane) (c1 : f_Text_readToken (nI n) so sta (nI a) va 200 S 200 B = some (0, nI s0, nI e0, v0)) (u0 : f_Text_spells_0 (nI s0) (nI e0) 200 B = some 0) (u1 : f_Text_spells_1 (nI s0) (nI e0) 200 B = some 0) (u2 : f_Text_spells_2 (nI s0) (nI e0) 200 B = some 0) (u3 : f_Text_spells_3 (nI s0) (nI e0) 200 B = some 0) (u4 : f_Text_spells_4 (nI s0) (nI e0) 200 B = some 1) : LineR n w fa rd mcorners mstreets mtwice mcouncil mnights mlanes mcart mal mend mfrom mto myards mprice mlane (f_Text_readLine (nI n) so sta (nI a) va co ot corners market quay hasOdd oddM oddQ kind nights cart 200 S 200 B lc 4 lf 4 lt 4 ly 4 lp sc 16 sp 16 sf 16 st 16 sy) (f_ShutWaysModel_isLine_193 (nI w) (nI 4) (nI w) (nI n) (nI e0) (nI s0) t0 dg nb fa (nI C) (nI K) lc 200 T 60 rd) := by
  obtain ⟨⟨q1, q2, q3⟩, ⟨q4, q5⟩, q6, q8, q9, q10, q11, q12⟩ := id hP
  subst q4; subst q5
  unfold f_Text_readLine f_ShutWaysModel_isLine_193
  rw [c1, Option.bind_some]
  dsimp only
  rw [if_pos rfl, u0, Option.bind_some, if_pos rfl, u1, Option.bind_some, if_pos rfl, u2, Option.bind_some, if_pos rfl, u3, Option.bind_some, if_pos rfl, u4, Option.bind_some, if_neg one_ne]
  rw [gixN (show w < 60 by omega) (by decide), gixN (show w < 60 by omega) (by decide), nIc (show w < 2 ^ 31 by omega), if_neg (show ¬ upd rd w (nI 4) w = 0 by rw [pk_us]; decide), if_neg (show ¬ upd rd w (nI 4) w = 1 by rw [pk_us]; decide), if_neg (show ¬ upd rd w (nI 4) w = 2 by rw [pk_us]; decide), if_neg (show ¬ upd rd w (nI 4) w = 3 by rw [pk_us]; decide), if_pos (show upd rd w (nI 4) w = 4 from pk_us)]
  unfold f_Text_readOddEnds
  rcases places_sim X he (w := w) (C := C) (by omega) q1 q2 0 (nI s0) v0 co ot (nI s0) t0 dg nb fa (upd rd w (nI 4)) with ⟨u, v, e, s, so1, va1, t1, dg1, nb1, r1, r2, r3, r4, r5, r6⟩ | ⟨s, hsn, so1, e1, v1, co1, ot1, p1, t1, dg1, nb1, rd1, r5, r6⟩
  · rw [r5, r6, Option.bind_some, Option.bind_some]
    dsimp only
    rw [if_neg one_ne, Option.bind_some]
    refine Or.inl ⟨C, K, e, s, _, _, _, _, _, _, _, _, _, _, _, _, _, _, _, _, _, _, _, _, _, _, _, _, _, _, _, nI C, mstreets, 1, mcouncil, mnights, mlanes, mcart, mal, upd (upd mend 2 (nI u)) 3 (nI v), mfrom, mto, myards, mprice, mlane, rfl, rfl, r4, fun p hp => (upd_lt hp (by omega)).trans ((upd_lt hp (by omega)).trans (upd_lt hp (Nat.le_refl _))), ?_, ?_⟩
    · refine ⟨⟨q1, q2, q3⟩, ⟨rfl, rfl⟩, q6, q8, q9, ?_, Or.inr ⟨rfl, rfl, u, v, r1, r2, r3, rfl, (pk_un (by decide)).trans pk_us, rfl, pk_us⟩, q12⟩
      obtain ⟨a1, a2, a3, a4, a5, a6, a7, a8, a9⟩ := q10
      exact ⟨a1, a2, a3, a4, a5, a6, (pk_un (by decide)).trans ((pk_un (by decide)).trans a7), a8, (pk_un (by decide)).trans ((pk_un (by decide)).trans a9)⟩
    · intro rd2 hr
      have x0 : rd2 w = 4 := by rw [hr w (by omega), pk_un (by omega), pk_un (by omega), pk_us]; rfl
      have x1 : rd2 (w + 1) = nI u := by rw [hr (w + 1) (by omega), pk_un (by omega), pk_us]
      have x2 : rd2 (w + 2) = nI v := by rw [hr (w + 2) (by omega), pk_us]
      rw [do_pre hw, x0, x1, x2, if_neg (by decide), if_neg (by decide), if_neg (by decide), if_neg (by decide), if_pos rfl]
      rfl
  · rw [r5, r6, Option.bind_some, Option.bind_some]
    exact Or.inr ⟨s, hsn, _, _, _, _, _, _, _, _, _, _, _, rfl, rfl⟩
theorem do192e (hw : w + 4 < 60) {ln : Nat} (hl : ln < 4) {rd2 : Nat → Int32} {u v y x : Int32} (x1 : rd2 (w + 1) = u) (x2 : rd2 (w + 2) = v) (x3 : rd2 (w + 3) = y) (x4 : rd2 (w + 4) = x) : ∀ m, 4 < m → f_ShutWaysModel_doLine_192 m (nI w) 0 mcorners mstreets mtwice mcouncil mnights (nI ln) mcart mal 60 rd2 4 mend 16 mfrom 16 mto 16 myards 12 mprice 16 mlane = some (mcorners, mstreets, mtwice, mcouncil, mnights, nI (ln + 1), mcart, mal, mend, mfrom, mto, myards, mprice, upd (upd (upd (upd mlane (4 * ln) u) (4 * ln + 1) v) (4 * ln + 2) y) (4 * ln + 3) x) := by
  intro m hm
  obtain ⟨m, rfl⟩ : ∃ m', m = m' + 5 := ⟨m - 5, by omega⟩
  have st : ∀ (m k : Nat) (L : Nat → Int32), k < 4 → f_ShutWaysModel_doLine_192 (m + 1) (nI w) (nI k) mcorners mstreets mtwice mcouncil mnights (nI ln) mcart mal 60 rd2 4 mend 16 mfrom 16 mto 16 myards 12 mprice 16 L = f_ShutWaysModel_doLine_192 m (nI w) (nI (k + 1)) mcorners mstreets mtwice mcouncil mnights (nI ln) mcart mal 60 rd2 4 mend 16 mfrom 16 mto 16 myards 12 mprice 16 (upd L (4 * ln + k) (rd2 (w + 1 + k))) := by
    intro m k L hk
    rw [show f_ShutWaysModel_doLine_192 (m + 1) = b_ShutWaysModel_doLine_192 (f_ShutWaysModel_doLine_192 m) from rfl]
    unfold b_ShutWaysModel_doLine_192
    rw [if_neg (show ¬ (4 : Int32) ≤ nI k from nI_ge (b := 4) (by omega) (by decide)), show nI w + 1 + nI k = nI (w + 1 + k) by rw [nI_1, nI_add], show (4 : Int32) * nI ln + nI k = nI (4 * ln + k) by rw [show (4 : Int32) * nI ln = nI (4 * ln) from pk_mul 4 ln, nI_add]]
    simp only [nmI, nI_1, gixN (show w + 1 + k < 60 by omega) (by decide : 60 < 2 ^ 31), gixN (show 4 * ln + k < 16 by omega) (by decide : 16 < 2 ^ 31), nIc (show w + 1 + k < 2 ^ 31 by omega), nIc (show 4 * ln + k < 2 ^ 31 by omega)]
  have s0 := st (m + 4) 0 mlane (by decide)
  rw [nI_0, Nat.add_zero, Nat.add_zero, x1] at s0
  rw [s0, st (m + 3) 1 _ (by decide), st (m + 2) 2 _ (by decide), st (m + 1) 3 _ (by decide), show w + 1 + 1 = w + 2 from rfl, show w + 1 + 2 = w + 3 from rfl, show w + 1 + 3 = w + 4 from rfl, x2, x3, x4]
  rw [show f_ShutWaysModel_doLine_192 (m + 1) = b_ShutWaysModel_doLine_192 (f_ShutWaysModel_doLine_192 m) from rfl]
  unfold b_ShutWaysModel_doLine_192
  rw [if_pos (show (4 : Int32) ≤ nI (3 + 1) by decide)]
  simp only [nmI, nI_1, Nat.add_zero]
theorem ln_lane (X : TX n b B S T) (hw : w + 4 < 60) (he : e0 ≤ n) (hs0 : s0 ≤ n) (hP : IPlan C K corners market quay hasOdd oddM oddQ kind nights cart sc sf st sy sp lc lf lt ly lp mcorners mstreets mtwice mcouncil mnights mlanes mcart (nI K) mfrom mto myards mprice mend mlane) (c1 : f_Text_readToken (nI n) so sta (nI a) va 200 S 200 B = some (0, nI s0, nI e0, v0)) (u0 : f_Text_spells_0 (nI s0) (nI e0) 200 B = some 0) (u1 : f_Text_spells_1 (nI s0) (nI e0) 200 B = some 0) (u2 : f_Text_spells_2 (nI s0) (nI e0) 200 B = some 0) (u3 : f_Text_spells_3 (nI s0) (nI e0) 200 B = some 0) (u4 : f_Text_spells_4 (nI s0) (nI e0) 200 B = some 0) (u5 : f_Text_spells_5 (nI s0) (nI e0) 200 B = some 1) : LineR n w fa rd mcorners mstreets mtwice mcouncil mnights mlanes mcart mal mend mfrom mto myards mprice mlane (f_Text_readLine (nI n) so sta (nI a) va co ot corners market quay hasOdd oddM oddQ kind nights cart 200 S 200 B lc 4 lf 4 lt 4 ly 4 lp sc 16 sp 16 sf 16 st 16 sy) (f_ShutWaysModel_isLine_193 (nI w) (nI 5) (nI w) (nI n) (nI e0) (nI s0) t0 dg nb fa (nI C) (nI K) lc 200 T 60 rd) := by
  obtain ⟨⟨q1, q2, q3⟩, ⟨q4, q5⟩, q6, q8, ⟨ln, hl4, q9, q10, q11⟩, q12⟩ := id hP
  subst q4; subst q5; subst q9; subst q10
  unfold f_Text_readLine f_ShutWaysModel_isLine_193
  rw [c1, Option.bind_some]
  dsimp only
  rw [if_pos rfl, u0, Option.bind_some, if_pos rfl, u1, Option.bind_some, if_pos rfl, u2, Option.bind_some, if_pos rfl, u3, Option.bind_some, if_pos rfl, u4, Option.bind_some, if_pos rfl, u5, Option.bind_some, if_neg one_ne]
  rw [gixN (show w < 60 by omega) (by decide), gixN (show w < 60 by omega) (by decide), nIc (show w < 2 ^ 31 by omega), if_neg (show ¬ upd rd w (nI 5) w = 0 by rw [pk_us]; decide), if_neg (show ¬ upd rd w (nI 5) w = 1 by rw [pk_us]; decide), if_neg (show ¬ upd rd w (nI 5) w = 2 by rw [pk_us]; decide), if_neg (show ¬ upd rd w (nI 5) w = 3 by rw [pk_us]; decide), if_neg (show ¬ upd rd w (nI 5) w = 4 by rw [pk_us]; decide), if_pos (show upd rd w (nI 5) w = 5 from pk_us)]
  unfold f_Text_readLane f_ShutWaysModel_isLane f_Text_readLane_29 f_ShutWaysModel_isLane_61 f_ShutWaysModel_isLane_62 f_ShutWaysModel_fails
  rw [show nI w + 3 = nI (w + 3) from nI_add w 3, show nI w + 4 = nI (w + 4) from nI_add w 4]
  by_cases z : ln = 4
  · rw [if_pos (show (4 : Int32) ≤ nI ln by rw [z]; decide), if_pos (show nI ln = 4 by rw [z]; rfl)]
    exact Or.inr ⟨s0, hs0, _, _, _, _, _, _, _, _, _, _, _, rfl, rfl⟩
  · rw [if_neg (show ¬ (4 : Int32) ≤ nI ln from nI_ge (b := 4) (by omega) (by decide)), if_neg (show ¬ nI ln = 4 from nI_ne (b := 4) (by omega) (by decide) z)]
    simp only [nmI, nI_1]
    rcases places_sim X he (w := w) (C := C) (by omega) q1 q2 0 (nI s0) v0 co ot (nI s0) t0 dg nb fa (upd rd w (nI 5)) with ⟨u, v, e, s, so1, va1, t1, dg1, nb1, r1, r2, r3, r4, r5, r6⟩ | ⟨s, hsn, so1, e1, v1, co1, ot1, p1, t1, dg1, nb1, rd1, r5, r6⟩
    · rw [r5, r6, Option.bind_some, Option.bind_some]
      dsimp only
      rw [if_neg one_ne, if_neg one_ne]
      rcases num_sim X r4 (w := w + 3) (by omega) 1 99 so1 (nI s) va1 (nI s) t1 dg1 nb1 fa (upd (upd (upd rd w (nI 5)) (w + 1) (nI u)) (w + 2) (nI v)) with ⟨y, e', s', hsx, so2, t2, dg2, nb2, p1, p2, p3, p4, p5⟩ | ⟨s, hsn, so2, e2, v2, p1, t2, dg2, nb2, p4, p5⟩
      · obtain ⟨k, k1, k2, k3⟩ := i32_rng (v := nI y) (a := 1) (b := 99) (by decide) (by decide) p3
        have kv : y = k := (nI_eq (by omega) (by omega)).mp k3
        subst kv
        rw [p4, p5, Option.bind_some, Option.bind_some]
        dsimp only
        rw [if_neg one_ne, if_neg one_ne]
        rcases num_sim X p2 (w := w + 4) (by omega) 0 99 so2 (nI s') (nI y) (nI s') t2 dg2 nb2 fa (upd (upd (upd (upd rd w (nI 5)) (w + 1) (nI u)) (w + 2) (nI v)) (w + 3) (nI y)) with ⟨x, e3, s3, hsx, so3, t3, dg3, nb3, o1, o2, o3, o4, o5⟩ | ⟨s, hsn, so3, e3, v3, o1, t3, dg3, nb3, o4, o5⟩
        · rw [o4, o5, Option.bind_some, Option.bind_some]
          dsimp only
          unfold f_Roads_add
          simp only [if_neg one_ne, gixN (show ln < 4 by omega) (by decide : 4 < 2 ^ 31), nIc (show ln < 2 ^ 31 by omega), if_pos (nI_lt (show ln < 4 by omega) (by decide : 4 < 2 ^ 31)), nmI, nI_1, Option.bind_some]
          have hL : ∀ rd2 : Nat → Int32, (∀ p, p < w + 5 → rd2 p = upd (upd (upd (upd (upd rd w (nI 5)) (w + 1) (nI u)) (w + 2) (nI v)) (w + 3) (nI y)) (w + 4) (nI x) p) → rd2 w = 5 ∧ rd2 (w + 1) = nI u ∧ rd2 (w + 2) = nI v ∧ rd2 (w + 3) = nI y ∧ rd2 (w + 4) = nI x := by
            intro rd2 hr
            refine ⟨?_, ?_, ?_, ?_, ?_⟩
            · rw [hr w (by omega), pk_un (by omega), pk_un (by omega), pk_un (by omega), pk_un (by omega), pk_us]; rfl
            · rw [hr (w + 1) (by omega), pk_un (by omega), pk_un (by omega), pk_un (by omega), pk_us]
            · rw [hr (w + 2) (by omega), pk_un (by omega), pk_un (by omega), pk_us]
            · rw [hr (w + 3) (by omega), pk_un (by omega), pk_us]
            · rw [hr (w + 4) (by omega), pk_us]
          refine Or.inl ⟨C, K, e3, s3, _, _, _, _, _, _, _, _, _, _, _, _, _, _, _, _, _, _, _, _, _, _, _, _, _, _, _, nI C, mstreets, mtwice, mcouncil, mnights, nI (ln + 1), mcart, mal, mend, mfrom, mto, myards, mprice, upd (upd (upd (upd mlane (4 * ln) (nI u)) (4 * ln + 1) (nI v)) (4 * ln + 2) (nI y)) (4 * ln + 3) (nI x), rfl, rfl, o2, fun p hp => (upd_lt hp (by omega)).trans ((upd_lt hp (by omega)).trans ((upd_lt hp (by omega)).trans ((upd_lt hp (by omega)).trans (upd_lt hp (Nat.le_refl _))))), ?_, ?_⟩
          · refine ⟨⟨q1, q2, q3⟩, ⟨rfl, rfl⟩, q6, q8, ⟨ln + 1, by omega, rfl, rfl, ?_⟩, q12⟩
            intro l hl
            by_cases ee : l = ln
            · subst ee
              refine ⟨u, v, y, x, r1, r2, r3, k1, k2, o1, pk_us, ?_, pk_us, ?_, pk_us, ?_, pk_us, pk_us⟩
              · rw [pk_un (by omega), pk_un (by omega), pk_un (by omega), pk_us]
              · rw [pk_un (by omega), pk_un (by omega), pk_us]
              · rw [pk_un (by omega), pk_us]
            · obtain ⟨a1, a2, a3, a4, h1, h2, h3, h4, h5, h6, g1, g2, g3, g4, g5, g6, g7, g8⟩ := q11 l (by omega)
              have far : ∀ p, p < 4 * ln → upd (upd (upd (upd mlane (4 * ln) (nI u)) (4 * ln + 1) (nI v)) (4 * ln + 2) (nI y)) (4 * ln + 3) (nI x) p = mlane p := fun p hp => by rw [pk_un (by omega), pk_un (by omega), pk_un (by omega), pk_un (by omega)]
              exact ⟨a1, a2, a3, a4, h1, h2, h3, h4, h5, h6, (pk_un ee).trans g1, (far _ (by omega)).trans g2, (pk_un ee).trans g3, (far _ (by omega)).trans g4, (pk_un ee).trans g5, (far _ (by omega)).trans g6, (pk_un ee).trans g7, (far _ (by omega)).trans g8⟩
          · intro rd2 hr
            obtain ⟨x0, x1, x2, x3, x4⟩ := hL rd2 hr
            have hFU : 20 < FU := by rw [FU_eq]; decide
            rw [do_pre hw, x0, if_neg (by decide), if_neg (by decide), if_neg (by decide), if_neg (by decide), if_neg (by decide), if_pos rfl]
            generalize FU = M0 at hFU ⊢
            exact do192e hw (by omega) x1 x2 x3 x4 M0 (by omega)
        · rw [o4, o5, Option.bind_some, Option.bind_some]
          exact Or.inr ⟨s, hsn, _, _, _, _, _, _, _, _, _, _, _, rfl, rfl⟩
      · rw [p4, p5, Option.bind_some, Option.bind_some]
        exact Or.inr ⟨s, hsn, _, _, _, _, _, _, _, _, _, _, _, rfl, rfl⟩
    · rw [r5, r6, Option.bind_some, Option.bind_some]
      exact Or.inr ⟨s, hsn, _, _, _, _, _, _, _, _, _, _, _, rfl, rfl⟩
theorem ln_cart (X : TX n b B S T) (hw : w + 4 < 60) (he : e0 ≤ n) (hs0 : s0 ≤ n) (hP : IPlan C K corners market quay hasOdd oddM oddQ kind nights cart sc sf st sy sp lc lf lt ly lp mcorners mstreets mtwice mcouncil mnights mlanes mcart (nI K) mfrom mto myards mprice mend mlane) (c1 : f_Text_readToken (nI n) so sta (nI a) va 200 S 200 B = some (0, nI s0, nI e0, v0)) (u0 : f_Text_spells_0 (nI s0) (nI e0) 200 B = some 0) (u1 : f_Text_spells_1 (nI s0) (nI e0) 200 B = some 0) (u2 : f_Text_spells_2 (nI s0) (nI e0) 200 B = some 0) (u3 : f_Text_spells_3 (nI s0) (nI e0) 200 B = some 0) (u4 : f_Text_spells_4 (nI s0) (nI e0) 200 B = some 0) (u5 : f_Text_spells_5 (nI s0) (nI e0) 200 B = some 0) (u6 : f_Text_spells_6 (nI s0) (nI e0) 200 B = some 1) : LineR n w fa rd mcorners mstreets mtwice mcouncil mnights mlanes mcart mal mend mfrom mto myards mprice mlane (f_Text_readLine (nI n) so sta (nI a) va co ot corners market quay hasOdd oddM oddQ kind nights cart 200 S 200 B lc 4 lf 4 lt 4 ly 4 lp sc 16 sp 16 sf 16 st 16 sy) (f_ShutWaysModel_isLine_193 (nI w) (nI 6) (nI w) (nI n) (nI e0) (nI s0) t0 dg nb fa (nI C) (nI K) lc 200 T 60 rd) := by
  obtain ⟨⟨q1, q2, q3⟩, ⟨q4, q5⟩, q6, q8, q9, q10, q11, q12, q13, -⟩ := id hP
  subst q4; subst q5
  unfold f_Text_readLine f_ShutWaysModel_isLine_193
  rw [c1, Option.bind_some]
  dsimp only
  rw [if_pos rfl, u0, Option.bind_some, if_pos rfl, u1, Option.bind_some, if_pos rfl, u2, Option.bind_some, if_pos rfl, u3, Option.bind_some, if_pos rfl, u4, Option.bind_some, if_pos rfl, u5, Option.bind_some, if_pos rfl, u6, Option.bind_some, if_neg one_ne]
  rw [gixN (show w < 60 by omega) (by decide), gixN (show w < 60 by omega) (by decide), nIc (show w < 2 ^ 31 by omega), if_neg (show ¬ upd rd w (nI 6) w = 0 by rw [pk_us]; decide), if_neg (show ¬ upd rd w (nI 6) w = 1 by rw [pk_us]; decide), if_neg (show ¬ upd rd w (nI 6) w = 2 by rw [pk_us]; decide), if_neg (show ¬ upd rd w (nI 6) w = 3 by rw [pk_us]; decide), if_neg (show ¬ upd rd w (nI 6) w = 4 by rw [pk_us]; decide), if_neg (show ¬ upd rd w (nI 6) w = 5 by rw [pk_us]; decide), if_pos (show upd rd w (nI 6) w = 6 from pk_us)]
  unfold f_Text_readCart
  rw [show nI w + 1 = nI (w + 1) from nI_1 w]
  rcases num_sim X he (w := w + 1) (by omega) 1 99 0 (nI s0) v0 (nI s0) t0 dg nb fa (upd rd w (nI 6)) with ⟨v, e, s, hsx, so1, t1, dg1, nb1, p1, p2, p3, p4, p5⟩ | ⟨s, hsn, so1, e1, v1, p1, t1, dg1, nb1, p4, p5⟩
  · obtain ⟨k, k1, k2, k3⟩ := i32_rng (v := nI v) (a := 1) (b := 99) (by decide) (by decide) p3
    have kv : v = k := (nI_eq (by omega) (by omega)).mp k3
    subst kv
    rw [p4, p5, Option.bind_some, Option.bind_some]
    dsimp only
    rw [if_neg one_ne, Option.bind_some]
    refine Or.inl ⟨C, K, e, s, _, _, _, _, _, _, _, _, _, _, _, _, _, _, _, _, _, _, _, _, _, _, _, _, _, _, _, nI C, mstreets, mtwice, mcouncil, mnights, mlanes, nI v, mal, mend, mfrom, mto, myards, mprice, mlane, rfl, rfl, p2, fun p hp => (upd_lt hp (by omega)).trans (upd_lt hp (Nat.le_refl _)), ?_, ?_⟩
    · exact ⟨⟨q1, q2, q3⟩, ⟨rfl, rfl⟩, q6, q8, q9, q10, q11, q12, q13, ⟨v, k1, k2, rfl, rfl⟩⟩
    · intro rd2 hr
      have x0 : rd2 w = 6 := by rw [hr w (by omega), pk_un (by omega), pk_us]; rfl
      have x1 : rd2 (w + 1) = nI v := by rw [hr (w + 1) (by omega), pk_us]
      rw [do_pre hw, x0, x1, if_neg (by decide), if_neg (by decide), if_neg (by decide), if_neg (by decide), if_neg (by decide), if_neg (by decide), if_pos rfl]
  · rw [p4, p5, Option.bind_some, Option.bind_some]
    exact Or.inr ⟨s, hsn, _, _, _, _, _, _, _, _, _, _, _, rfl, rfl⟩
theorem ln_first (X : TX n b B S T) (hw : w + 4 < 60) (he : e0 ≤ n) (hs0 : s0 ≤ n) (hP : IPlan C K corners market quay hasOdd oddM oddQ kind nights cart sc sf st sy sp lc lf lt ly lp mcorners mstreets mtwice mcouncil mnights mlanes mcart (nI K) mfrom mto myards mprice mend mlane) (c1 : f_Text_readToken (nI n) so sta (nI a) va 200 S 200 B = some (0, nI s0, nI e0, v0)) (u0 : f_Text_spells_0 (nI s0) (nI e0) 200 B = some 0) (u1 : f_Text_spells_1 (nI s0) (nI e0) 200 B = some 0) (u2 : f_Text_spells_2 (nI s0) (nI e0) 200 B = some 0) (u3 : f_Text_spells_3 (nI s0) (nI e0) 200 B = some 0) (u4 : f_Text_spells_4 (nI s0) (nI e0) 200 B = some 0) (u5 : f_Text_spells_5 (nI s0) (nI e0) 200 B = some 0) (u6 : f_Text_spells_6 (nI s0) (nI e0) 200 B = some 0) (u7 : f_Text_spells_7 (nI s0) (nI e0) 200 B = some 1) : LineR n w fa rd mcorners mstreets mtwice mcouncil mnights mlanes mcart mal mend mfrom mto myards mprice mlane (f_Text_readLine (nI n) so sta (nI a) va co ot corners market quay hasOdd oddM oddQ kind nights cart 200 S 200 B lc 4 lf 4 lt 4 ly 4 lp sc 16 sp 16 sf 16 st 16 sy) (f_ShutWaysModel_isLine_193 (nI w) (nI 7) (nI w) (nI n) (nI e0) (nI s0) t0 dg nb fa (nI C) (nI K) lc 200 T 60 rd) := by
  obtain ⟨⟨q1, q2, q3⟩, ⟨q4, q5⟩, q6, q8, q9, q10, q11, -, -, q14⟩ := id hP
  subst q4; subst q5
  have hks : f_Text_kindSpelt (nI s0) (nI e0) 200 B = some (nI 0) := by
    unfold f_Text_kindSpelt f_Text_kindSpelt_47
    rw [u7, Option.bind_some, if_neg one_ne]
    rfl
  unfold f_Text_readLine f_ShutWaysModel_isLine_193
  rw [c1, Option.bind_some]
  dsimp only
  rw [if_pos rfl, u0, Option.bind_some, if_pos rfl, u1, Option.bind_some, if_pos rfl, u2, Option.bind_some, if_pos rfl, u3, Option.bind_some, if_pos rfl, u4, Option.bind_some, if_pos rfl, u5, Option.bind_some, if_pos rfl, u6, Option.bind_some, if_pos rfl]
  rw [gixN (show w < 60 by omega) (by decide), gixN (show w < 60 by omega) (by decide), nIc (show w < 2 ^ 31 by omega), if_neg (show ¬ upd rd w (nI 7) w = 0 by rw [pk_us]; decide), if_neg (show ¬ upd rd w (nI 7) w = 1 by rw [pk_us]; decide), if_neg (show ¬ upd rd w (nI 7) w = 2 by rw [pk_us]; decide), if_neg (show ¬ upd rd w (nI 7) w = 3 by rw [pk_us]; decide), if_neg (show ¬ upd rd w (nI 7) w = 4 by rw [pk_us]; decide), if_neg (show ¬ upd rd w (nI 7) w = 5 by rw [pk_us]; decide), if_neg (show ¬ upd rd w (nI 7) w = 6 by rw [pk_us]; decide), if_pos (show upd rd w (nI 7) w = 7 from pk_us)]
  unfold f_Text_readCouncil f_Text_readCouncil_15
  rw [hks, Option.bind_some, if_neg (show ¬ nI 0 = -1 by decide), show nI w + 1 = nI (w + 1) from nI_1 w]
  rcases num_sim X he (w := w + 1) (by omega) 1 9 0 (nI s0) v0 (nI s0) t0 dg nb fa (upd rd w (nI 7)) with ⟨v, e, s, hsx, so1, t1, dg1, nb1, p1, p2, p3, p4, p5⟩ | ⟨s, hsn, so1, e1, v1, p1, t1, dg1, nb1, p4, p5⟩
  · obtain ⟨k, k1, k2, k3⟩ := i32_rng (v := nI v) (a := 1) (b := 9) (by decide) (by decide) p3
    have kv : v = k := (nI_eq (by omega) (by omega)).mp k3
    subst kv
    rw [p4, p5, Option.bind_some, Option.bind_some]
    dsimp only
    rw [if_neg one_ne, Option.bind_some]
    refine Or.inl ⟨C, K, e, s, _, _, _, _, _, _, _, _, _, _, _, _, _, _, _, _, _, _, _, _, _, _, _, _, _, _, _, nI C, mstreets, mtwice, nI 0, nI v, mlanes, mcart, mal, mend, mfrom, mto, myards, mprice, mlane, rfl, rfl, p2, fun p hp => (upd_lt hp (by omega)).trans (upd_lt hp (Nat.le_refl _)), ?_, ?_⟩
    · exact ⟨⟨q1, q2, q3⟩, ⟨rfl, rfl⟩, q6, q8, q9, q10, q11, ⟨0, by decide, rfl, rfl⟩, ⟨v, k1, k2, rfl, rfl⟩, q14⟩
    · intro rd2 hr
      have x0 : rd2 w = 7 := by rw [hr w (by omega), pk_un (by omega), pk_us]; rfl
      have x1 : rd2 (w + 1) = nI v := by rw [hr (w + 1) (by omega), pk_us]
      rw [do_pre hw, x0, x1, if_neg (by decide), if_neg (by decide), if_neg (by decide), if_neg (by decide), if_neg (by decide), if_neg (by decide), if_neg (by decide)]
      rfl
  · rw [p4, p5, Option.bind_some, Option.bind_some]
    exact Or.inr ⟨s, hsn, _, _, _, _, _, _, _, _, _, _, _, rfl, rfl⟩
theorem ln_last (X : TX n b B S T) (hw : w + 4 < 60) (he : e0 ≤ n) (hs0 : s0 ≤ n) (hP : IPlan C K corners market quay hasOdd oddM oddQ kind nights cart sc sf st sy sp lc lf lt ly lp mcorners mstreets mtwice mcouncil mnights mlanes mcart (nI K) mfrom mto myards mprice mend mlane) (c1 : f_Text_readToken (nI n) so sta (nI a) va 200 S 200 B = some (0, nI s0, nI e0, v0)) (u0 : f_Text_spells_0 (nI s0) (nI e0) 200 B = some 0) (u1 : f_Text_spells_1 (nI s0) (nI e0) 200 B = some 0) (u2 : f_Text_spells_2 (nI s0) (nI e0) 200 B = some 0) (u3 : f_Text_spells_3 (nI s0) (nI e0) 200 B = some 0) (u4 : f_Text_spells_4 (nI s0) (nI e0) 200 B = some 0) (u5 : f_Text_spells_5 (nI s0) (nI e0) 200 B = some 0) (u6 : f_Text_spells_6 (nI s0) (nI e0) 200 B = some 0) (u7 : f_Text_spells_7 (nI s0) (nI e0) 200 B = some 0) (u8 : f_Text_spells_8 (nI s0) (nI e0) 200 B = some 1) : LineR n w fa rd mcorners mstreets mtwice mcouncil mnights mlanes mcart mal mend mfrom mto myards mprice mlane (f_Text_readLine (nI n) so sta (nI a) va co ot corners market quay hasOdd oddM oddQ kind nights cart 200 S 200 B lc 4 lf 4 lt 4 ly 4 lp sc 16 sp 16 sf 16 st 16 sy) (f_ShutWaysModel_isLine_193 (nI w) (nI 8) (nI w) (nI n) (nI e0) (nI s0) t0 dg nb fa (nI C) (nI K) lc 200 T 60 rd) := by
  obtain ⟨⟨q1, q2, q3⟩, ⟨q4, q5⟩, q6, q8, q9, q10, q11, -, -, q14⟩ := id hP
  subst q4; subst q5
  have hks : f_Text_kindSpelt (nI s0) (nI e0) 200 B = some (nI 1) := by
    unfold f_Text_kindSpelt f_Text_kindSpelt_47
    rw [u7, Option.bind_some, if_pos rfl, u8, Option.bind_some, if_neg one_ne]
    rfl
  unfold f_Text_readLine f_ShutWaysModel_isLine_193
  rw [c1, Option.bind_some]
  dsimp only
  rw [if_pos rfl, u0, Option.bind_some, if_pos rfl, u1, Option.bind_some, if_pos rfl, u2, Option.bind_some, if_pos rfl, u3, Option.bind_some, if_pos rfl, u4, Option.bind_some, if_pos rfl, u5, Option.bind_some, if_pos rfl, u6, Option.bind_some, if_pos rfl]
  rw [gixN (show w < 60 by omega) (by decide), gixN (show w < 60 by omega) (by decide), nIc (show w < 2 ^ 31 by omega), if_neg (show ¬ upd rd w (nI 8) w = 0 by rw [pk_us]; decide), if_neg (show ¬ upd rd w (nI 8) w = 1 by rw [pk_us]; decide), if_neg (show ¬ upd rd w (nI 8) w = 2 by rw [pk_us]; decide), if_neg (show ¬ upd rd w (nI 8) w = 3 by rw [pk_us]; decide), if_neg (show ¬ upd rd w (nI 8) w = 4 by rw [pk_us]; decide), if_neg (show ¬ upd rd w (nI 8) w = 5 by rw [pk_us]; decide), if_neg (show ¬ upd rd w (nI 8) w = 6 by rw [pk_us]; decide), if_neg (show ¬ upd rd w (nI 8) w = 7 by rw [pk_us]; decide), if_pos (show upd rd w (nI 8) w = 8 from pk_us)]
  unfold f_Text_readCouncil f_Text_readCouncil_15
  rw [hks, Option.bind_some, if_neg (show ¬ nI 1 = -1 by decide), show nI w + 1 = nI (w + 1) from nI_1 w]
  rcases num_sim X he (w := w + 1) (by omega) 1 9 0 (nI s0) v0 (nI s0) t0 dg nb fa (upd rd w (nI 8)) with ⟨v, e, s, hsx, so1, t1, dg1, nb1, p1, p2, p3, p4, p5⟩ | ⟨s, hsn, so1, e1, v1, p1, t1, dg1, nb1, p4, p5⟩
  · obtain ⟨k, k1, k2, k3⟩ := i32_rng (v := nI v) (a := 1) (b := 9) (by decide) (by decide) p3
    have kv : v = k := (nI_eq (by omega) (by omega)).mp k3
    subst kv
    rw [p4, p5, Option.bind_some, Option.bind_some]
    dsimp only
    rw [if_neg one_ne, Option.bind_some]
    refine Or.inl ⟨C, K, e, s, _, _, _, _, _, _, _, _, _, _, _, _, _, _, _, _, _, _, _, _, _, _, _, _, _, _, _, nI C, mstreets, mtwice, nI 1, nI v, mlanes, mcart, mal, mend, mfrom, mto, myards, mprice, mlane, rfl, rfl, p2, fun p hp => (upd_lt hp (by omega)).trans (upd_lt hp (Nat.le_refl _)), ?_, ?_⟩
    · exact ⟨⟨q1, q2, q3⟩, ⟨rfl, rfl⟩, q6, q8, q9, q10, q11, ⟨1, by decide, rfl, rfl⟩, ⟨v, k1, k2, rfl, rfl⟩, q14⟩
    · intro rd2 hr
      have x0 : rd2 w = 8 := by rw [hr w (by omega), pk_un (by omega), pk_us]; rfl
      have x1 : rd2 (w + 1) = nI v := by rw [hr (w + 1) (by omega), pk_us]
      rw [do_pre hw, x0, x1, if_neg (by decide), if_neg (by decide), if_neg (by decide), if_neg (by decide), if_neg (by decide), if_neg (by decide), if_neg (by decide)]
      rfl
  · rw [p4, p5, Option.bind_some, Option.bind_some]
    exact Or.inr ⟨s, hsn, _, _, _, _, _, _, _, _, _, _, _, rfl, rfl⟩
theorem ln_longest (X : TX n b B S T) (hw : w + 4 < 60) (he : e0 ≤ n) (hs0 : s0 ≤ n) (hP : IPlan C K corners market quay hasOdd oddM oddQ kind nights cart sc sf st sy sp lc lf lt ly lp mcorners mstreets mtwice mcouncil mnights mlanes mcart (nI K) mfrom mto myards mprice mend mlane) (c1 : f_Text_readToken (nI n) so sta (nI a) va 200 S 200 B = some (0, nI s0, nI e0, v0)) (u0 : f_Text_spells_0 (nI s0) (nI e0) 200 B = some 0) (u1 : f_Text_spells_1 (nI s0) (nI e0) 200 B = some 0) (u2 : f_Text_spells_2 (nI s0) (nI e0) 200 B = some 0) (u3 : f_Text_spells_3 (nI s0) (nI e0) 200 B = some 0) (u4 : f_Text_spells_4 (nI s0) (nI e0) 200 B = some 0) (u5 : f_Text_spells_5 (nI s0) (nI e0) 200 B = some 0) (u6 : f_Text_spells_6 (nI s0) (nI e0) 200 B = some 0) (u7 : f_Text_spells_7 (nI s0) (nI e0) 200 B = some 0) (u8 : f_Text_spells_8 (nI s0) (nI e0) 200 B = some 0) (u9 : f_Text_spells_9 (nI s0) (nI e0) 200 B = some 1) : LineR n w fa rd mcorners mstreets mtwice mcouncil mnights mlanes mcart mal mend mfrom mto myards mprice mlane (f_Text_readLine (nI n) so sta (nI a) va co ot corners market quay hasOdd oddM oddQ kind nights cart 200 S 200 B lc 4 lf 4 lt 4 ly 4 lp sc 16 sp 16 sf 16 st 16 sy) (f_ShutWaysModel_isLine_193 (nI w) (nI 9) (nI w) (nI n) (nI e0) (nI s0) t0 dg nb fa (nI C) (nI K) lc 200 T 60 rd) := by
  obtain ⟨⟨q1, q2, q3⟩, ⟨q4, q5⟩, q6, q8, q9, q10, q11, -, -, q14⟩ := id hP
  subst q4; subst q5
  have hks : f_Text_kindSpelt (nI s0) (nI e0) 200 B = some (nI 2) := by
    unfold f_Text_kindSpelt f_Text_kindSpelt_47
    rw [u7, Option.bind_some, if_pos rfl, u8, Option.bind_some, if_pos rfl, u9, Option.bind_some, if_neg one_ne]
    rfl
  unfold f_Text_readLine f_ShutWaysModel_isLine_193
  rw [c1, Option.bind_some]
  dsimp only
  rw [if_pos rfl, u0, Option.bind_some, if_pos rfl, u1, Option.bind_some, if_pos rfl, u2, Option.bind_some, if_pos rfl, u3, Option.bind_some, if_pos rfl, u4, Option.bind_some, if_pos rfl, u5, Option.bind_some, if_pos rfl, u6, Option.bind_some, if_pos rfl]
  rw [gixN (show w < 60 by omega) (by decide), gixN (show w < 60 by omega) (by decide), nIc (show w < 2 ^ 31 by omega), if_neg (show ¬ upd rd w (nI 9) w = 0 by rw [pk_us]; decide), if_neg (show ¬ upd rd w (nI 9) w = 1 by rw [pk_us]; decide), if_neg (show ¬ upd rd w (nI 9) w = 2 by rw [pk_us]; decide), if_neg (show ¬ upd rd w (nI 9) w = 3 by rw [pk_us]; decide), if_neg (show ¬ upd rd w (nI 9) w = 4 by rw [pk_us]; decide), if_neg (show ¬ upd rd w (nI 9) w = 5 by rw [pk_us]; decide), if_neg (show ¬ upd rd w (nI 9) w = 6 by rw [pk_us]; decide), if_neg (show ¬ upd rd w (nI 9) w = 7 by rw [pk_us]; decide), if_neg (show ¬ upd rd w (nI 9) w = 8 by rw [pk_us]; decide), if_pos (show upd rd w (nI 9) w = 9 from pk_us)]
  unfold f_Text_readCouncil f_Text_readCouncil_15
  rw [hks, Option.bind_some, if_neg (show ¬ nI 2 = -1 by decide), show nI w + 1 = nI (w + 1) from nI_1 w]
  rcases num_sim X he (w := w + 1) (by omega) 1 9 0 (nI s0) v0 (nI s0) t0 dg nb fa (upd rd w (nI 9)) with ⟨v, e, s, hsx, so1, t1, dg1, nb1, p1, p2, p3, p4, p5⟩ | ⟨s, hsn, so1, e1, v1, p1, t1, dg1, nb1, p4, p5⟩
  · obtain ⟨k, k1, k2, k3⟩ := i32_rng (v := nI v) (a := 1) (b := 9) (by decide) (by decide) p3
    have kv : v = k := (nI_eq (by omega) (by omega)).mp k3
    subst kv
    rw [p4, p5, Option.bind_some, Option.bind_some]
    dsimp only
    rw [if_neg one_ne, Option.bind_some]
    refine Or.inl ⟨C, K, e, s, _, _, _, _, _, _, _, _, _, _, _, _, _, _, _, _, _, _, _, _, _, _, _, _, _, _, _, nI C, mstreets, mtwice, nI 2, nI v, mlanes, mcart, mal, mend, mfrom, mto, myards, mprice, mlane, rfl, rfl, p2, fun p hp => (upd_lt hp (by omega)).trans (upd_lt hp (Nat.le_refl _)), ?_, ?_⟩
    · exact ⟨⟨q1, q2, q3⟩, ⟨rfl, rfl⟩, q6, q8, q9, q10, q11, ⟨2, by decide, rfl, rfl⟩, ⟨v, k1, k2, rfl, rfl⟩, q14⟩
    · intro rd2 hr
      have x0 : rd2 w = 9 := by rw [hr w (by omega), pk_un (by omega), pk_us]; rfl
      have x1 : rd2 (w + 1) = nI v := by rw [hr (w + 1) (by omega), pk_us]
      rw [do_pre hw, x0, x1, if_neg (by decide), if_neg (by decide), if_neg (by decide), if_neg (by decide), if_neg (by decide), if_neg (by decide), if_neg (by decide)]
      rfl
  · rw [p4, p5, Option.bind_some, Option.bind_some]
    exact Or.inr ⟨s, hsn, _, _, _, _, _, _, _, _, _, _, _, rfl, rfl⟩
theorem ln_least (X : TX n b B S T) (hw : w + 4 < 60) (he : e0 ≤ n) (hs0 : s0 ≤ n) (hP : IPlan C K corners market quay hasOdd oddM oddQ kind nights cart sc sf st sy sp lc lf lt ly lp mcorners mstreets mtwice mcouncil mnights mlanes mcart (nI K) mfrom mto myards mprice mend mlane) (c1 : f_Text_readToken (nI n) so sta (nI a) va 200 S 200 B = some (0, nI s0, nI e0, v0)) (u0 : f_Text_spells_0 (nI s0) (nI e0) 200 B = some 0) (u1 : f_Text_spells_1 (nI s0) (nI e0) 200 B = some 0) (u2 : f_Text_spells_2 (nI s0) (nI e0) 200 B = some 0) (u3 : f_Text_spells_3 (nI s0) (nI e0) 200 B = some 0) (u4 : f_Text_spells_4 (nI s0) (nI e0) 200 B = some 0) (u5 : f_Text_spells_5 (nI s0) (nI e0) 200 B = some 0) (u6 : f_Text_spells_6 (nI s0) (nI e0) 200 B = some 0) (u7 : f_Text_spells_7 (nI s0) (nI e0) 200 B = some 0) (u8 : f_Text_spells_8 (nI s0) (nI e0) 200 B = some 0) (u9 : f_Text_spells_9 (nI s0) (nI e0) 200 B = some 0) (u10 : f_Text_spells_10 (nI s0) (nI e0) 200 B = some 1) : LineR n w fa rd mcorners mstreets mtwice mcouncil mnights mlanes mcart mal mend mfrom mto myards mprice mlane (f_Text_readLine (nI n) so sta (nI a) va co ot corners market quay hasOdd oddM oddQ kind nights cart 200 S 200 B lc 4 lf 4 lt 4 ly 4 lp sc 16 sp 16 sf 16 st 16 sy) (f_ShutWaysModel_isLine_193 (nI w) (nI 10) (nI w) (nI n) (nI e0) (nI s0) t0 dg nb fa (nI C) (nI K) lc 200 T 60 rd) := by
  obtain ⟨⟨q1, q2, q3⟩, ⟨q4, q5⟩, q6, q8, q9, q10, q11, -, -, q14⟩ := id hP
  subst q4; subst q5
  have hks : f_Text_kindSpelt (nI s0) (nI e0) 200 B = some (nI 3) := by
    unfold f_Text_kindSpelt f_Text_kindSpelt_47
    rw [u7, Option.bind_some, if_pos rfl, u8, Option.bind_some, if_pos rfl, u9, Option.bind_some, if_pos rfl, u10, Option.bind_some, if_neg one_ne]
    rfl
  unfold f_Text_readLine f_ShutWaysModel_isLine_193
  rw [c1, Option.bind_some]
  dsimp only
  rw [if_pos rfl, u0, Option.bind_some, if_pos rfl, u1, Option.bind_some, if_pos rfl, u2, Option.bind_some, if_pos rfl, u3, Option.bind_some, if_pos rfl, u4, Option.bind_some, if_pos rfl, u5, Option.bind_some, if_pos rfl, u6, Option.bind_some, if_pos rfl]
  rw [gixN (show w < 60 by omega) (by decide), gixN (show w < 60 by omega) (by decide), nIc (show w < 2 ^ 31 by omega), if_neg (show ¬ upd rd w (nI 10) w = 0 by rw [pk_us]; decide), if_neg (show ¬ upd rd w (nI 10) w = 1 by rw [pk_us]; decide), if_neg (show ¬ upd rd w (nI 10) w = 2 by rw [pk_us]; decide), if_neg (show ¬ upd rd w (nI 10) w = 3 by rw [pk_us]; decide), if_neg (show ¬ upd rd w (nI 10) w = 4 by rw [pk_us]; decide), if_neg (show ¬ upd rd w (nI 10) w = 5 by rw [pk_us]; decide), if_neg (show ¬ upd rd w (nI 10) w = 6 by rw [pk_us]; decide), if_neg (show ¬ upd rd w (nI 10) w = 7 by rw [pk_us]; decide), if_neg (show ¬ upd rd w (nI 10) w = 8 by rw [pk_us]; decide), if_neg (show ¬ upd rd w (nI 10) w = 9 by rw [pk_us]; decide), if_pos (show upd rd w (nI 10) w = 10 from pk_us)]
  unfold f_Text_readCouncil f_Text_readCouncil_15
  rw [hks, Option.bind_some, if_neg (show ¬ nI 3 = -1 by decide), show nI w + 1 = nI (w + 1) from nI_1 w]
  rcases num_sim X he (w := w + 1) (by omega) 1 9 0 (nI s0) v0 (nI s0) t0 dg nb fa (upd rd w (nI 10)) with ⟨v, e, s, hsx, so1, t1, dg1, nb1, p1, p2, p3, p4, p5⟩ | ⟨s, hsn, so1, e1, v1, p1, t1, dg1, nb1, p4, p5⟩
  · obtain ⟨k, k1, k2, k3⟩ := i32_rng (v := nI v) (a := 1) (b := 9) (by decide) (by decide) p3
    have kv : v = k := (nI_eq (by omega) (by omega)).mp k3
    subst kv
    rw [p4, p5, Option.bind_some, Option.bind_some]
    dsimp only
    rw [if_neg one_ne, Option.bind_some]
    refine Or.inl ⟨C, K, e, s, _, _, _, _, _, _, _, _, _, _, _, _, _, _, _, _, _, _, _, _, _, _, _, _, _, _, _, nI C, mstreets, mtwice, nI 3, nI v, mlanes, mcart, mal, mend, mfrom, mto, myards, mprice, mlane, rfl, rfl, p2, fun p hp => (upd_lt hp (by omega)).trans (upd_lt hp (Nat.le_refl _)), ?_, ?_⟩
    · exact ⟨⟨q1, q2, q3⟩, ⟨rfl, rfl⟩, q6, q8, q9, q10, q11, ⟨3, by decide, rfl, rfl⟩, ⟨v, k1, k2, rfl, rfl⟩, q14⟩
    · intro rd2 hr
      have x0 : rd2 w = 10 := by rw [hr w (by omega), pk_un (by omega), pk_us]; rfl
      have x1 : rd2 (w + 1) = nI v := by rw [hr (w + 1) (by omega), pk_us]
      rw [do_pre hw, x0, x1, if_neg (by decide), if_neg (by decide), if_neg (by decide), if_neg (by decide), if_neg (by decide), if_neg (by decide), if_neg (by decide)]
      rfl
  · rw [p4, p5, Option.bind_some, Option.bind_some]
    exact Or.inr ⟨s, hsn, _, _, _, _, _, _, _, _, _, _, _, rfl, rfl⟩
end Line
