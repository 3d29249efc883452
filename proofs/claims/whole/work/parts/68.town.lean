/-! ===== fault, town ===== -/
theorem IText.x {len : Int32} {bytes sorts : Nat → Int32} {mlen : Int32} {mtext : Nat → Int32} (h : IText len bytes sorts mlen mtext) : ∃ (n : Nat) (b : Nat → Nat), len = nI n ∧ mlen = nI n ∧ TX n b bytes sorts mtext := by
  obtain ⟨n, hn, e1, e2, hb⟩ := h
  refine ⟨n, fun i => (bytes i).toNatClampNeg, e1, e2, hn, fun i hi => ?_⟩
  obtain ⟨b, h1, h2, h3, h4⟩ := hb i hi
  simp only [h2, h3, h4, nIc (show b < 2 ^ 31 by omega)]
  exact ⟨h1, trivial, trivial, trivial⟩
section Core12
variable {C K : Nat} {corners market quay hasOdd oddM oddQ kind nights cart sc : Int32} {sf st sy sp : Nat → Int32} {lc : Int32} {lf lt ly lp : Nat → Int32} {mcorners mstreets mtwice mcouncil mnights mlanes mcart mall : Int32} {mfrom mto myards mprice mend mlane : Nat → Int32} {gone mday : Int32} {shut mshut : Nat → Int32}
theorem IPlan.copy (hP : IPlan C K corners market quay hasOdd oddM oddQ kind nights cart sc sf st sy sp lc lf lt ly lp mcorners mstreets mtwice mcouncil mnights mlanes mcart mall mfrom mto myards mprice mend mlane) {sf' st' sy' sp' lf' lt' ly' lp' : Nat → Int32} (h1 : ∀ s, s < K → sf' s = sf s ∧ st' s = st s ∧ sy' s = sy s ∧ sp' s = sp s) (h2 : ∀ l, nI l < lc → l < 2 ^ 31 → lf' l = lf l ∧ lt' l = lt l ∧ ly' l = ly l ∧ lp' l = lp l) : IPlan C K corners market quay hasOdd oddM oddQ kind nights cart sc sf' st' sy' sp' lc lf' lt' ly' lp' mcorners mstreets mtwice mcouncil mnights mlanes mcart mall mfrom mto myards mprice mend mlane := by
  obtain ⟨q1, q2, q3, q4, ⟨ln, l1, l2, l3, l4⟩, q5⟩ := hP
  refine ⟨q1, q2, q3, ?_, ⟨ln, l1, l2, l3, ?_⟩, q5⟩
  · intro s hs
    obtain ⟨a1, a2, a3, a4, g1, g2, g3, g4, g5, g6, x1, x2, x3, x4, x5, x6, x7, x8⟩ := q4 s hs
    obtain ⟨y1, y2, y3, y4⟩ := h1 s hs
    exact ⟨a1, a2, a3, a4, g1, g2, g3, g4, g5, g6, y1.trans x1, x2, y2.trans x3, x4, y3.trans x5, x6, y4.trans x7, x8⟩
  · intro s hs
    obtain ⟨a1, a2, a3, a4, g1, g2, g3, g4, g5, g6, x1, x2, x3, x4, x5, x6, x7, x8⟩ := l4 s hs
    obtain ⟨y1, y2, y3, y4⟩ := h2 s (by rw [l2]; exact nI_lt hs (by omega)) (by omega)
    exact ⟨a1, a2, a3, a4, g1, g2, g3, g4, g5, g6, y1.trans x1, x2, y2.trans x3, x4, y3.trans x5, x6, y4.trans x7, x8⟩
/-- the whole text read, on both sides -/
theorem read_core (hP : IPlan C K corners market quay hasOdd oddM oddQ kind nights cart sc sf st sy sp lc lf lt ly lp mcorners mstreets mtwice mcouncil mnights mlanes mcart mall mfrom mto myards mprice mend mlane) {tl mb : Int32} {tb ts mtx : Nat → Int32} (hT : IText tl tb ts mb mtx) (tso tst tva tco tot mta : Int32) (mto_ : Int64) (mdg mnb mfa tli tat mpo mrm mrc mrs mrl : Int32) (mrd : Nat → Int32) {f' t' y' p' f2 t2 y2 p2 : Nat → Int32} (h1 : ∀ s, s < K → f' s = sf s ∧ t' s = st s ∧ y' s = sy s ∧ p' s = sp s) (h2 : ∀ l, nI l < lc → l < 2 ^ 31 → f2 l = lf l ∧ t2 l = lt l ∧ y2 l = ly l ∧ p2 l = lp l) :
    ReadR mcorners mstreets mtwice mcouncil mnights mlanes mcart mall mend mfrom mto myards mprice mlane (f_Text_readInto tl tli tso tst tat tva tco tot corners market quay hasOdd oddM oddQ kind nights cart 200 ts 200 tb lc 4 f2 4 t2 4 y2 4 p2 sc 16 p' 16 f' 16 t' 16 y') (f_ShutWaysModel_isRead mcorners mstreets mlanes mb mpo mta mto_ mdg mnb mfa mrm mrc mrs mrl 200 mtx 60 mrd) := by
  obtain ⟨n, b, e1, e2, X⟩ := hT.x
  have hP2 := hP.copy h1 h2
  obtain ⟨-, ⟨-, q5⟩, ⟨-, q7, q8⟩, -, ⟨ln, -, l2, l3, -⟩, -⟩ := id hP
  have hFU : 300 < FU := by rw [FU_eq]; decide
  have hla : mlanes = lc := l3.trans l2.symm
  have hP3 := hP2.all (mall' := nI K) rfl
  have R : ∀ M0, 300 < M0 → _ := fun M0 (hM : 300 < M0) => read_sim X mcorners mstreets mtwice mcouncil mnights mlanes mcart mall mend mfrom mto myards mprice mlane mcorners mstreets mlanes M0 0 0 C K tso tst tva tco tot corners market quay hasOdd oddM oddQ kind nights cart sc f' t' y' p' lc f2 t2 y2 p2 mta mto_ mdg mnb mfa mrd mcorners mstreets mtwice mcouncil mnights mlanes mcart mall mend mfrom mto myards mprice mlane (by decide) (Nat.zero_le _) (by omega) hP3 (DoL.zero _ _ _ _ _ _ _ _ _ _ _ _ _ _ _)
  have R0 := R FU hFU
  rw [nI_0, show nI (0 + 1) = 1 from rfl, ← e1, ← q5, ← q7] at R0
  unfold f_Text_readInto f_ShutWaysModel_isRead
  rw [e2, ← e1, hla]
  rw [hla] at R0
  exact R0
theorem fault_core (hP : IPlan C K corners market quay hasOdd oddM oddQ kind nights cart sc sf st sy sp lc lf lt ly lp mcorners mstreets mtwice mcouncil mnights mlanes mcart mall mfrom mto myards mprice mend mlane) {tl mb : Int32} {tb ts mtx : Nat → Int32} (hT : IText tl tb ts mb mtx) (tso tst tva tco tot mta : Int32) (mto_ : Int64) (mdg mnb mfa tli tat mpo mrm mrc mrs mrl : Int32) (mrd : Nat → Int32) (dco dma dqu dho dom doq dki dni dca dsc dlc : Int32) (dsf dst dsy dsp dlf dlt dly dlp : Nat → Int32) :
    ∃ r1, f_ShutWays_fault dco dma dqu dho dom doq dki dni dca corners market quay hasOdd oddM oddQ kind nights cart dsc sc 16 sf 16 st 16 sy 16 sp 16 dsf 16 dst 16 dsy 16 dsp dlc lc 4 lf 4 lt 4 ly 4 lp 4 dlf 4 dlt 4 dly 4 dlp tl tli tso tst tat tva tco tot 200 ts 200 tb = some r1 ∧ ∃ r2, f_ShutWaysModel_fault mcorners mstreets mlanes mb mpo mta mto_ mdg mnb mfa mrm mrc mrs mrl 200 mtx 60 mrd = some r2 ∧ r1.1 = r2.1 := by
  have ho := hP.odd
  obtain ⟨⟨-, -, h12⟩, -, ⟨e9, -, -⟩, -, ⟨ln, hl, e14, -, -⟩, -⟩ := id hP
  obtain ⟨f', t', y', p', f2, t2, y2, p2, q1, q2, q3⟩ := pcopy_ok h12 hl corners market quay hasOdd oddM oddQ kind nights cart sf st sy sp lf lt ly lp ho dco dma dqu dho dom doq dki dni dca dsc dsf dst dsy dsp dlc dlf dlt dly dlp
  rw [← e9, ← e14] at q1
  have R := read_core hP hT tso tst tva tco tot mta mto_ mdg mnb mfa tli tat mpo mrm mrc mrs mrl mrd q2 (by
    intro l h1 h2
    refine q3 l ?_
    rw [e14] at h1
    exact (nI_ltI h2 (by omega)).mp h1)
  unfold f_ShutWays_fault f_ShutWaysModel_fault f_ShutWaysModel_fault_15
  rw [q1, Option.bind_some]
  dsimp only
  unfold ReadR at R
  rcases R with ⟨J, C1, K1, so1, sta1, at1, va1, co1, ot1, corners1, market1, quay1, hasOdd1, oddM1, oddQ1, kind1, nights1, cart1, lc1, sc1, lf1, lt1, ly1, lp1, sp1, sf1, st1, sy1, pp1, ta1, tt1, dg1, nb1, fa1, rc1, rs1, rl1, rd1, c3, s3, t3, k3, n3, l3, ca3, al3, e3, f3, to3, y3, p3, la3, g1, g2, g3, g4, g5, g6⟩ | ⟨s, hs, q, qq, pp1, ta1, tt1, dg1, nb1, rm1, rc1, rs1, rl1, rd1, g1, g2⟩
  · rw [g1, g2, Option.bind_some, Option.bind_some]
    dsimp only
    rw [if_neg one_ne]
    exact ⟨_, rfl, _, rfl, rfl⟩
  · rw [g1, g2, Option.bind_some, Option.bind_some]
    dsimp only
    rw [if_pos rfl]
    exact ⟨_, rfl, _, rfl, rfl⟩
end Core12
theorem pl_fault : PL_fault INV := by
  intro x m hI
  obtain ⟨C, K, hT, hP, hD, h0, h1, hN⟩ := hI
  obtain ⟨r1, u1, r2, u2, u3⟩ := fault_core hP hT x.2.1.2.2.1 x.2.1.2.2.2.1 x.2.1.2.2.2.2.2.1 x.2.1.2.2.2.2.2.2.1 x.2.1.2.2.2.2.2.2.2.1 m.2.1.2.1 m.2.1.2.2.1 m.2.1.2.2.2.1 m.2.1.2.2.2.2.1 m.2.1.2.2.2.2.2.1 x.2.1.2.1 x.2.1.2.2.2.2.1 m.2.1.1 m.2.1.2.2.2.2.2.2.1 m.2.1.2.2.2.2.2.2.2.1 m.2.1.2.2.2.2.2.2.2.2.1 m.2.1.2.2.2.2.2.2.2.2.2.1 m.2.1.2.2.2.2.2.2.2.2.2.2 x.2.2.2.2.2.1.1 x.2.2.2.2.2.1.2.1 x.2.2.2.2.2.1.2.2.1 x.2.2.2.2.2.1.2.2.2.1 x.2.2.2.2.2.1.2.2.2.2.1 x.2.2.2.2.2.1.2.2.2.2.2.1 x.2.2.2.2.2.1.2.2.2.2.2.2.1 x.2.2.2.2.2.1.2.2.2.2.2.2.2.1 x.2.2.2.2.2.1.2.2.2.2.2.2.2.2 x.2.2.2.2.2.2.1.1 x.2.2.2.2.2.2.2.1.1 x.2.2.2.2.2.2.1.2.1 x.2.2.2.2.2.2.1.2.2.1 x.2.2.2.2.2.2.1.2.2.2.1 x.2.2.2.2.2.2.1.2.2.2.2 x.2.2.2.2.2.2.2.1.2.1 x.2.2.2.2.2.2.2.1.2.2.1 x.2.2.2.2.2.2.2.1.2.2.2.1 x.2.2.2.2.2.2.2.1.2.2.2.2
  exact ⟨r1, u1, r2, u2, u3, C, K, hT, hP, hD, h0, h1, hN⟩
theorem t56 (tc : Int32) (dco dma dqu dho dom doq dki dni dca corners market quay hasOdd oddM oddQ kind nights cart dsc sc : Int32) (sf st sy sp dsf dst dsy dsp : Nat → Int32) (dlc lc : Int32) (lf lt ly lp dlf dlt dly dlp : Nat → Int32) (tl tli tso tst tat tva tco tot : Int32) (ts tb : Nat → Int32) (gone : Int32) (shut : Nat → Int32) : ∀ (m i : Nat) (ik : Nat → Int32), i ≤ 2 → 2 - i < m → (∀ t, t < i → ik t = 0) → ∃ ik' : Nat → Int32, f_ShutWays_town_56 m (nI i) tc dco dma dqu dho dom doq dki dni dca corners market quay hasOdd oddM oddQ kind nights cart dsc sc 16 sf 16 st 16 sy 16 sp 16 dsf 16 dst 16 dsy 16 dsp dlc lc 4 lf 4 lt 4 ly 4 lp 4 dlf 4 dlt 4 dly 4 dlp tl tli tso tst tat tva tco tot 200 ts 200 tb gone 16 shut 2 ik = some (tli, 0, dco, dma, dqu, dho, dom, doq, dki, dni, dca, dsc, dsf, dst, dsy, dsp, dlc, dlf, dlt, dly, dlp, 0, tli, tso, tst, tat, tva, tco, tot, gone, shut, ik', 1) ∧ ∀ t, t < 2 → ik' t = 0 := by
  intro m
  induction m with
  | zero => intro i _ _ h; omega
  | succ m ih =>
    intro i ik hi hm h0
    rw [show f_ShutWays_town_56 (m + 1) = b_ShutWays_town_56 (f_ShutWays_town_56 m) from rfl]
    unfold b_ShutWays_town_56
    by_cases c : i = 2
    · subst c
      rw [if_pos (nI_le (Nat.le_refl _) (by decide))]
      exact ⟨ik, rfl, h0⟩
    · rw [if_neg (nI_ge (by omega) (by decide)), gixN (show i < 2 by omega) (by decide), nIc (by omega), nI_1]
      refine ih (i + 1) _ (by omega) (by omega) ?_
      intro t ht
      by_cases e : t = i
      · subst e; exact pk_us
      · rw [pk_un e]; exact h0 t (by omega)
section Core13
variable {C K : Nat} {corners market quay hasOdd oddM oddQ kind nights cart sc : Int32} {sf st sy sp : Nat → Int32} {lc : Int32} {lf lt ly lp : Nat → Int32} {mcorners mstreets mtwice mcouncil mnights mlanes mcart mall : Int32} {mfrom mto myards mprice mend mlane : Nat → Int32} {gone mday : Int32} {shut mshut : Nat → Int32}
theorem town_core (hP : IPlan C K corners market quay hasOdd oddM oddQ kind nights cart sc sf st sy sp lc lf lt ly lp mcorners mstreets mtwice mcouncil mnights mlanes mcart mall mfrom mto myards mprice mend mlane) {tl mb : Int32} {tb ts mtx : Nat → Int32} (hT : IText tl tb ts mb mtx) (tso tst tva tco tot mta : Int32) (mto_ : Int64) (mdg mnb mfa tli tat mpo mrm mrc mrs mrl : Int32) (mrd : Nat → Int32) (dco dma dqu dho dom doq dki dni dca dsc dlc : Int32) (dsf dst dsy dsp dlf dlt dly dlp : Nat → Int32) (tc mtold gone mday : Int32) (shut mshut ik mik : Nat → Int32) :
    (∃ (d1 d2 d3 d4 d5 d6 d7 d8 d9 d10 : Int32) (a1 a2 a3 a4 : Nat → Int32) (d11 : Int32) (b1 b2 b3 b4 : Nat → Int32) (x1 x2 x3 x4 x5 x6 x7 : Int32) (y1 y2 : Int32) (y3 : Int64) (y4 y5 y6 y7 y8 y9 y10 : Int32) (y11 : Nat → Int32), f_ShutWays_town tc dco dma dqu dho dom doq dki dni dca corners market quay hasOdd oddM oddQ kind nights cart dsc sc 16 sf 16 st 16 sy 16 sp 16 dsf 16 dst 16 dsy 16 dsp dlc lc 4 lf 4 lt 4 ly 4 lp 4 dlf 4 dlt 4 dly 4 dlp tl tli tso tst tat tva tco tot 200 ts 200 tb gone 16 shut 2 ik = some (-4, tc, d1, d2, d3, d4, d5, d6, d7, d8, d9, d10, a1, a2, a3, a4, d11, b1, b2, b3, b4, tl, x1, x2, x3, x4, x5, x6, x7, gone, shut, ik, 0) ∧ f_ShutWaysModel_town mcorners mstreets mtwice mcouncil mnights mlanes mcart mb mpo mta mto_ mdg mnb mfa mrm mrc mrs mrl mday mall mtold 200 mtx 60 mrd 16 mshut 2 mik 4 mend 16 mfrom 16 mto 16 myards 12 mprice 16 mlane = some (-4, mcorners, mstreets, mtwice, mcouncil, mnights, mlanes, mcart, mb, y1, y2, y3, y4, y5, y6, y7, y8, y9, y10, mday, mall, mtold, y11, mshut, mik, mend, mfrom, mto, myards, mprice, mlane)) ∨
    (∃ (J C' K' : Nat) (d1 d2 d3 d4 d5 d6 d7 d8 d9 d10 : Int32) (a1 a2 a3 a4 : Nat → Int32) (d11 : Int32) (b1 b2 b3 b4 : Nat → Int32) (x1 x2 x3 x4 x5 x6 x7 : Int32) (y1 y2 : Int32) (y3 : Int64) (y4 y5 y6 y7 y8 y9 y10 : Int32) (y11 : Nat → Int32) (c2 s2 t2 k2 n2 l2 ca2 : Int32) (e2 f2 to2 y2' p2 la2 sh1 sh2 ik1 ik2 : Nat → Int32), f_ShutWays_town tc dco dma dqu dho dom doq dki dni dca corners market quay hasOdd oddM oddQ kind nights cart dsc sc 16 sf 16 st 16 sy 16 sp 16 dsf 16 dst 16 dsy 16 dsp dlc lc 4 lf 4 lt 4 ly 4 lp 4 dlf 4 dlt 4 dly 4 dlp tl tli tso tst tat tva tco tot 200 ts 200 tb gone 16 shut 2 ik = some (nI J, 0, d1, d2, d3, d4, d5, d6, d7, d8, d9, d10, a1, a2, a3, a4, d11, b1, b2, b3, b4, 0, x1, x2, x3, x4, x5, x6, x7, 0, sh1, ik1, 1) ∧ f_ShutWaysModel_town mcorners mstreets mtwice mcouncil mnights mlanes mcart mb mpo mta mto_ mdg mnb mfa mrm mrc mrs mrl mday mall mtold 200 mtx 60 mrd 16 mshut 2 mik 4 mend 16 mfrom 16 mto 16 myards 12 mprice 16 mlane = some (nI J, c2, s2, t2, k2, n2, l2, ca2, 0, y1, y2, y3, y4, y5, y6, y7, y8, y9, y10, 0, s2, 0, y11, sh2, ik2, e2, f2, to2, y2', p2, la2) ∧ IPlan C' K' d1 d2 d3 d4 d5 d6 d7 d8 d9 d10 a1 a2 a3 a4 d11 b1 b2 b3 b4 c2 s2 t2 k2 n2 l2 ca2 (nI K') f2 to2 y2' p2 e2 la2 ∧ (∀ s, s < 16 → sh1 s = 0) ∧ (∀ s, s < 16 → sh2 s = 0) ∧ (∀ s, s < 2 → ik1 s = 0) ∧ ∀ s, s < 2 → ik2 s = 0) := by
  have ho := hP.odd
  have hFU : 300 < FU := by rw [FU_eq]; decide
  obtain ⟨⟨-, -, h12⟩, -, ⟨e9, -, -⟩, -, ⟨ln, hl, e14, -, -⟩, -⟩ := id hP
  obtain ⟨f', t', y', p', f2, t2, y2, p2, q1, q2, q3⟩ := pcopy_ok h12 hl corners market quay hasOdd oddM oddQ kind nights cart sf st sy sp lf lt ly lp ho dco dma dqu dho dom doq dki dni dca dsc dsf dst dsy dsp dlc dlf dlt dly dlp
  rw [← e9, ← e14] at q1
  have R := read_core hP hT tso tst tva tco tot mta mto_ mdg mnb mfa tli tat mpo mrm mrc mrs mrl mrd q2 (by
    intro l h1 h2
    refine q3 l ?_
    rw [e14] at h1
    exact (nI_ltI h2 (by omega)).mp h1)
  unfold ReadR at R
  rcases R with ⟨J, C1, K1, so1, sta1, at1, va1, co1, ot1, corners1, market1, quay1, hasOdd1, oddM1, oddQ1, kind1, nights1, cart1, lc1, sc1, lf1, lt1, ly1, lp1, sp1, sf1, st1, sy1, pp1, ta1, tt1, dg1, nb1, fa1, rc1, rs1, rl1, rd1, c3, s3, t3, k3, n3, l3, ca3, al3, e3, f3, to3, y3, p3, la3, g1, g2, g3, g4, g5, g6⟩ | ⟨s, hs, q, qq, pp1, ta1, tt1, dg1, nb1, rm1, rc1, rs1, rl1, rd1, g1, g2⟩
  · right
    obtain ⟨sh1, v1, v2, -⟩ := fill_ok 0 (N := 16) (by decide) shut
    obtain ⟨ik1, w1, w2⟩ := t56 tc corners1 market1 quay1 hasOdd1 oddM1 oddQ1 kind1 nights1 cart1 corners market quay hasOdd oddM oddQ kind nights cart sc1 sc sf st sy sp sf1 st1 sy1 sp1 lc1 lc lf lt ly lp lf1 lt1 ly1 lp1 tl (nI J) so1 sta1 at1 va1 co1 ot1 ts tb 0 sh1 FU 0 ik (by decide) (by omega) (fun t ht => absurd ht (Nat.not_lt_zero _))
    rw [nI_0] at w1
    obtain ⟨sh2, o1, o2⟩ := openAll_ok (K := K) mshut
    have hcl : f_ShutWays_town tc dco dma dqu dho dom doq dki dni dca corners market quay hasOdd oddM oddQ kind nights cart dsc sc 16 sf 16 st 16 sy 16 sp 16 dsf 16 dst 16 dsy 16 dsp dlc lc 4 lf 4 lt 4 ly 4 lp 4 dlf 4 dlt 4 dly 4 dlp tl tli tso tst tat tva tco tot 200 ts 200 tb gone 16 shut 2 ik = some (nI J, 0, corners1, market1, quay1, hasOdd1, oddM1, oddQ1, kind1, nights1, cart1, sc1, sf1, st1, sy1, sp1, lc1, lf1, lt1, ly1, lp1, 0, nI J, so1, sta1, at1, va1, co1, ot1, 0, sh1, ik1, 1) := by
      unfold f_ShutWays_town f_Days_start
      rw [q1, Option.bind_some]
      dsimp only
      rw [g1, Option.bind_some]
      dsimp only
      rw [if_pos rfl, v1, Option.bind_some, Option.bind_some]
      exact w1
    obtain ⟨m', hm⟩ : ∃ m', FU = m' + 1 + J := ⟨FU - 1 - J, by omega⟩
    have hg6 := g6 (m' + 1) J rd1 mb pp1 ta1 tt1 dg1 nb1 fa1 rc1 rs1 rl1 mday mtold mtx mshut mik (Nat.le_refl _) g4 (fun _ _ => rfl)
    rw [← hm] at hg6
    have hmo : f_ShutWaysModel_town mcorners mstreets mtwice mcouncil mnights mlanes mcart mb mpo mta mto_ mdg mnb mfa mrm mrc mrs mrl mday mall mtold 200 mtx 60 mrd 16 mshut 2 mik 4 mend 16 mfrom 16 mto 16 myards 12 mprice 16 mlane = some (nI J, c3, s3, t3, k3, n3, l3, ca3, 0, pp1, ta1, tt1, dg1, nb1, fa1, nI J, rc1, rs1, rl1, 0, s3, 0, rd1, sh2, upd (upd mik 0 0) 1 0, e3, f3, to3, y3, p3, la3) := by
      unfold f_ShutWaysModel_town
      rw [g2, Option.bind_some]
      dsimp only
      rw [if_neg one_ne, hg6]
      rw [show f_ShutWaysModel_town_12 (m' + 1) = b_ShutWaysModel_town_12 (f_ShutWaysModel_town_12 m') from rfl]
      unfold b_ShutWaysModel_town_12
      rw [if_pos (nI_le (Nat.le_refl _) (by omega)), o1, Option.bind_some]
      rfl
    refine ⟨J, C1, K1, _, _, _, _, _, _, _, _, _, _, _, _, _, _, _, _, _, _, _, _, _, _, _, _, _, _, _, _, _, _, _, _, _, _, _, _, _, c3, s3, t3, k3, n3, l3, ca3, e3, f3, to3, y3, p3, la3, sh1, sh2, ik1, _, hcl, hmo, g5, v2, fun s hs => (o2 s hs).2.1, w2, ?_⟩
    intro s hs
    rcases (show s = 0 ∨ s = 1 by omega) with rfl | rfl
    · rw [pk_un (by decide), pk_us]
    · rw [pk_us]
  · left
    have hcl : ∃ (d1 d2 d3 d4 d5 d6 d7 d8 d9 d10 : Int32) (a1 a2 a3 a4 : Nat → Int32) (d11 : Int32) (b1 b2 b3 b4 : Nat → Int32) (x1 x2 x3 x4 x5 x6 x7 : Int32), f_ShutWays_town tc dco dma dqu dho dom doq dki dni dca corners market quay hasOdd oddM oddQ kind nights cart dsc sc 16 sf 16 st 16 sy 16 sp 16 dsf 16 dst 16 dsy 16 dsp dlc lc 4 lf 4 lt 4 ly 4 lp 4 dlf 4 dlt 4 dly 4 dlp tl tli tso tst tat tva tco tot 200 ts 200 tb gone 16 shut 2 ik = some (-4, tc, d1, d2, d3, d4, d5, d6, d7, d8, d9, d10, a1, a2, a3, a4, d11, b1, b2, b3, b4, tl, x1, x2, x3, x4, x5, x6, x7, gone, shut, ik, 0) := by
      unfold f_ShutWays_town
      rw [q1, Option.bind_some]
      dsimp only
      rw [g1, Option.bind_some]
      dsimp only
      rw [if_neg (nI_m1 (by omega))]
      exact ⟨_, _, _, _, _, _, _, _, _, _, _, _, _, _, _, _, _, _, _, _, _, _, _, _, _, _, rfl⟩
    obtain ⟨d1, d2, d3, d4, d5, d6, d7, d8, d9, d10, a1, a2, a3, a4, d11, b1, b2, b3, b4, x1, x2, x3, x4, x5, x6, x7, hcl⟩ := hcl
    have hmo : f_ShutWaysModel_town mcorners mstreets mtwice mcouncil mnights mlanes mcart mb mpo mta mto_ mdg mnb mfa mrm mrc mrs mrl mday mall mtold 200 mtx 60 mrd 16 mshut 2 mik 4 mend 16 mfrom 16 mto 16 myards 12 mprice 16 mlane = some (-4, mcorners, mstreets, mtwice, mcouncil, mnights, mlanes, mcart, mb, pp1, ta1, tt1, dg1, nb1, nI s, rm1, rc1, rs1, rl1, mday, mall, mtold, rd1, mshut, mik, mend, mfrom, mto, myards, mprice, mlane) := by
      unfold f_ShutWaysModel_town
      rw [g2, Option.bind_some]
      dsimp only
      rw [if_pos rfl]
    exact ⟨d1, d2, d3, d4, d5, d6, d7, d8, d9, d10, a1, a2, a3, a4, d11, b1, b2, b3, b4, x1, x2, x3, x4, x5, x6, x7, _, _, _, _, _, _, _, _, _, _, _, hcl, hmo⟩
end Core13
theorem pl_town : PL_town INV := by
  intro x m hI
  obtain ⟨C, K, hT, hP, hD, h0, h1, hN⟩ := hI
  rcases town_core hP hT x.2.1.2.2.1 x.2.1.2.2.2.1 x.2.1.2.2.2.2.2.1 x.2.1.2.2.2.2.2.2.1 x.2.1.2.2.2.2.2.2.2.1 m.2.1.2.1 m.2.1.2.2.1 m.2.1.2.2.2.1 m.2.1.2.2.2.2.1 m.2.1.2.2.2.2.2.1 x.2.1.2.1 x.2.1.2.2.2.2.1 m.2.1.1 m.2.1.2.2.2.2.2.2.1 m.2.1.2.2.2.2.2.2.2.1 m.2.1.2.2.2.2.2.2.2.2.1 m.2.1.2.2.2.2.2.2.2.2.2.1 m.2.1.2.2.2.2.2.2.2.2.2.2 x.2.2.2.2.2.1.1 x.2.2.2.2.2.1.2.1 x.2.2.2.2.2.1.2.2.1 x.2.2.2.2.2.1.2.2.2.1 x.2.2.2.2.2.1.2.2.2.2.1 x.2.2.2.2.2.1.2.2.2.2.2.1 x.2.2.2.2.2.1.2.2.2.2.2.2.1 x.2.2.2.2.2.1.2.2.2.2.2.2.2.1 x.2.2.2.2.2.1.2.2.2.2.2.2.2.2 x.2.2.2.2.2.2.1.1 x.2.2.2.2.2.2.2.1.1 x.2.2.2.2.2.2.1.2.1 x.2.2.2.2.2.2.1.2.2.1 x.2.2.2.2.2.2.1.2.2.2.1 x.2.2.2.2.2.2.1.2.2.2.2 x.2.2.2.2.2.2.2.1.2.1 x.2.2.2.2.2.2.2.1.2.2.1 x.2.2.2.2.2.2.2.1.2.2.2.1 x.2.2.2.2.2.2.2.1.2.2.2.2 x.1.1 m.1.2.2.2.2.2.2.2.2.2.2.1 x.2.2.2.2.2.2.2.2.1.1 m.1.2.2.2.2.2.2.2.2.1 x.2.2.2.2.2.2.2.2.1.2 m.2.2.2.2.1.1 x.1.2.1 m.2.2.2.2.1.2.2.2.1 with ⟨d1, d2, d3, d4, d5, d6, d7, d8, d9, d10, a1, a2, a3, a4, d11, b1, b2, b3, b4, x1, x2, x3, x4, x5, x6, x7, y1, y2, y3, y4, y5, y6, y7, y8, y9, y10, y11, hcl, hmo⟩ | ⟨J, C', K', d1, d2, d3, d4, d5, d6, d7, d8, d9, d10, a1, a2, a3, a4, d11, b1, b2, b3, b4, x1, x2, x3, x4, x5, x6, x7, y1, y2, y3, y4, y5, y6, y7, y8, y9, y10, y11, c2, s2, t2, k2, n2, l2, ca2, e2, f2, to2, y2', p2, la2, sh1, sh2, ik1, ik2, hcl, hmo, hP', v1, v2, v3, v4⟩
  · exact ⟨_, hcl, _, hmo, rfl, Or.inl ⟨rfl, C, K, hT, hP, hD, h0, h1, hN⟩⟩
  · have e2' : s2 = nI K' := hP'.2.2.1.2.1
    exact ⟨_, hcl, _, hmo, rfl, Or.inr ⟨rfl, C', K', ⟨0, by decide, rfl, rfl, fun i h => absurd h (Nat.not_lt_zero _)⟩, hP'.all e2', ⟨0, by decide, rfl, rfl, fun s hs => ⟨0, by decide, v1 s hs, v2 s hs, fun _ => rfl⟩⟩, Or.inl ⟨v3 0 (by decide), v4 0 (by decide)⟩, Or.inl ⟨v3 1 (by decide), v4 1 (by decide)⟩, ⟨0, by decide, rfl, rfl, fun i h => absurd h (Nat.not_lt_zero _)⟩⟩⟩
