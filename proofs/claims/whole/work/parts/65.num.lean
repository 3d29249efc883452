/-! ===== numbers, corners, words ===== -/
section Num
variable {n : Nat} {b : Nat → Nat} {B S T : Nat → Int32}
theorem lN_m {x : Nat} (h : x < 2 ^ 63) (k : Int64) (hk : k.toInt < 0) : ¬ lN x = k := by
  intro e
  have := congrArg Int64.toInt e
  rw [pk_lT h] at this
  omega
theorem nm_le {s e : Nat} (h1 : s < e) (h2 : e - s ≤ 2) (hd : ∀ i, s ≤ i → i < e → b i ≤ 57) : nm b s e ≤ 99 := by
  unfold nm
  rw [if_neg (by omega)]
  have d1 := hd s (Nat.le_refl _) h1
  by_cases c : e = s + 1
  · rw [if_pos c]; omega
  · rw [if_neg c]
    have d2 := hd (s + 1) (by omega) (by omega)
    omega
theorem tok_num (X : TX n b B S T) {s : Nat} (hs : s ≤ n) {t : Int64} {nb : Int32} (h : TokS n b s t nb) : (t = -1 ∧ tk n b s = 1 ∧ te n b s - s ≤ 2 ∧ nb = nI (nm b s (te n b s)) ∧ nm b s (te n b s) ≤ 99) ∨ (¬ t = -1 ∧ (¬ tk n b s = 1 ∨ 2 < te n b s - s)) := by
  obtain ⟨l1, l2, l3⟩ := te_le (b := b) hs
  rcases h with ⟨h1, h2⟩ | ⟨h1, h2⟩ | ⟨h1, h2, h3, h4⟩ | ⟨h1, h2, h3⟩ | ⟨h1, h2, h3⟩ | ⟨h1, h2, h3⟩
  · right; exact ⟨by rw [h2]; decide, Or.inl (by omega)⟩
  · right
    refine ⟨?_, Or.inl (by omega)⟩
    rw [h2]
    by_cases q : te n b s - s ≤ 9
    · rw [if_pos q]
      refine lN_m ?_ _ (by decide)
      have hl := wv_lt (b := b) (s := s) (te n b s - s) (fun i hi => by
        have := te_all (b := b) hs (i := s + i) (by omega) (by omega) (by omega)
        rw [h1] at this
        exact ((srt_0 _).mp this).2)
      have h9 : 27 ^ (te n b s - s) ≤ 27 ^ 9 := Nat.pow_le_pow_right (by decide) q
      have e9 : (27 : Nat) ^ 9 = 7625597484987 := by decide
      omega
    · rw [if_neg q]; decide
  · left
    refine ⟨h3, h1, h2, h4, nm_le (l3 ?_) h2 ?_⟩
    · intro e
      unfold tk at h1
      rw [if_pos e] at h1
      omega
    · intro i i1 i2
      have := te_all hs i1 i2 (by omega)
      rw [h1] at this
      exact ((srt_1 _).mp this).2
  · right; exact ⟨by rw [h3]; decide, Or.inr h2⟩
  · right; exact ⟨by rw [h3]; decide, Or.inl (by omega)⟩
  · right; exact ⟨by rw [h3]; decide, Or.inl (by omega)⟩
theorem tk_le (s : Nat) : tk n b s ≤ 4 := by
  unfold tk
  have := srt_le (b s)
  split <;> omega
theorem num_sim (X : TX n b B S T) {a : Nat} (ha : a ≤ n) {w : Nat} (hw : w < 60) (lo hi so sta va ta : Int32) (to : Int64) (dg nb fa : Int32) (rd : Nat → Int32) :
    (∃ (v e s : Nat) (_ : s ≤ n) (so' : Int32) (t : Int64) (dg' nb' : Int32), v ≤ 99 ∧ e ≤ n ∧ ¬ (nI v < lo ∨ hi < nI v) ∧ f_Text_readNumber lo hi (nI n) so sta (nI a) va 200 S 200 B = some (1, so', nI s, nI e, nI v) ∧ f_ShutWaysModel_isNumber (nI w) lo hi (nI n) (nI a) ta to dg nb fa 200 T 60 rd = some (1, nI e, nI s, t, dg', nb', fa, upd rd w (nI v))) ∨
    (∃ (s : Nat) (_ : s ≤ n) (so' e' v' p' : Int32) (t : Int64) (dg' nb' : Int32), f_Text_readNumber lo hi (nI n) so sta (nI a) va 200 S 200 B = some (0, so', nI s, e', v') ∧ f_ShutWaysModel_isNumber (nI w) lo hi (nI n) (nI a) ta to dg nb fa 200 T 60 rd = some (0, p', nI s, t, dg', nb', nI s, rd)) := by
  have hn := X.1
  obtain ⟨v, c1, c2⟩ := class_tok X so sta va ha
  obtain ⟨t, dg', nb', m1, m2⟩ := model_tok X ta to dg nb ha
  obtain ⟨h1, h2⟩ := sk_le (b := b) ha
  obtain ⟨l1, l2, l3⟩ := te_le (b := b) h2
  have htk := tk_le (n := n) (b := b) (sk n b a)
  have hN := tok_num X h2 m2
  unfold f_Text_readNumber f_ShutWaysModel_isNumber f_Text_readNumber_45 f_Text_readNumber_46 f_ShutWaysModel_isNumber_27 f_ShutWaysModel_fails
  rw [c1, m1, Option.bind_some, Option.bind_some]
  dsimp only
  generalize sk n b a = s at *
  generalize te n b s = e at *
  generalize tk n b s = k at *
  rw [pk_sub l1]
  rcases hN with ⟨n1, n2, n3, n4, n5⟩ | ⟨n1, n2⟩
  · rw [if_pos ((lg_cmp_eq _ _).mpr n1), in_ok, Option.bind_some, n4, c2 n2 n3, if_pos (show nI k = 1 by rw [n2]; rfl), if_neg (show ¬ (2 : Int32) < nI (e - s) from nI_nlt (a := 2) n3 (by decide)), gixN hw (by decide), nIc (by omega)]
    by_cases q : nI (nm b s e) < lo ∨ hi < nI (nm b s e)
    · right
      rw [if_pos q, if_pos rfl, Option.bind_some]
      rcases q with q | q
      · rw [if_pos q]
        exact ⟨s, h2, _, _, _, _, _, _, _, rfl, rfl⟩
      · rw [if_pos q, ite_self]
        exact ⟨s, h2, _, _, _, _, _, _, _, rfl, rfl⟩
    · left
      rw [if_neg q, if_neg one_ne, if_neg (fun z => q (Or.inl z)), if_neg (fun z => q (Or.inr z))]
      exact ⟨nm b s e, e, s, h2, _, _, _, _, n5, l2, q, rfl, rfl⟩
  · right
    rw [if_neg (fun z => n1 ((lg_cmp_eq _ _).mp z)), Option.bind_some]
    rcases n2 with n2 | n2
    · rw [if_neg (show ¬ nI k = 1 from nI_ne (b := 1) (by omega) (by decide) n2)]
      exact ⟨s, h2, _, _, _, _, _, _, _, rfl, rfl⟩
    · rw [if_pos (show (2 : Int32) < nI (e - s) from nI_lt (a := 2) n2 (by omega)), ite_self]
      exact ⟨s, h2, _, _, _, _, _, _, _, rfl, rfl⟩
theorem corner_lt {C v : Nat} (hC : 2 ≤ C) (hC8 : C ≤ 8) (h : ¬ (nI v < 0 ∨ nI C - 1 < nI v)) (hv : v ≤ 99) : v < C := by
  rcases Nat.lt_or_ge v C with q | q
  · exact q
  · exfalso
    apply h
    right
    rw [show nI C - 1 = nI (C - 1) from pk_sub (b := 1) (by omega)]
    exact nI_lt (by omega) (by omega)
theorem places_sim (X : TX n b B S T) {a : Nat} (ha : a ≤ n) {w C : Nat} (hw : w + 2 < 60) (hC : 2 ≤ C) (hC8 : C ≤ 8) (so sta va co ot ta : Int32) (to : Int64) (dg nb fa : Int32) (rd : Nat → Int32) :
    (∃ (u v e s : Nat) (so' va' : Int32) (t : Int64) (dg' nb' : Int32), u < C ∧ v < C ∧ u ≠ v ∧ e ≤ n ∧ f_Text_readCorners (nI n) so sta (nI a) va co ot (nI C) 200 S 200 B = some (1, so', nI s, nI e, va', nI u, nI v) ∧ f_ShutWaysModel_arePlaces (nI w) (nI n) (nI a) ta to dg nb fa (nI C) 200 T 60 rd = some (1, nI e, nI s, t, dg', nb', fa, upd (upd rd (w + 1) (nI u)) (w + 2) (nI v))) ∨
    (∃ (s : Nat) (_ : s ≤ n) (so' e' v' co' ot' p' : Int32) (t : Int64) (dg' nb' : Int32) (rd' : Nat → Int32), f_Text_readCorners (nI n) so sta (nI a) va co ot (nI C) 200 S 200 B = some (0, so', nI s, e', v', co', ot') ∧ f_ShutWaysModel_arePlaces (nI w) (nI n) (nI a) ta to dg nb fa (nI C) 200 T 60 rd = some (0, p', nI s, t, dg', nb', nI s, rd')) := by
  have e1 : nI w + 1 = nI (w + 1) := nI_1 w
  have e2 : nI w + 2 = nI (w + 2) := nI_add w 2
  unfold f_Text_readCorners f_ShutWaysModel_arePlaces f_Text_readCorners_64 f_ShutWaysModel_arePlaces_34 f_ShutWaysModel_arePlaces_67 f_ShutWaysModel_arePlaces_62 f_ShutWaysModel_arePlaces_67 f_ShutWaysModel_fails
  rw [e1, e2]
  rcases num_sim X ha (w := w + 1) (by omega) 0 (nI C - 1) so sta va ta to dg nb fa rd with ⟨u, e, s, hsa, so1, t1, dg1, nb1, u1, u2, u3, c1, m1⟩ | ⟨s, hsn, so1, e1', v1, p1, t1, dg1, nb1, c1, m1⟩
  · rw [c1, m1, Option.bind_some, Option.bind_some]
    dsimp only
    rw [if_neg one_ne, if_neg one_ne]
    rcases num_sim X u2 (w := w + 2) (by omega) 0 (nI C - 1) so1 (nI s) (nI u) (nI s) t1 dg1 nb1 fa (upd rd (w + 1) (nI u)) with ⟨v, e', s', hsb, so2, t2, dg2, nb2, v1, v2, v3, c2, m2⟩ | ⟨s', hsn, so2, e2', v2, p2, t2, dg2, nb2, c2, m2⟩
    · rw [c2, m2, Option.bind_some, Option.bind_some]
      dsimp only
      rw [if_neg one_ne, if_neg one_ne, gixN (show w + 1 < 60 by omega) (by decide), gixN (show w + 2 < 60 by omega) (by decide), nIc (show w + 1 < 2 ^ 31 by omega), nIc (show w + 2 < 2 ^ 31 by omega), Option.bind_some]
      have x1 : upd (upd rd (w + 1) (nI u)) (w + 2) (nI v) (w + 1) = nI u := (pk_un (by omega)).trans pk_us
      have x2 : upd (upd rd (w + 1) (nI u)) (w + 2) (nI v) (w + 2) = nI v := pk_us
      have hu := corner_lt hC hC8 u3 u1
      have hv := corner_lt hC hC8 v3 v1
      by_cases q : u = v
      · right
        rw [if_pos (show nI u = nI v by rw [q]), if_pos (x1.trans ((congrArg nI q).trans x2.symm))]
        exact ⟨s', hsb, _, _, _, _, _, _, _, _, _, _, rfl, rfl⟩
      · left
        rw [if_neg (show ¬ nI u = nI v from nI_ne (by omega) (by omega) q), if_neg (fun z => nI_ne (show u < 2 ^ 31 by omega) (show v < 2 ^ 31 by omega) q (x1.symm.trans (z.trans x2)))]
        exact ⟨u, v, e', s', _, _, _, _, _, hu, hv, q, v2, rfl, rfl⟩
    · right
      rw [c2, m2, Option.bind_some, Option.bind_some]
      dsimp only
      rw [if_pos rfl, if_pos rfl]
      exact ⟨s', hsn, _, _, _, _, _, _, _, _, _, _, rfl, rfl⟩
  · right
    rw [c1, m1, Option.bind_some, Option.bind_some]
    dsimp only
    rw [if_pos rfl, if_pos rfl]
    exact ⟨s, hsn, _, _, _, _, _, _, _, _, _, _, rfl, rfl⟩
/-- the token is this word -/
def isW (b : Nat → Nat) (s e : Nat) (w : List Nat) : Prop := e - s = w.length ∧ ∀ i, i < w.length → b (s + i) = w.getD i 0
theorem wv_congr {c : Nat → Nat} {s s' : Nat} : ∀ k, (∀ i, i < k → b (s + i) = c (s' + i)) → wv b s k = wv c s' k
  | 0, _ => rfl
  | k + 1, h => by
    show 27 * wv b s k + (b (s + k) - 96) = 27 * wv c s' k + (c (s' + k) - 96)
    rw [wv_congr k (fun i hi => h i (by omega)), h k (Nat.lt_succ_self k)]
theorem wv_inj {c : Nat → Nat} {s : Nat} : ∀ k L, (∀ i, i < k → 97 ≤ b (s + i) ∧ b (s + i) ≤ 122) → (∀ i, i < L → 97 ≤ c i ∧ c i ≤ 122) → wv b s k = wv c 0 L → k = L ∧ ∀ i, i < L → b (s + i) = c i
  | 0, 0, _, _, _ => ⟨rfl, fun i hi => absurd hi (Nat.not_lt_zero _)⟩
  | 0, L + 1, _, h2, e => by
    have e' : 0 = 27 * wv c 0 L + (c (0 + L) - 96) := e
    have := h2 L (Nat.lt_succ_self L)
    rw [Nat.zero_add] at e'
    omega
  | k + 1, 0, h1, _, e => by
    have e' : 27 * wv b s k + (b (s + k) - 96) = 0 := e
    have := h1 k (Nat.lt_succ_self k)
    omega
  | k + 1, L + 1, h1, h2, e => by
    have e' : 27 * wv b s k + (b (s + k) - 96) = 27 * wv c 0 L + (c (0 + L) - 96) := e
    rw [Nat.zero_add] at e'
    have g1 := h1 k (Nat.lt_succ_self k)
    have g2 := h2 L (Nat.lt_succ_self L)
    have x1 : wv b s k = wv c 0 L := by omega
    have x2 : b (s + k) = c L := by omega
    obtain ⟨y1, y2⟩ := wv_inj k L (fun i hi => h1 i (by omega)) (fun i hi => h2 i (by omega)) x1
    refine ⟨by omega, fun i hi => ?_⟩
    by_cases z : i = L
    · rw [z, ← y1, x2, y1]
    · exact y2 i (by omega)
theorem word_iff {s e : Nat} (hl : ∀ i, s ≤ i → i < e → 97 ≤ b i ∧ b i ≤ 122) (hse : s ≤ e) {w : List Nat} (hw : ∀ i, i < w.length → 97 ≤ w.getD i 0 ∧ w.getD i 0 ≤ 122) : wv b s (e - s) = wv (fun i => w.getD i 0) 0 w.length ↔ isW b s e w := by
  constructor
  · intro h
    exact wv_inj (c := fun i => w.getD i 0) (e - s) w.length (fun i hi => hl _ (by omega) (by omega)) hw h
  · rintro ⟨h1, h2⟩
    rw [h1]
    exact wv_congr (c := fun i => w.getD i 0) w.length (fun i hi => by rw [h2 i hi, Nat.zero_add])
/-- what a word's token is in the reference -/
theorem tok_word (X : TX n b B S T) {s : Nat} (hs : s ≤ n) {t : Int64} {nb : Int32} (h : TokS n b s t nb) {w : List Nat} (hw : ∀ i, i < w.length → 97 ≤ w.getD i 0 ∧ w.getD i 0 ≤ 122) (hL : w.length ≤ 9) : t = lN (wv (fun i => w.getD i 0) 0 w.length) ↔ (tk n b s = 0 ∧ isW b s (te n b s) w) := by
  obtain ⟨l1, l2, l3⟩ := te_le (b := b) hs
  have hb : wv (fun i => w.getD i 0) 0 w.length < 2 ^ 63 := by
    have hl := wv_lt (b := fun i => w.getD i 0) (s := 0) w.length (fun i hi => by
      show w.getD (0 + i) 0 ≤ 122
      rw [Nat.zero_add]; exact (hw i hi).2)
    have h9 : 27 ^ w.length ≤ 27 ^ 9 := Nat.pow_le_pow_right (by decide) hL
    have e9 : (27 : Nat) ^ 9 = 7625597484987 := by decide
    omega
  have neg : ∀ k : Int64, k.toInt < 0 → ¬ k = lN (wv (fun i => w.getD i 0) 0 w.length) := fun k hk e => lN_m hb k hk e.symm
  rcases h with ⟨h1, h2⟩ | ⟨h1, h2⟩ | ⟨h1, h2, h3, h4⟩ | ⟨h1, h2, h3⟩ | ⟨h1, h2, h3⟩ | ⟨h1, h2, h3⟩
  · exact ⟨fun z => absurd (h2 ▸ z) (neg _ (by decide)), fun z => by omega⟩
  · have hlet : ∀ i, s ≤ i → i < te n b s → 97 ≤ b i ∧ b i ≤ 122 := by
      intro i i1 i2
      have := te_all hs i1 i2 (by omega)
      rw [h1] at this
      exact (srt_0 _).mp this
    rw [h2]
    by_cases q : te n b s - s ≤ 9
    · have hb2 : wv b s (te n b s - s) < 2 ^ 63 := by
        have hl := wv_lt (b := b) (s := s) (te n b s - s) (fun i hi => (hlet _ (by omega) (by omega)).2)
        have h9 : 27 ^ (te n b s - s) ≤ 27 ^ 9 := Nat.pow_le_pow_right (by decide) q
        have e9 : (27 : Nat) ^ 9 = 7625597484987 := by decide
        omega
      rw [if_pos q, pk_lEQ hb2 hb, word_iff hlet l1 hw]
      exact ⟨fun z => ⟨h1, z⟩, fun z => z.2⟩
    · rw [if_neg q]
      refine ⟨fun z => absurd z (neg _ (by decide)), fun z => ?_⟩
      have := z.2.1
      omega
  · exact ⟨fun z => absurd (h3 ▸ z) (neg _ (by decide)), fun z => by omega⟩
  · exact ⟨fun z => absurd (h3 ▸ z) (neg _ (by decide)), fun z => by omega⟩
  · exact ⟨fun z => absurd (h3 ▸ z) (neg _ (by decide)), fun z => by omega⟩
  · exact ⟨fun z => absurd (h3 ▸ z) (neg _ (by decide)), fun z => by omega⟩
theorem spl0 (X : TX n b B S T) {s : Nat} (hs : s + 4 ≤ n) (ea : Int32) : ∀ m i, i ≤ 4 → 4 - i < m → (∀ j, j < i → b (s + j) = ([116, 111, 119, 110] : List Nat).getD j 0) → ∃ r, f_Text_spells_0_20 m (nI i) (nI s) ea 200 B = some r ∧ ((r = 1 ∧ ∀ j, j < 4 → b (s + j) = ([116, 111, 119, 110] : List Nat).getD j 0) ∨ (r = 0 ∧ ¬ ∀ j, j < 4 → b (s + j) = ([116, 111, 119, 110] : List Nat).getD j 0)) := by
  have hch : ∀ i, i < 4 → sch 0 (nI i) = nI (([116, 111, 119, 110] : List Nat).getD i 0) ∧ ([116, 111, 119, 110] : List Nat).getD i 0 < 256 := by decide +kernel
  intro m
  induction m with
  | zero => intro i _ h; omega
  | succ m ih =>
    intro i hi hm h0
    rw [show f_Text_spells_0_20 (m + 1) = b_Text_spells_0_20 (f_Text_spells_0_20 m) from rfl]
    unfold b_Text_spells_0_20
    have hn := X.1
    by_cases c : i = 4
    · subst c
      rw [if_pos (show (4 : Int32) ≤ nI 4 by decide)]
      exact ⟨1, rfl, Or.inl ⟨rfl, h0⟩⟩
    · obtain ⟨x1, x2, x3, x4⟩ := X.2 (s + i) (by omega)
      obtain ⟨c1, c2⟩ := hch i (by omega)
      rw [if_neg (show ¬ (4 : Int32) ≤ nI i from nI_ge (b := 4) (by omega) (by decide)), nI_add, gixN (show s + i < 200 by omega) (by decide), gixN (show i < 4 by omega) (by decide), nIc (by omega), x2, c1, nI_1]
      by_cases q : b (s + i) = ([116, 111, 119, 110] : List Nat).getD i 0
      · rw [if_pos (by rw [q])]
        refine ih (i + 1) (by omega) (by omega) ?_
        intro j hj
        by_cases z : j = i
        · rw [z]; exact q
        · exact h0 j (by omega)
      · rw [if_neg (nI_ne (by omega) (by omega) q)]
        exact ⟨0, rfl, Or.inr ⟨rfl, fun z => q (z i (by omega))⟩⟩
theorem sp0 (X : TX n b B S T) {s e : Nat} (hse : s ≤ e) (hen : e ≤ n) : ∃ r, f_Text_spells_0 (nI s) (nI e) 200 B = some r ∧ ((r = 1 ∧ isW b s e [116, 111, 119, 110]) ∨ (r = 0 ∧ ¬ isW b s e [116, 111, 119, 110])) := by
  have hFU : 300 < FU := by rw [FU_eq]; decide
  have hn := X.1
  unfold f_Text_spells_0
  generalize FU = M0 at hFU ⊢
  rw [pk_sub hse]
  by_cases c : e - s = 4
  · obtain ⟨r, u1, u2⟩ := spl0 X (s := s) (by omega) (nI e) M0 0 (by decide) (by omega) (fun j hj => absurd hj (Nat.not_lt_zero _))
    rw [if_pos (show nI (e - s) = 4 by rw [c]; rfl)]
    refine ⟨r, u1, ?_⟩
    rcases u2 with ⟨u2, u3⟩ | ⟨u2, u3⟩
    · exact Or.inl ⟨u2, c, u3⟩
    · exact Or.inr ⟨u2, fun z => u3 z.2⟩
  · rw [if_neg (show ¬ nI (e - s) = 4 from nI_ne (b := 4) (by omega) (by decide) c)]
    exact ⟨0, rfl, Or.inr ⟨rfl, fun z => c z.1⟩⟩
theorem tw0 (X : TX n b B S T) {s : Nat} (hs : s ≤ n) {t : Int64} {nb : Int32} (h : TokS n b s t nb) : lg_cmp t 405230 = 0 ↔ (tk n b s = 0 ∧ isW b s (te n b s) [116, 111, 119, 110]) := by
  rw [lg_cmp_eq]
  exact tok_word X hs h (w := [116, 111, 119, 110]) (by decide) (by decide)
theorem spl1 (X : TX n b B S T) {s : Nat} (hs : s + 6 ≤ n) (ea : Int32) : ∀ m i, i ≤ 6 → 6 - i < m → (∀ j, j < i → b (s + j) = ([115, 116, 114, 101, 101, 116] : List Nat).getD j 0) → ∃ r, f_Text_spells_1_20 m (nI i) (nI s) ea 200 B = some r ∧ ((r = 1 ∧ ∀ j, j < 6 → b (s + j) = ([115, 116, 114, 101, 101, 116] : List Nat).getD j 0) ∨ (r = 0 ∧ ¬ ∀ j, j < 6 → b (s + j) = ([115, 116, 114, 101, 101, 116] : List Nat).getD j 0)) := by
  have hch : ∀ i, i < 6 → sch 1 (nI i) = nI (([115, 116, 114, 101, 101, 116] : List Nat).getD i 0) ∧ ([115, 116, 114, 101, 101, 116] : List Nat).getD i 0 < 256 := by decide +kernel
  intro m
  induction m with
  | zero => intro i _ h; omega
  | succ m ih =>
    intro i hi hm h0
    rw [show f_Text_spells_1_20 (m + 1) = b_Text_spells_1_20 (f_Text_spells_1_20 m) from rfl]
    unfold b_Text_spells_1_20
    have hn := X.1
    by_cases c : i = 6
    · subst c
      rw [if_pos (show (6 : Int32) ≤ nI 6 by decide)]
      exact ⟨1, rfl, Or.inl ⟨rfl, h0⟩⟩
    · obtain ⟨x1, x2, x3, x4⟩ := X.2 (s + i) (by omega)
      obtain ⟨c1, c2⟩ := hch i (by omega)
      rw [if_neg (show ¬ (6 : Int32) ≤ nI i from nI_ge (b := 6) (by omega) (by decide)), nI_add, gixN (show s + i < 200 by omega) (by decide), gixN (show i < 6 by omega) (by decide), nIc (by omega), x2, c1, nI_1]
      by_cases q : b (s + i) = ([115, 116, 114, 101, 101, 116] : List Nat).getD i 0
      · rw [if_pos (by rw [q])]
        refine ih (i + 1) (by omega) (by omega) ?_
        intro j hj
        by_cases z : j = i
        · rw [z]; exact q
        · exact h0 j (by omega)
      · rw [if_neg (nI_ne (by omega) (by omega) q)]
        exact ⟨0, rfl, Or.inr ⟨rfl, fun z => q (z i (by omega))⟩⟩
theorem sp1 (X : TX n b B S T) {s e : Nat} (hse : s ≤ e) (hen : e ≤ n) : ∃ r, f_Text_spells_1 (nI s) (nI e) 200 B = some r ∧ ((r = 1 ∧ isW b s e [115, 116, 114, 101, 101, 116]) ∨ (r = 0 ∧ ¬ isW b s e [115, 116, 114, 101, 101, 116])) := by
  have hFU : 300 < FU := by rw [FU_eq]; decide
  have hn := X.1
  unfold f_Text_spells_1
  generalize FU = M0 at hFU ⊢
  rw [pk_sub hse]
  by_cases c : e - s = 6
  · obtain ⟨r, u1, u2⟩ := spl1 X (s := s) (by omega) (nI e) M0 0 (by decide) (by omega) (fun j hj => absurd hj (Nat.not_lt_zero _))
    rw [if_pos (show nI (e - s) = 6 by rw [c]; rfl)]
    refine ⟨r, u1, ?_⟩
    rcases u2 with ⟨u2, u3⟩ | ⟨u2, u3⟩
    · exact Or.inl ⟨u2, c, u3⟩
    · exact Or.inr ⟨u2, fun z => u3 z.2⟩
  · rw [if_neg (show ¬ nI (e - s) = 6 from nI_ne (b := 6) (by omega) (by decide) c)]
    exact ⟨0, rfl, Or.inr ⟨rfl, fun z => c z.1⟩⟩
theorem tw1 (X : TX n b B S T) {s : Nat} (hs : s ≤ n) {t : Int64} {nb : Int32} (h : TokS n b s t nb) : lg_cmp t 283616147 = 0 ↔ (tk n b s = 0 ∧ isW b s (te n b s) [115, 116, 114, 101, 101, 116]) := by
  rw [lg_cmp_eq]
  exact tok_word X hs h (w := [115, 116, 114, 101, 101, 116]) (by decide) (by decide)
theorem spl2 (X : TX n b B S T) {s : Nat} (hs : s + 5 ≤ n) (ea : Int32) : ∀ m i, i ≤ 5 → 5 - i < m → (∀ j, j < i → b (s + j) = ([112, 114, 105, 99, 101] : List Nat).getD j 0) → ∃ r, f_Text_spells_2_20 m (nI i) (nI s) ea 200 B = some r ∧ ((r = 1 ∧ ∀ j, j < 5 → b (s + j) = ([112, 114, 105, 99, 101] : List Nat).getD j 0) ∨ (r = 0 ∧ ¬ ∀ j, j < 5 → b (s + j) = ([112, 114, 105, 99, 101] : List Nat).getD j 0)) := by
  have hch : ∀ i, i < 5 → sch 2 (nI i) = nI (([112, 114, 105, 99, 101] : List Nat).getD i 0) ∧ ([112, 114, 105, 99, 101] : List Nat).getD i 0 < 256 := by decide +kernel
  intro m
  induction m with
  | zero => intro i _ h; omega
  | succ m ih =>
    intro i hi hm h0
    rw [show f_Text_spells_2_20 (m + 1) = b_Text_spells_2_20 (f_Text_spells_2_20 m) from rfl]
    unfold b_Text_spells_2_20
    have hn := X.1
    by_cases c : i = 5
    · subst c
      rw [if_pos (show (5 : Int32) ≤ nI 5 by decide)]
      exact ⟨1, rfl, Or.inl ⟨rfl, h0⟩⟩
    · obtain ⟨x1, x2, x3, x4⟩ := X.2 (s + i) (by omega)
      obtain ⟨c1, c2⟩ := hch i (by omega)
      rw [if_neg (show ¬ (5 : Int32) ≤ nI i from nI_ge (b := 5) (by omega) (by decide)), nI_add, gixN (show s + i < 200 by omega) (by decide), gixN (show i < 5 by omega) (by decide), nIc (by omega), x2, c1, nI_1]
      by_cases q : b (s + i) = ([112, 114, 105, 99, 101] : List Nat).getD i 0
      · rw [if_pos (by rw [q])]
        refine ih (i + 1) (by omega) (by omega) ?_
        intro j hj
        by_cases z : j = i
        · rw [z]; exact q
        · exact h0 j (by omega)
      · rw [if_neg (nI_ne (by omega) (by omega) q)]
        exact ⟨0, rfl, Or.inr ⟨rfl, fun z => q (z i (by omega))⟩⟩
theorem sp2 (X : TX n b B S T) {s e : Nat} (hse : s ≤ e) (hen : e ≤ n) : ∃ r, f_Text_spells_2 (nI s) (nI e) 200 B = some r ∧ ((r = 1 ∧ isW b s e [112, 114, 105, 99, 101]) ∨ (r = 0 ∧ ¬ isW b s e [112, 114, 105, 99, 101])) := by
  have hFU : 300 < FU := by rw [FU_eq]; decide
  have hn := X.1
  unfold f_Text_spells_2
  generalize FU = M0 at hFU ⊢
  rw [pk_sub hse]
  by_cases c : e - s = 5
  · obtain ⟨r, u1, u2⟩ := spl2 X (s := s) (by omega) (nI e) M0 0 (by decide) (by omega) (fun j hj => absurd hj (Nat.not_lt_zero _))
    rw [if_pos (show nI (e - s) = 5 by rw [c]; rfl)]
    refine ⟨r, u1, ?_⟩
    rcases u2 with ⟨u2, u3⟩ | ⟨u2, u3⟩
    · exact Or.inl ⟨u2, c, u3⟩
    · exact Or.inr ⟨u2, fun z => u3 z.2⟩
  · rw [if_neg (show ¬ nI (e - s) = 5 from nI_ne (b := 5) (by omega) (by decide) c)]
    exact ⟨0, rfl, Or.inr ⟨rfl, fun z => c z.1⟩⟩
theorem tw2 (X : TX n b B S T) {s : Nat} (hs : s ≤ n) {t : Int64} {nb : Int32} (h : TokS n b s t nb) : lg_cmp t 8863997 = 0 ↔ (tk n b s = 0 ∧ isW b s (te n b s) [112, 114, 105, 99, 101]) := by
  rw [lg_cmp_eq]
  exact tok_word X hs h (w := [112, 114, 105, 99, 101]) (by decide) (by decide)
theorem spl3 (X : TX n b B S T) {s : Nat} (hs : s + 4 ≤ n) (ea : Int32) : ∀ m i, i ≤ 4 → 4 - i < m → (∀ j, j < i → b (s + j) = ([101, 110, 100, 115] : List Nat).getD j 0) → ∃ r, f_Text_spells_3_20 m (nI i) (nI s) ea 200 B = some r ∧ ((r = 1 ∧ ∀ j, j < 4 → b (s + j) = ([101, 110, 100, 115] : List Nat).getD j 0) ∨ (r = 0 ∧ ¬ ∀ j, j < 4 → b (s + j) = ([101, 110, 100, 115] : List Nat).getD j 0)) := by
  have hch : ∀ i, i < 4 → sch 3 (nI i) = nI (([101, 110, 100, 115] : List Nat).getD i 0) ∧ ([101, 110, 100, 115] : List Nat).getD i 0 < 256 := by decide +kernel
  intro m
  induction m with
  | zero => intro i _ h; omega
  | succ m ih =>
    intro i hi hm h0
    rw [show f_Text_spells_3_20 (m + 1) = b_Text_spells_3_20 (f_Text_spells_3_20 m) from rfl]
    unfold b_Text_spells_3_20
    have hn := X.1
    by_cases c : i = 4
    · subst c
      rw [if_pos (show (4 : Int32) ≤ nI 4 by decide)]
      exact ⟨1, rfl, Or.inl ⟨rfl, h0⟩⟩
    · obtain ⟨x1, x2, x3, x4⟩ := X.2 (s + i) (by omega)
      obtain ⟨c1, c2⟩ := hch i (by omega)
      rw [if_neg (show ¬ (4 : Int32) ≤ nI i from nI_ge (b := 4) (by omega) (by decide)), nI_add, gixN (show s + i < 200 by omega) (by decide), gixN (show i < 4 by omega) (by decide), nIc (by omega), x2, c1, nI_1]
      by_cases q : b (s + i) = ([101, 110, 100, 115] : List Nat).getD i 0
      · rw [if_pos (by rw [q])]
        refine ih (i + 1) (by omega) (by omega) ?_
        intro j hj
        by_cases z : j = i
        · rw [z]; exact q
        · exact h0 j (by omega)
      · rw [if_neg (nI_ne (by omega) (by omega) q)]
        exact ⟨0, rfl, Or.inr ⟨rfl, fun z => q (z i (by omega))⟩⟩
theorem sp3 (X : TX n b B S T) {s e : Nat} (hse : s ≤ e) (hen : e ≤ n) : ∃ r, f_Text_spells_3 (nI s) (nI e) 200 B = some r ∧ ((r = 1 ∧ isW b s e [101, 110, 100, 115]) ∨ (r = 0 ∧ ¬ isW b s e [101, 110, 100, 115])) := by
  have hFU : 300 < FU := by rw [FU_eq]; decide
  have hn := X.1
  unfold f_Text_spells_3
  generalize FU = M0 at hFU ⊢
  rw [pk_sub hse]
  by_cases c : e - s = 4
  · obtain ⟨r, u1, u2⟩ := spl3 X (s := s) (by omega) (nI e) M0 0 (by decide) (by omega) (fun j hj => absurd hj (Nat.not_lt_zero _))
    rw [if_pos (show nI (e - s) = 4 by rw [c]; rfl)]
    refine ⟨r, u1, ?_⟩
    rcases u2 with ⟨u2, u3⟩ | ⟨u2, u3⟩
    · exact Or.inl ⟨u2, c, u3⟩
    · exact Or.inr ⟨u2, fun z => u3 z.2⟩
  · rw [if_neg (show ¬ nI (e - s) = 4 from nI_ne (b := 4) (by omega) (by decide) c)]
    exact ⟨0, rfl, Or.inr ⟨rfl, fun z => c z.1⟩⟩
theorem tw3 (X : TX n b B S T) {s : Nat} (hs : s ≤ n) {t : Int64} {nb : Int32} (h : TokS n b s t nb) : lg_cmp t 108748 = 0 ↔ (tk n b s = 0 ∧ isW b s (te n b s) [101, 110, 100, 115]) := by
  rw [lg_cmp_eq]
  exact tok_word X hs h (w := [101, 110, 100, 115]) (by decide) (by decide)
theorem spl4 (X : TX n b B S T) {s : Nat} (hs : s + 4 ≤ n) (ea : Int32) : ∀ m i, i ≤ 4 → 4 - i < m → (∀ j, j < i → b (s + j) = ([97, 108, 115, 111] : List Nat).getD j 0) → ∃ r, f_Text_spells_4_20 m (nI i) (nI s) ea 200 B = some r ∧ ((r = 1 ∧ ∀ j, j < 4 → b (s + j) = ([97, 108, 115, 111] : List Nat).getD j 0) ∨ (r = 0 ∧ ¬ ∀ j, j < 4 → b (s + j) = ([97, 108, 115, 111] : List Nat).getD j 0)) := by
  have hch : ∀ i, i < 4 → sch 4 (nI i) = nI (([97, 108, 115, 111] : List Nat).getD i 0) ∧ ([97, 108, 115, 111] : List Nat).getD i 0 < 256 := by decide +kernel
  intro m
  induction m with
  | zero => intro i _ h; omega
  | succ m ih =>
    intro i hi hm h0
    rw [show f_Text_spells_4_20 (m + 1) = b_Text_spells_4_20 (f_Text_spells_4_20 m) from rfl]
    unfold b_Text_spells_4_20
    have hn := X.1
    by_cases c : i = 4
    · subst c
      rw [if_pos (show (4 : Int32) ≤ nI 4 by decide)]
      exact ⟨1, rfl, Or.inl ⟨rfl, h0⟩⟩
    · obtain ⟨x1, x2, x3, x4⟩ := X.2 (s + i) (by omega)
      obtain ⟨c1, c2⟩ := hch i (by omega)
      rw [if_neg (show ¬ (4 : Int32) ≤ nI i from nI_ge (b := 4) (by omega) (by decide)), nI_add, gixN (show s + i < 200 by omega) (by decide), gixN (show i < 4 by omega) (by decide), nIc (by omega), x2, c1, nI_1]
      by_cases q : b (s + i) = ([97, 108, 115, 111] : List Nat).getD i 0
      · rw [if_pos (by rw [q])]
        refine ih (i + 1) (by omega) (by omega) ?_
        intro j hj
        by_cases z : j = i
        · rw [z]; exact q
        · exact h0 j (by omega)
      · rw [if_neg (nI_ne (by omega) (by omega) q)]
        exact ⟨0, rfl, Or.inr ⟨rfl, fun z => q (z i (by omega))⟩⟩
theorem sp4 (X : TX n b B S T) {s e : Nat} (hse : s ≤ e) (hen : e ≤ n) : ∃ r, f_Text_spells_4 (nI s) (nI e) 200 B = some r ∧ ((r = 1 ∧ isW b s e [97, 108, 115, 111]) ∨ (r = 0 ∧ ¬ isW b s e [97, 108, 115, 111])) := by
  have hFU : 300 < FU := by rw [FU_eq]; decide
  have hn := X.1
  unfold f_Text_spells_4
  generalize FU = M0 at hFU ⊢
  rw [pk_sub hse]
  by_cases c : e - s = 4
  · obtain ⟨r, u1, u2⟩ := spl4 X (s := s) (by omega) (nI e) M0 0 (by decide) (by omega) (fun j hj => absurd hj (Nat.not_lt_zero _))
    rw [if_pos (show nI (e - s) = 4 by rw [c]; rfl)]
    refine ⟨r, u1, ?_⟩
    rcases u2 with ⟨u2, u3⟩ | ⟨u2, u3⟩
    · exact Or.inl ⟨u2, c, u3⟩
    · exact Or.inr ⟨u2, fun z => u3 z.2⟩
  · rw [if_neg (show ¬ nI (e - s) = 4 from nI_ne (b := 4) (by omega) (by decide) c)]
    exact ⟨0, rfl, Or.inr ⟨rfl, fun z => c z.1⟩⟩
theorem tw4 (X : TX n b B S T) {s : Nat} (hs : s ≤ n) {t : Int64} {nb : Int32} (h : TokS n b s t nb) : lg_cmp t 28959 = 0 ↔ (tk n b s = 0 ∧ isW b s (te n b s) [97, 108, 115, 111]) := by
  rw [lg_cmp_eq]
  exact tok_word X hs h (w := [97, 108, 115, 111]) (by decide) (by decide)
theorem spl5 (X : TX n b B S T) {s : Nat} (hs : s + 4 ≤ n) (ea : Int32) : ∀ m i, i ≤ 4 → 4 - i < m → (∀ j, j < i → b (s + j) = ([108, 97, 110, 101] : List Nat).getD j 0) → ∃ r, f_Text_spells_5_20 m (nI i) (nI s) ea 200 B = some r ∧ ((r = 1 ∧ ∀ j, j < 4 → b (s + j) = ([108, 97, 110, 101] : List Nat).getD j 0) ∨ (r = 0 ∧ ¬ ∀ j, j < 4 → b (s + j) = ([108, 97, 110, 101] : List Nat).getD j 0)) := by
  have hch : ∀ i, i < 4 → sch 5 (nI i) = nI (([108, 97, 110, 101] : List Nat).getD i 0) ∧ ([108, 97, 110, 101] : List Nat).getD i 0 < 256 := by decide +kernel
  intro m
  induction m with
  | zero => intro i _ h; omega
  | succ m ih =>
    intro i hi hm h0
    rw [show f_Text_spells_5_20 (m + 1) = b_Text_spells_5_20 (f_Text_spells_5_20 m) from rfl]
    unfold b_Text_spells_5_20
    have hn := X.1
    by_cases c : i = 4
    · subst c
      rw [if_pos (show (4 : Int32) ≤ nI 4 by decide)]
      exact ⟨1, rfl, Or.inl ⟨rfl, h0⟩⟩
    · obtain ⟨x1, x2, x3, x4⟩ := X.2 (s + i) (by omega)
      obtain ⟨c1, c2⟩ := hch i (by omega)
      rw [if_neg (show ¬ (4 : Int32) ≤ nI i from nI_ge (b := 4) (by omega) (by decide)), nI_add, gixN (show s + i < 200 by omega) (by decide), gixN (show i < 4 by omega) (by decide), nIc (by omega), x2, c1, nI_1]
      by_cases q : b (s + i) = ([108, 97, 110, 101] : List Nat).getD i 0
      · rw [if_pos (by rw [q])]
        refine ih (i + 1) (by omega) (by omega) ?_
        intro j hj
        by_cases z : j = i
        · rw [z]; exact q
        · exact h0 j (by omega)
      · rw [if_neg (nI_ne (by omega) (by omega) q)]
        exact ⟨0, rfl, Or.inr ⟨rfl, fun z => q (z i (by omega))⟩⟩
theorem sp5 (X : TX n b B S T) {s e : Nat} (hse : s ≤ e) (hen : e ≤ n) : ∃ r, f_Text_spells_5 (nI s) (nI e) 200 B = some r ∧ ((r = 1 ∧ isW b s e [108, 97, 110, 101]) ∨ (r = 0 ∧ ¬ isW b s e [108, 97, 110, 101])) := by
  have hFU : 300 < FU := by rw [FU_eq]; decide
  have hn := X.1
  unfold f_Text_spells_5
  generalize FU = M0 at hFU ⊢
  rw [pk_sub hse]
  by_cases c : e - s = 4
  · obtain ⟨r, u1, u2⟩ := spl5 X (s := s) (by omega) (nI e) M0 0 (by decide) (by omega) (fun j hj => absurd hj (Nat.not_lt_zero _))
    rw [if_pos (show nI (e - s) = 4 by rw [c]; rfl)]
    refine ⟨r, u1, ?_⟩
    rcases u2 with ⟨u2, u3⟩ | ⟨u2, u3⟩
    · exact Or.inl ⟨u2, c, u3⟩
    · exact Or.inr ⟨u2, fun z => u3 z.2⟩
  · rw [if_neg (show ¬ nI (e - s) = 4 from nI_ne (b := 4) (by omega) (by decide) c)]
    exact ⟨0, rfl, Or.inr ⟨rfl, fun z => c z.1⟩⟩
theorem tw5 (X : TX n b B S T) {s : Nat} (hs : s ≤ n) {t : Int64} {nb : Int32} (h : TokS n b s t nb) : lg_cmp t 237308 = 0 ↔ (tk n b s = 0 ∧ isW b s (te n b s) [108, 97, 110, 101]) := by
  rw [lg_cmp_eq]
  exact tok_word X hs h (w := [108, 97, 110, 101]) (by decide) (by decide)
theorem spl6 (X : TX n b B S T) {s : Nat} (hs : s + 4 ≤ n) (ea : Int32) : ∀ m i, i ≤ 4 → 4 - i < m → (∀ j, j < i → b (s + j) = ([99, 97, 114, 116] : List Nat).getD j 0) → ∃ r, f_Text_spells_6_20 m (nI i) (nI s) ea 200 B = some r ∧ ((r = 1 ∧ ∀ j, j < 4 → b (s + j) = ([99, 97, 114, 116] : List Nat).getD j 0) ∨ (r = 0 ∧ ¬ ∀ j, j < 4 → b (s + j) = ([99, 97, 114, 116] : List Nat).getD j 0)) := by
  have hch : ∀ i, i < 4 → sch 6 (nI i) = nI (([99, 97, 114, 116] : List Nat).getD i 0) ∧ ([99, 97, 114, 116] : List Nat).getD i 0 < 256 := by decide +kernel
  intro m
  induction m with
  | zero => intro i _ h; omega
  | succ m ih =>
    intro i hi hm h0
    rw [show f_Text_spells_6_20 (m + 1) = b_Text_spells_6_20 (f_Text_spells_6_20 m) from rfl]
    unfold b_Text_spells_6_20
    have hn := X.1
    by_cases c : i = 4
    · subst c
      rw [if_pos (show (4 : Int32) ≤ nI 4 by decide)]
      exact ⟨1, rfl, Or.inl ⟨rfl, h0⟩⟩
    · obtain ⟨x1, x2, x3, x4⟩ := X.2 (s + i) (by omega)
      obtain ⟨c1, c2⟩ := hch i (by omega)
      rw [if_neg (show ¬ (4 : Int32) ≤ nI i from nI_ge (b := 4) (by omega) (by decide)), nI_add, gixN (show s + i < 200 by omega) (by decide), gixN (show i < 4 by omega) (by decide), nIc (by omega), x2, c1, nI_1]
      by_cases q : b (s + i) = ([99, 97, 114, 116] : List Nat).getD i 0
      · rw [if_pos (by rw [q])]
        refine ih (i + 1) (by omega) (by omega) ?_
        intro j hj
        by_cases z : j = i
        · rw [z]; exact q
        · exact h0 j (by omega)
      · rw [if_neg (nI_ne (by omega) (by omega) q)]
        exact ⟨0, rfl, Or.inr ⟨rfl, fun z => q (z i (by omega))⟩⟩
theorem sp6 (X : TX n b B S T) {s e : Nat} (hse : s ≤ e) (hen : e ≤ n) : ∃ r, f_Text_spells_6 (nI s) (nI e) 200 B = some r ∧ ((r = 1 ∧ isW b s e [99, 97, 114, 116]) ∨ (r = 0 ∧ ¬ isW b s e [99, 97, 114, 116])) := by
  have hFU : 300 < FU := by rw [FU_eq]; decide
  have hn := X.1
  unfold f_Text_spells_6
  generalize FU = M0 at hFU ⊢
  rw [pk_sub hse]
  by_cases c : e - s = 4
  · obtain ⟨r, u1, u2⟩ := spl6 X (s := s) (by omega) (nI e) M0 0 (by decide) (by omega) (fun j hj => absurd hj (Nat.not_lt_zero _))
    rw [if_pos (show nI (e - s) = 4 by rw [c]; rfl)]
    refine ⟨r, u1, ?_⟩
    rcases u2 with ⟨u2, u3⟩ | ⟨u2, u3⟩
    · exact Or.inl ⟨u2, c, u3⟩
    · exact Or.inr ⟨u2, fun z => u3 z.2⟩
  · rw [if_neg (show ¬ nI (e - s) = 4 from nI_ne (b := 4) (by omega) (by decide) c)]
    exact ⟨0, rfl, Or.inr ⟨rfl, fun z => c z.1⟩⟩
theorem tw6 (X : TX n b B S T) {s : Nat} (hs : s ≤ n) {t : Int64} {nb : Int32} (h : TokS n b s t nb) : lg_cmp t 60284 = 0 ↔ (tk n b s = 0 ∧ isW b s (te n b s) [99, 97, 114, 116]) := by
  rw [lg_cmp_eq]
  exact tok_word X hs h (w := [99, 97, 114, 116]) (by decide) (by decide)
theorem spl7 (X : TX n b B S T) {s : Nat} (hs : s + 5 ≤ n) (ea : Int32) : ∀ m i, i ≤ 5 → 5 - i < m → (∀ j, j < i → b (s + j) = ([102, 105, 114, 115, 116] : List Nat).getD j 0) → ∃ r, f_Text_spells_7_20 m (nI i) (nI s) ea 200 B = some r ∧ ((r = 1 ∧ ∀ j, j < 5 → b (s + j) = ([102, 105, 114, 115, 116] : List Nat).getD j 0) ∨ (r = 0 ∧ ¬ ∀ j, j < 5 → b (s + j) = ([102, 105, 114, 115, 116] : List Nat).getD j 0)) := by
  have hch : ∀ i, i < 5 → sch 7 (nI i) = nI (([102, 105, 114, 115, 116] : List Nat).getD i 0) ∧ ([102, 105, 114, 115, 116] : List Nat).getD i 0 < 256 := by decide +kernel
  intro m
  induction m with
  | zero => intro i _ h; omega
  | succ m ih =>
    intro i hi hm h0
    rw [show f_Text_spells_7_20 (m + 1) = b_Text_spells_7_20 (f_Text_spells_7_20 m) from rfl]
    unfold b_Text_spells_7_20
    have hn := X.1
    by_cases c : i = 5
    · subst c
      rw [if_pos (show (5 : Int32) ≤ nI 5 by decide)]
      exact ⟨1, rfl, Or.inl ⟨rfl, h0⟩⟩
    · obtain ⟨x1, x2, x3, x4⟩ := X.2 (s + i) (by omega)
      obtain ⟨c1, c2⟩ := hch i (by omega)
      rw [if_neg (show ¬ (5 : Int32) ≤ nI i from nI_ge (b := 5) (by omega) (by decide)), nI_add, gixN (show s + i < 200 by omega) (by decide), gixN (show i < 5 by omega) (by decide), nIc (by omega), x2, c1, nI_1]
      by_cases q : b (s + i) = ([102, 105, 114, 115, 116] : List Nat).getD i 0
      · rw [if_pos (by rw [q])]
        refine ih (i + 1) (by omega) (by omega) ?_
        intro j hj
        by_cases z : j = i
        · rw [z]; exact q
        · exact h0 j (by omega)
      · rw [if_neg (nI_ne (by omega) (by omega) q)]
        exact ⟨0, rfl, Or.inr ⟨rfl, fun z => q (z i (by omega))⟩⟩
theorem sp7 (X : TX n b B S T) {s e : Nat} (hse : s ≤ e) (hen : e ≤ n) : ∃ r, f_Text_spells_7 (nI s) (nI e) 200 B = some r ∧ ((r = 1 ∧ isW b s e [102, 105, 114, 115, 116]) ∨ (r = 0 ∧ ¬ isW b s e [102, 105, 114, 115, 116])) := by
  have hFU : 300 < FU := by rw [FU_eq]; decide
  have hn := X.1
  unfold f_Text_spells_7
  generalize FU = M0 at hFU ⊢
  rw [pk_sub hse]
  by_cases c : e - s = 5
  · obtain ⟨r, u1, u2⟩ := spl7 X (s := s) (by omega) (nI e) M0 0 (by decide) (by omega) (fun j hj => absurd hj (Nat.not_lt_zero _))
    rw [if_pos (show nI (e - s) = 5 by rw [c]; rfl)]
    refine ⟨r, u1, ?_⟩
    rcases u2 with ⟨u2, u3⟩ | ⟨u2, u3⟩
    · exact Or.inl ⟨u2, c, u3⟩
    · exact Or.inr ⟨u2, fun z => u3 z.2⟩
  · rw [if_neg (show ¬ nI (e - s) = 5 from nI_ne (b := 5) (by omega) (by decide) c)]
    exact ⟨0, rfl, Or.inr ⟨rfl, fun z => c z.1⟩⟩
theorem tw7 (X : TX n b B S T) {s : Nat} (hs : s ≤ n) {t : Int64} {nb : Int32} (h : TokS n b s t nb) : lg_cmp t 3379448 = 0 ↔ (tk n b s = 0 ∧ isW b s (te n b s) [102, 105, 114, 115, 116]) := by
  rw [lg_cmp_eq]
  exact tok_word X hs h (w := [102, 105, 114, 115, 116]) (by decide) (by decide)
theorem spl8 (X : TX n b B S T) {s : Nat} (hs : s + 4 ≤ n) (ea : Int32) : ∀ m i, i ≤ 4 → 4 - i < m → (∀ j, j < i → b (s + j) = ([108, 97, 115, 116] : List Nat).getD j 0) → ∃ r, f_Text_spells_8_20 m (nI i) (nI s) ea 200 B = some r ∧ ((r = 1 ∧ ∀ j, j < 4 → b (s + j) = ([108, 97, 115, 116] : List Nat).getD j 0) ∨ (r = 0 ∧ ¬ ∀ j, j < 4 → b (s + j) = ([108, 97, 115, 116] : List Nat).getD j 0)) := by
  have hch : ∀ i, i < 4 → sch 8 (nI i) = nI (([108, 97, 115, 116] : List Nat).getD i 0) ∧ ([108, 97, 115, 116] : List Nat).getD i 0 < 256 := by decide +kernel
  intro m
  induction m with
  | zero => intro i _ h; omega
  | succ m ih =>
    intro i hi hm h0
    rw [show f_Text_spells_8_20 (m + 1) = b_Text_spells_8_20 (f_Text_spells_8_20 m) from rfl]
    unfold b_Text_spells_8_20
    have hn := X.1
    by_cases c : i = 4
    · subst c
      rw [if_pos (show (4 : Int32) ≤ nI 4 by decide)]
      exact ⟨1, rfl, Or.inl ⟨rfl, h0⟩⟩
    · obtain ⟨x1, x2, x3, x4⟩ := X.2 (s + i) (by omega)
      obtain ⟨c1, c2⟩ := hch i (by omega)
      rw [if_neg (show ¬ (4 : Int32) ≤ nI i from nI_ge (b := 4) (by omega) (by decide)), nI_add, gixN (show s + i < 200 by omega) (by decide), gixN (show i < 4 by omega) (by decide), nIc (by omega), x2, c1, nI_1]
      by_cases q : b (s + i) = ([108, 97, 115, 116] : List Nat).getD i 0
      · rw [if_pos (by rw [q])]
        refine ih (i + 1) (by omega) (by omega) ?_
        intro j hj
        by_cases z : j = i
        · rw [z]; exact q
        · exact h0 j (by omega)
      · rw [if_neg (nI_ne (by omega) (by omega) q)]
        exact ⟨0, rfl, Or.inr ⟨rfl, fun z => q (z i (by omega))⟩⟩
theorem sp8 (X : TX n b B S T) {s e : Nat} (hse : s ≤ e) (hen : e ≤ n) : ∃ r, f_Text_spells_8 (nI s) (nI e) 200 B = some r ∧ ((r = 1 ∧ isW b s e [108, 97, 115, 116]) ∨ (r = 0 ∧ ¬ isW b s e [108, 97, 115, 116])) := by
  have hFU : 300 < FU := by rw [FU_eq]; decide
  have hn := X.1
  unfold f_Text_spells_8
  generalize FU = M0 at hFU ⊢
  rw [pk_sub hse]
  by_cases c : e - s = 4
  · obtain ⟨r, u1, u2⟩ := spl8 X (s := s) (by omega) (nI e) M0 0 (by decide) (by omega) (fun j hj => absurd hj (Nat.not_lt_zero _))
    rw [if_pos (show nI (e - s) = 4 by rw [c]; rfl)]
    refine ⟨r, u1, ?_⟩
    rcases u2 with ⟨u2, u3⟩ | ⟨u2, u3⟩
    · exact Or.inl ⟨u2, c, u3⟩
    · exact Or.inr ⟨u2, fun z => u3 z.2⟩
  · rw [if_neg (show ¬ nI (e - s) = 4 from nI_ne (b := 4) (by omega) (by decide) c)]
    exact ⟨0, rfl, Or.inr ⟨rfl, fun z => c z.1⟩⟩
theorem tw8 (X : TX n b B S T) {s : Nat} (hs : s ≤ n) {t : Int64} {nb : Int32} (h : TokS n b s t nb) : lg_cmp t 237458 = 0 ↔ (tk n b s = 0 ∧ isW b s (te n b s) [108, 97, 115, 116]) := by
  rw [lg_cmp_eq]
  exact tok_word X hs h (w := [108, 97, 115, 116]) (by decide) (by decide)
theorem spl9 (X : TX n b B S T) {s : Nat} (hs : s + 7 ≤ n) (ea : Int32) : ∀ m i, i ≤ 7 → 7 - i < m → (∀ j, j < i → b (s + j) = ([108, 111, 110, 103, 101, 115, 116] : List Nat).getD j 0) → ∃ r, f_Text_spells_9_20 m (nI i) (nI s) ea 200 B = some r ∧ ((r = 1 ∧ ∀ j, j < 7 → b (s + j) = ([108, 111, 110, 103, 101, 115, 116] : List Nat).getD j 0) ∨ (r = 0 ∧ ¬ ∀ j, j < 7 → b (s + j) = ([108, 111, 110, 103, 101, 115, 116] : List Nat).getD j 0)) := by
  have hch : ∀ i, i < 7 → sch 9 (nI i) = nI (([108, 111, 110, 103, 101, 115, 116] : List Nat).getD i 0) ∧ ([108, 111, 110, 103, 101, 115, 116] : List Nat).getD i 0 < 256 := by decide +kernel
  intro m
  induction m with
  | zero => intro i _ h; omega
  | succ m ih =>
    intro i hi hm h0
    rw [show f_Text_spells_9_20 (m + 1) = b_Text_spells_9_20 (f_Text_spells_9_20 m) from rfl]
    unfold b_Text_spells_9_20
    have hn := X.1
    by_cases c : i = 7
    · subst c
      rw [if_pos (show (7 : Int32) ≤ nI 7 by decide)]
      exact ⟨1, rfl, Or.inl ⟨rfl, h0⟩⟩
    · obtain ⟨x1, x2, x3, x4⟩ := X.2 (s + i) (by omega)
      obtain ⟨c1, c2⟩ := hch i (by omega)
      rw [if_neg (show ¬ (7 : Int32) ≤ nI i from nI_ge (b := 7) (by omega) (by decide)), nI_add, gixN (show s + i < 200 by omega) (by decide), gixN (show i < 7 by omega) (by decide), nIc (by omega), x2, c1, nI_1]
      by_cases q : b (s + i) = ([108, 111, 110, 103, 101, 115, 116] : List Nat).getD i 0
      · rw [if_pos (by rw [q])]
        refine ih (i + 1) (by omega) (by omega) ?_
        intro j hj
        by_cases z : j = i
        · rw [z]; exact q
        · exact h0 j (by omega)
      · rw [if_neg (nI_ne (by omega) (by omega) q)]
        exact ⟨0, rfl, Or.inr ⟨rfl, fun z => q (z i (by omega))⟩⟩
theorem sp9 (X : TX n b B S T) {s e : Nat} (hse : s ≤ e) (hen : e ≤ n) : ∃ r, f_Text_spells_9 (nI s) (nI e) 200 B = some r ∧ ((r = 1 ∧ isW b s e [108, 111, 110, 103, 101, 115, 116]) ∨ (r = 0 ∧ ¬ isW b s e [108, 111, 110, 103, 101, 115, 116])) := by
  have hFU : 300 < FU := by rw [FU_eq]; decide
  have hn := X.1
  unfold f_Text_spells_9
  generalize FU = M0 at hFU ⊢
  rw [pk_sub hse]
  by_cases c : e - s = 7
  · obtain ⟨r, u1, u2⟩ := spl9 X (s := s) (by omega) (nI e) M0 0 (by decide) (by omega) (fun j hj => absurd hj (Nat.not_lt_zero _))
    rw [if_pos (show nI (e - s) = 7 by rw [c]; rfl)]
    refine ⟨r, u1, ?_⟩
    rcases u2 with ⟨u2, u3⟩ | ⟨u2, u3⟩
    · exact Or.inl ⟨u2, c, u3⟩
    · exact Or.inr ⟨u2, fun z => u3 z.2⟩
  · rw [if_neg (show ¬ nI (e - s) = 7 from nI_ne (b := 7) (by omega) (by decide) c)]
    exact ⟨0, rfl, Or.inr ⟨rfl, fun z => c z.1⟩⟩
theorem tw9 (X : TX n b B S T) {s : Nat} (hs : s ≤ n) {t : Int64} {nb : Int32} (h : TokS n b s t nb) : lg_cmp t 4871861606 = 0 ↔ (tk n b s = 0 ∧ isW b s (te n b s) [108, 111, 110, 103, 101, 115, 116]) := by
  rw [lg_cmp_eq]
  exact tok_word X hs h (w := [108, 111, 110, 103, 101, 115, 116]) (by decide) (by decide)
theorem spl10 (X : TX n b B S T) {s : Nat} (hs : s + 5 ≤ n) (ea : Int32) : ∀ m i, i ≤ 5 → 5 - i < m → (∀ j, j < i → b (s + j) = ([108, 101, 97, 115, 116] : List Nat).getD j 0) → ∃ r, f_Text_spells_10_20 m (nI i) (nI s) ea 200 B = some r ∧ ((r = 1 ∧ ∀ j, j < 5 → b (s + j) = ([108, 101, 97, 115, 116] : List Nat).getD j 0) ∨ (r = 0 ∧ ¬ ∀ j, j < 5 → b (s + j) = ([108, 101, 97, 115, 116] : List Nat).getD j 0)) := by
  have hch : ∀ i, i < 5 → sch 10 (nI i) = nI (([108, 101, 97, 115, 116] : List Nat).getD i 0) ∧ ([108, 101, 97, 115, 116] : List Nat).getD i 0 < 256 := by decide +kernel
  intro m
  induction m with
  | zero => intro i _ h; omega
  | succ m ih =>
    intro i hi hm h0
    rw [show f_Text_spells_10_20 (m + 1) = b_Text_spells_10_20 (f_Text_spells_10_20 m) from rfl]
    unfold b_Text_spells_10_20
    have hn := X.1
    by_cases c : i = 5
    · subst c
      rw [if_pos (show (5 : Int32) ≤ nI 5 by decide)]
      exact ⟨1, rfl, Or.inl ⟨rfl, h0⟩⟩
    · obtain ⟨x1, x2, x3, x4⟩ := X.2 (s + i) (by omega)
      obtain ⟨c1, c2⟩ := hch i (by omega)
      rw [if_neg (show ¬ (5 : Int32) ≤ nI i from nI_ge (b := 5) (by omega) (by decide)), nI_add, gixN (show s + i < 200 by omega) (by decide), gixN (show i < 5 by omega) (by decide), nIc (by omega), x2, c1, nI_1]
      by_cases q : b (s + i) = ([108, 101, 97, 115, 116] : List Nat).getD i 0
      · rw [if_pos (by rw [q])]
        refine ih (i + 1) (by omega) (by omega) ?_
        intro j hj
        by_cases z : j = i
        · rw [z]; exact q
        · exact h0 j (by omega)
      · rw [if_neg (nI_ne (by omega) (by omega) q)]
        exact ⟨0, rfl, Or.inr ⟨rfl, fun z => q (z i (by omega))⟩⟩
theorem sp10 (X : TX n b B S T) {s e : Nat} (hse : s ≤ e) (hen : e ≤ n) : ∃ r, f_Text_spells_10 (nI s) (nI e) 200 B = some r ∧ ((r = 1 ∧ isW b s e [108, 101, 97, 115, 116]) ∨ (r = 0 ∧ ¬ isW b s e [108, 101, 97, 115, 116])) := by
  have hFU : 300 < FU := by rw [FU_eq]; decide
  have hn := X.1
  unfold f_Text_spells_10
  generalize FU = M0 at hFU ⊢
  rw [pk_sub hse]
  by_cases c : e - s = 5
  · obtain ⟨r, u1, u2⟩ := spl10 X (s := s) (by omega) (nI e) M0 0 (by decide) (by omega) (fun j hj => absurd hj (Nat.not_lt_zero _))
    rw [if_pos (show nI (e - s) = 5 by rw [c]; rfl)]
    refine ⟨r, u1, ?_⟩
    rcases u2 with ⟨u2, u3⟩ | ⟨u2, u3⟩
    · exact Or.inl ⟨u2, c, u3⟩
    · exact Or.inr ⟨u2, fun z => u3 z.2⟩
  · rw [if_neg (show ¬ nI (e - s) = 5 from nI_ne (b := 5) (by omega) (by decide) c)]
    exact ⟨0, rfl, Or.inr ⟨rfl, fun z => c z.1⟩⟩
theorem tw10 (X : TX n b B S T) {s : Nat} (hs : s ≤ n) {t : Int64} {nb : Int32} (h : TokS n b s t nb) : lg_cmp t 6476969 = 0 ↔ (tk n b s = 0 ∧ isW b s (te n b s) [108, 101, 97, 115, 116]) := by
  rw [lg_cmp_eq]
  exact tok_word X hs h (w := [108, 101, 97, 115, 116]) (by decide) (by decide)
end Num
