/-! ===== round: states packed ===== -/
theorem lN_pack {h v : Nat} (hv : v < 128) : (lN h <<< (((7 : Int32)).toInt64 &&& 63)) ||| (nI v).toInt64 = lN (h * 128 + v) := by
  rw [nI_l (by omega)]
  apply Int64.toBitVec_inj.mp
  show BitVec.ofNat 64 h <<< ((((7 : Int32).toInt64 &&& 63)).toBitVec.smod 64) ||| BitVec.ofNat 64 v = BitVec.ofNat 64 (h * 128 + v)
  rw [show (((7 : Int32).toInt64 &&& 63)).toBitVec.smod 64 = 7#64 by decide]
  apply BitVec.eq_of_toNat_eq
  rw [BitVec.shiftLeft_eq', BitVec.toNat_or, BitVec.toNat_shiftLeft, BitVec.toNat_ofNat, BitVec.toNat_ofNat, BitVec.toNat_ofNat, Nat.shiftLeft_eq, BitVec.toNat_ofNat, show 7 % 2 ^ 64 = 7 from rfl]
  have e : h % 2 ^ 64 * 2 ^ 7 % 2 ^ 64 = 2 ^ 7 * (h % 2 ^ 57) := by omega
  rw [e, Nat.mod_eq_of_lt (show v < 2 ^ 64 by omega), ← Nat.two_pow_add_eq_or_of_lt (show v < 2 ^ 7 by omega)]
  omega
def pkn (f : Nat → Nat) (a : Nat) : Nat → Nat
  | 0 => 0
  | k + 1 => pkn f a k * 128 + f (a + k)
theorem pkn_lt {f : Nat → Nat} {a : Nat} : ∀ k, (∀ t, t < k → f (a + t) < 128) → pkn f a k < 128 ^ k
  | 0, _ => by show 0 < 128 ^ 0; decide
  | k + 1, h => by
    have h1 := pkn_lt k (fun t ht => h t (by omega))
    have h2 := h k (Nat.lt_succ_self k)
    show pkn f a k * 128 + f (a + k) < 128 ^ (k + 1)
    rw [Nat.pow_succ]
    omega
theorem pkn_inj {f g : Nat → Nat} {a : Nat} : ∀ k, (∀ t, t < k → f (a + t) < 128 ∧ g (a + t) < 128) → pkn f a k = pkn g a k → ∀ t, t < k → f (a + t) = g (a + t)
  | 0, _, _, t, ht => absurd ht (Nat.not_lt_zero _)
  | k + 1, h, e, t, ht => by
    have e' : pkn f a k * 128 + f (a + k) = pkn g a k * 128 + g (a + k) := e
    have h2 := h k (Nat.lt_succ_self k)
    have e1 : pkn f a k = pkn g a k := by omega
    have e2 : f (a + k) = g (a + k) := by omega
    by_cases q : t = k
    · rw [q]; exact e2
    · exact pkn_inj k (fun t ht => h t (by omega)) e1 t (by omega)
theorem pkn_congr {f g : Nat → Nat} {a : Nat} : ∀ k, (∀ t, t < k → f (a + t) = g (a + t)) → pkn f a k = pkn g a k
  | 0, _ => rfl
  | k + 1, h => by
    show pkn f a k * 128 + f (a + k) = pkn g a k * 128 + g (a + k)
    rw [pkn_congr k (fun t ht => h t (by omega)), h k (Nat.lt_succ_self k)]
def lkb (f g : Nat → Nat) : Nat → Bool
  | 0 => true
  | n + 1 => lkb f g n && decide (f n = g n)
theorem lkb_iff {f g : Nat → Nat} : ∀ n, lkb f g n = true ↔ ∀ t, t < n → f t = g t
  | 0 => ⟨fun _ t ht => absurd ht (Nat.not_lt_zero _), fun _ => rfl⟩
  | n + 1 => by
    show (lkb f g n && decide (f n = g n)) = true ↔ _
    rw [Bool.and_eq_true, lkb_iff n, decide_eq_true_eq]
    constructor
    · rintro ⟨h1, h2⟩ t ht
      by_cases e : t = n
      · rw [e]; exact h2
      · exact h1 t (by omega)
    · intro h
      exact ⟨fun t ht => h t (by omega), h n (Nat.lt_succ_self n)⟩
def loc (f : Nat → Nat) : Nat := pkn f 0 6 * 2 + f 12
def hic (f : Nat → Nat) : Nat := pkn f 6 6
theorem code_iff {f g : Nat → Nat} (hf : ∀ t, t < 13 → f t < 128) (hg : ∀ t, t < 13 → g t < 128) (hf2 : f 12 ≤ 1) (hg2 : g 12 ≤ 1) : (loc f = loc g ∧ hic f = hic g) ↔ lkb f g 13 = true := by
  rw [lkb_iff]
  constructor
  · rintro ⟨h1, h2⟩
    unfold loc at h1
    unfold hic at h2
    have e1 : pkn f 0 6 = pkn g 0 6 := by omega
    have e2 : f 12 = g 12 := by omega
    have a1 := pkn_inj 6 (fun t ht => ⟨hf (0 + t) (by omega), hg (0 + t) (by omega)⟩) e1
    have a2 := pkn_inj 6 (fun t ht => ⟨hf (6 + t) (by omega), hg (6 + t) (by omega)⟩) h2
    intro t ht
    by_cases c1 : t < 6
    · have := a1 t c1
      rw [Nat.zero_add] at this
      exact this
    · by_cases c2 : t < 12
      · have := a2 (t - 6) (by omega)
        rw [show 6 + (t - 6) = t by omega] at this
        exact this
      · rw [show t = 12 by omega]; exact e2
  · intro h
    unfold loc hic
    rw [pkn_congr 6 (fun t ht => h (0 + t) (by omega)), pkn_congr (a := 6) 6 (fun t ht => h (6 + t) (by omega)), h 12 (by decide)]
    exact ⟨rfl, rfl⟩
theorem loc_lt {f : Nat → Nat} (hf : ∀ t, t < 13 → f t < 128) : loc f < 2 ^ 63 ∧ hic f < 2 ^ 63 := by
  have h1 := pkn_lt (f := f) (a := 0) 6 (fun t ht => hf (0 + t) (by omega))
  have h2 := pkn_lt (f := f) (a := 6) 6 (fun t ht => hf (6 + t) (by omega))
  have h3 := hf 12 (by decide)
  have e : (128 : Nat) ^ 6 = 4398046511104 := by decide
  unfold loc hic
  omega
section Trail
theorem half5 {f : Nat → Nat} {F : Nat → Int32} {a : Nat} (ha : a ≤ 6) (hF : ∀ t, t < 12 → F t = nI (f t) ∧ f t < 128) : ∀ n k, k ≤ 6 → 6 - k < n → f_Trail_halfOf_5 n (nI a) (lN (pkn f a k)) (nI (a + k)) 16 F = some (lN (pkn f a 6)) := by
  intro n
  induction n with
  | zero => intro k _ h; omega
  | succ n ih =>
    intro k hk hn
    rw [show f_Trail_halfOf_5 (n + 1) = b_Trail_halfOf_5 (f_Trail_halfOf_5 n) from rfl]
    unfold b_Trail_halfOf_5
    rw [show nI a + 6 = nI (a + 6) from nI_add a 6]
    by_cases c : k = 6
    · subst c
      rw [if_pos (nI_le (Nat.le_refl _) (by omega))]
    · obtain ⟨e1, e2⟩ := hF (a + k) (by omega)
      rw [if_neg (nI_ge (by omega) (by omega)), gixN (show a + k < 16 by omega) (by decide), nIc (by omega), e1, lN_pack e2, nI_1]
      exact ih (k + 1) (by omega) (by omega)
theorem half_ok {f : Nat → Nat} {F : Nat → Int32} {a : Nat} (ha : a ≤ 6) (hF : ∀ t, t < 12 → F t = nI (f t) ∧ f t < 128) : f_Trail_halfOf (nI a) 16 F = some (lN (pkn f a 6)) := by
  unfold f_Trail_halfOf
  have hFU : 20 < FU := by rw [FU_eq]; decide
  generalize FU = M0 at hFU ⊢
  exact half5 ha hF M0 0 (by omega) (by omega)
theorem put_ok {f : Nat → Nat} {F : Nat → Int32} {j : Nat} (hj : j < 1001) (hF : ∀ t, t < 12 → F t = nI (f t) ∧ f t < 128) (h12 : f 12 ≤ 1) (low high : Nat → Int64) : f_Trail_put (nI j) (nI (f 12)) 1001 low 16 F 1001 high = some (vp_updL low j (lN (loc f)), vp_updL high j (lN (hic f))) := by
  unfold f_Trail_put
  have h0 : f_Trail_halfOf 0 16 F = some (lN (pkn f 0 6)) := half_ok (a := 0) (by decide) hF
  have h6 : f_Trail_halfOf 6 16 F = some (lN (pkn f 6 6)) := half_ok (a := 6) (by decide) hF
  rw [if_neg (nI_pos (by omega)), if_pos (nI_lt hj (by decide)), h0, h6, Option.bind_some]
  simp only [nmL, Option.bind_some, gixN hj (by decide : 1001 < 2 ^ 31), nIc (show j < 2 ^ 31 by omega)]
  rw [nI_l (by omega), show lN (pkn f 0 6) * 2 = lN (pkn f 0 6 * 2) from lN_mul _ 2, lN_add]
  rfl
theorem like2 {hs : Nat → Nat → Nat} {j : Nat} (hj : j < 1001) (hb : ∀ i, i ≤ j → (∀ t, t < 13 → hs i t < 128) ∧ hs i 12 ≤ 1) {low high : Nat → Int64} (hl : ∀ i, i ≤ j → low i = lN (loc (hs i)) ∧ high i = lN (hic (hs i))) : ∀ n i, i ≤ j → j - i < n → f_Trail_firstLike_2 n (nI j) (nI i) 1001 low 1001 high = some (nI (lst (fun b => lkb (hs b) (hs j) 13) (j - i) i)) := by
  intro n
  induction n with
  | zero => intro i _ h; omega
  | succ n ih =>
    intro i hi hn
    rw [show f_Trail_firstLike_2 (n + 1) = b_Trail_firstLike_2 (f_Trail_firstLike_2 n) from rfl]
    unfold b_Trail_firstLike_2 f_Trail_firstLike_56 f_Trail_firstLike_50
    by_cases c : i = j
    · subst c
      rw [if_pos (nI_le (Nat.le_refl _) (by omega)), Nat.sub_self]
      rfl
    · have h := ih (i + 1) (by omega) (by omega)
      have el : lst (fun b => lkb (hs b) (hs j) 13) (j - i) i = if lkb (hs i) (hs j) 13 = true then i else lst (fun b => lkb (hs b) (hs j) 13) (j - (i + 1)) (i + 1) := by
        rw [show j - i = (j - (i + 1)) + 1 by omega]; rfl
      obtain ⟨l1, l2⟩ := hl i hi
      obtain ⟨l3, l4⟩ := hl j (Nat.le_refl _)
      obtain ⟨b1, b2⟩ := hb i hi
      obtain ⟨b3, b4⟩ := hb j (Nat.le_refl _)
      obtain ⟨k1, k2⟩ := loc_lt b1
      obtain ⟨k3, k4⟩ := loc_lt b3
      have ci := code_iff b1 b3 b2 b4
      rw [el, if_neg (nI_ge (by omega) (by omega)), if_neg (nI_ge hj (by decide)), gixN (show i < 1001 by omega) (by decide), gixN hj (by decide), gixN (show i < 1001 by omega) (by decide), gixN hj (by decide), nIc (show i < 2 ^ 31 by omega), nIc (show j < 2 ^ 31 by omega), l1, l2, l3, l4, nI_1]
      by_cases q : lkb (hs i) (hs j) 13 = true
      · obtain ⟨q1, q2⟩ := ci.mpr q
        rw [if_pos ((lg_cmp_eq _ _).mpr (by rw [q1])), if_pos ((lg_cmp_eq _ _).mpr (by rw [q2])), if_pos q]
      · rw [if_neg q]
        by_cases q1 : loc (hs i) = loc (hs j)
        · rw [if_pos ((lg_cmp_eq _ _).mpr (by rw [q1])), if_neg (fun z => q (ci.mp ⟨q1, (pk_lEQ k2 k4).mp ((lg_cmp_eq _ _).mp z)⟩))]
          exact h
        · rw [if_neg (fun z => q1 ((pk_lEQ k1 k3).mp ((lg_cmp_eq _ _).mp z)))]
          exact h
theorem like_ok {hs : Nat → Nat → Nat} {j : Nat} (hj : j < 1001) (hb : ∀ i, i ≤ j → (∀ t, t < 13 → hs i t < 128) ∧ hs i 12 ≤ 1) {low high : Nat → Int64} (hl : ∀ i, i ≤ j → low i = lN (loc (hs i)) ∧ high i = lN (hic (hs i))) : f_Trail_firstLike (nI j) 1001 low 1001 high = some (nI (lst (fun b => lkb (hs b) (hs j) 13) j 0)) := by
  unfold f_Trail_firstLike
  have hFU : 2000 < FU := by rw [FU_eq]; decide
  generalize FU = M0 at hFU ⊢
  exact like2 hj hb hl M0 0 (Nat.zero_le _) (by omega)
theorem e13 (i t : Nat) : ((13 * nI i) + nI t : Int32) = nI (13 * i + t) := by
  rw [show (13 : Int32) * nI i = nI (13 * i) from pk_mul 13 i, nI_add]
theorem isLike5 {hs : Nat → Nat → Nat} {i j : Nat} (hi : i < 1001) (hj : j < 1001) {sta : Nat → Int32} (b1 : ∀ t, t < 13 → hs i t < 128) (b2 : ∀ t, t < 13 → hs j t < 128) (h1 : ∀ t, t < 13 → sta (13 * i + t) = nI (hs i t)) (h2 : ∀ t, t < 13 → sta (13 * j + t) = nI (hs j t)) : ∀ n k, k ≤ 13 → 13 - k < n → f_ShutWaysModel_isLike_5 n (nI i) (nI j) (if lkb (hs i) (hs j) k = true then 1 else 0) (nI k) 13013 sta = some (if lkb (hs i) (hs j) 13 = true then 1 else 0) := by
  intro n
  induction n with
  | zero => intro k _ h; omega
  | succ n ih =>
    intro k hk hn
    rw [show f_ShutWaysModel_isLike_5 (n + 1) = b_ShutWaysModel_isLike_5 (f_ShutWaysModel_isLike_5 n) from rfl]
    unfold b_ShutWaysModel_isLike_5 f_ShutWaysModel_isLike_55 f_ShutWaysModel_isLike_48
    by_cases c : k = 13
    · subst c
      rw [if_pos (show (13 : Int32) ≤ nI 13 by decide)]
      by_cases q : lkb (hs i) (hs j) 13 = true
      · rw [if_pos q]; rfl
      · rw [if_neg q]; rfl
    · rw [if_neg (show ¬ (13 : Int32) ≤ nI k from nI_ge (b := 13) (by omega) (by decide))]
      by_cases q : lkb (hs i) (hs j) k = true
      · have h := ih (k + 1) (by omega) (by omega)
        rw [if_pos q, if_neg one_ne, e13, e13, gixN (show 13 * i + k < 13013 by omega) (by decide), gixN (show 13 * j + k < 13013 by omega) (by decide), nIc (by omega), nIc (by omega), h1 k (by omega), h2 k (by omega), nI_1]
        have e : lkb (hs i) (hs j) (k + 1) = decide (hs i k = hs j k) := by
          show (lkb (hs i) (hs j) k && decide (hs i k = hs j k)) = _
          rw [q, Bool.true_and]
        have g1 := b1 k (by omega)
        have g2 := b2 k (by omega)
        rw [e] at h
        by_cases q2 : hs i k = hs j k
        · rw [if_pos (by rw [q2])]
          rw [if_pos (decide_eq_true q2)] at h
          exact h
        · rw [if_neg (nI_ne (by omega) (by omega) q2)]
          rw [if_neg (by simpa using q2)] at h
          exact h
      · rw [if_neg q, if_pos rfl]
        have q13 : ¬ lkb (hs i) (hs j) 13 = true := fun z => q ((lkb_iff k).mpr (fun t ht => (lkb_iff 13).mp z t (by omega)))
        rw [if_neg q13]
        rfl
theorem isLike_ok {hs : Nat → Nat → Nat} {i j : Nat} (hi : i < 1001) (hj : j < 1001) {sta : Nat → Int32} (b1 : ∀ t, t < 13 → hs i t < 128) (b2 : ∀ t, t < 13 → hs j t < 128) (h1 : ∀ t, t < 13 → sta (13 * i + t) = nI (hs i t)) (h2 : ∀ t, t < 13 → sta (13 * j + t) = nI (hs j t)) : f_ShutWaysModel_isLike (nI i) (nI j) 13013 sta = some (if lkb (hs i) (hs j) 13 = true then 1 else 0) := by
  unfold f_ShutWaysModel_isLike
  have hFU : 2000 < FU := by rw [FU_eq]; decide
  generalize FU = M0 at hFU ⊢
  exact isLike5 hi hj b1 b2 h1 h2 M0 0 (by omega) (by omega)
end Trail
section RoundSim
variable {C K kd nn : Nat} {fr to ya mk qu : Nat → Nat} {sf st sy mf mt my en : Nat → Int32} {market quay hasOdd oddM oddQ tw : Int32}
theorem rl82 {hs : Nat → Nat → Nat} {j : Nat} (hj : j < 1001) (hb : ∀ i, i ≤ j → (∀ t, t < 13 → hs i t < 128)) {sta : Nat → Int32} (hst : ∀ i, i ≤ j → ∀ t, t < 13 → sta (13 * i + t) = nI (hs i t)) (k8 : _) (str wm da : Int32) (ct : Nat) (A G L0 W0 : Nat → Int32) :
    ∀ n i, i ≤ j → j - i + 1 < n → f_ShutWaysModel_roundOf_82 k8 n (-1) (nI j) (nI i) (nI C) str tw (nI kd) (nI nn) (nI ct) da (nI K) wm 17 A 16 G 13013 sta 8 L0 4 en 16 my 16 mf 16 mt 16 W0 = f_ShutWaysModel_roundOf_121 k8 (if lst (fun b => lkb (hs b) (hs j) 13) (j - i) i < j then nI (1001 * lst (fun b => lkb (hs b) (hs j) 13) (j - i) i + (j - lst (fun b => lkb (hs b) (hs j) 13) (j - i) i)) else -1) (nI j) (nI C) str tw (nI kd) (nI nn) (nI ct) da (nI K) wm 17 A 16 G 13013 sta 8 L0 4 en 16 my 16 mf 16 mt 16 W0 := by
  intro n
  induction n with
  | zero => intro i _ h; omega
  | succ n ih =>
    intro i hi hn
    rw [show f_ShutWaysModel_roundOf_82 k8 (n + 1) = b_ShutWaysModel_roundOf_82 k8 (f_ShutWaysModel_roundOf_82 k8 n) from rfl]
    unfold b_ShutWaysModel_roundOf_82
    by_cases c : i = j
    · subst c
      rw [if_pos (nI_le (Nat.le_refl _) (by omega)), Nat.sub_self, if_neg (show ¬ lst (fun b => lkb (hs b) (hs i) 13) 0 i < i from Nat.lt_irrefl i)]
    · have h := ih (i + 1) (by omega) (by omega)
      have el : lst (fun b => lkb (hs b) (hs j) 13) (j - i) i = if lkb (hs i) (hs j) 13 = true then i else lst (fun b => lkb (hs b) (hs j) 13) (j - (i + 1)) (i + 1) := by
        rw [show j - i = (j - (i + 1)) + 1 by omega]; rfl
      unfold f_ShutWaysModel_roundOf_114
      rw [if_neg (nI_ge (by omega) (by omega)), if_pos rfl, isLike_ok (by omega) hj (hb i hi) (hb j (Nat.le_refl _)) (hst i hi) (hst j (Nat.le_refl _)), Option.bind_some, el, nI_1]
      by_cases q : lkb (hs i) (hs j) 13 = true
      · have e1 : (1001 * nI i + nI j - nI i : Int32) = nI (1001 * i + (j - i)) := by
          rw [show (1001 : Int32) * nI i = nI (1001 * i) from pk_mul 1001 i, nI_add, pk_sub (by omega)]
          congr 1
          omega
        rw [if_pos q, if_neg one_ne, if_pos q, if_pos (show i < j by omega), e1]
        obtain ⟨n', rfl⟩ : ∃ n', n = n' + 1 := ⟨n - 1, by omega⟩
        rw [show f_ShutWaysModel_roundOf_82 k8 (n' + 1) = b_ShutWaysModel_roundOf_82 k8 (f_ShutWaysModel_roundOf_82 k8 n') from rfl]
        unfold b_ShutWaysModel_roundOf_82
        rw [if_neg (nI_m1 (show 1001 * i + (j - i) < 2 ^ 31 by omega)), ite_self]
      · rw [if_neg q, if_pos rfl, if_neg q]
        exact h
theorem rs22 {f : Nat → Nat} {j : Nat} (hj : j < 1001) {G : Nat → Int32} (hG : ∀ t, t < 12 → G t = nI (f t)) {d : Nat} (htn : (if tw = 0 then (0 : Int32) else nI d - nI d / 2 * 2) = nI (f 12)) (k8 : _) (str wm : Int32) (ct : Nat) (A L0 W0 : Nat → Int32) :
    ∀ (n k : Nat) (sta : Nat → Int32), k ≤ 12 → 12 - k < n → (∀ t, t < k → sta (13 * j + t) = nI (f t)) → ∃ sta' : Nat → Int32, f_ShutWaysModel_roundOf_22 k8 n (-1) (nI j) (nI k) (nI C) str tw (nI kd) (nI nn) (nI ct) (nI d) (nI K) wm 17 A 16 G 13013 sta 8 L0 4 en 16 my 16 mf 16 mt 16 W0 = f_ShutWaysModel_roundOf_82 k8 FU (-1) (nI j) 0 (nI C) str tw (nI kd) (nI nn) (nI ct) (nI d) (nI K) wm 17 A 16 G 13013 sta' 8 L0 4 en 16 my 16 mf 16 mt 16 W0 ∧ (∀ t, t < 13 → sta' (13 * j + t) = nI (f t)) ∧ ∀ p, p < 13 * j → sta' p = sta p := by
  intro n
  induction n with
  | zero => intro k _ _ h; omega
  | succ n ih =>
    intro k sta hk hn h0
    rw [show f_ShutWaysModel_roundOf_22 k8 (n + 1) = b_ShutWaysModel_roundOf_22 k8 (f_ShutWaysModel_roundOf_22 k8 n) from rfl]
    unfold b_ShutWaysModel_roundOf_22 f_ShutWaysModel_roundOf_79
    by_cases c : k = 12
    · subst c
      have e12 : ((13 * nI j) + 12 : Int32) = nI (13 * j + 12) := e13 j 12
      rw [if_pos (show (12 : Int32) ≤ nI 12 by decide), e12, gixN (show 13 * j + 12 < 13013 by omega) (by decide), gixN (show 13 * j + 12 < 13013 by omega) (by decide), nIc (by omega)]
      have fin : ∀ v : Int32, v = nI (f 12) → (∀ t, t < 13 → upd sta (13 * j + 12) v (13 * j + t) = nI (f t)) ∧ ∀ p, p < 13 * j → upd sta (13 * j + 12) v p = sta p := by
        intro v hv
        refine ⟨fun t ht => ?_, fun p hp => pk_un (by omega)⟩
        by_cases e : t = 12
        · subst e; rw [pk_us, hv]
        · rw [pk_un (by omega)]; exact h0 t (by omega)
      by_cases q : tw = 0
      · rw [if_pos q] at htn ⊢
        exact ⟨_, rfl, fin 0 htn⟩
      · rw [if_neg q] at htn ⊢
        exact ⟨_, rfl, fin _ htn⟩
    · rw [if_neg (show ¬ (12 : Int32) ≤ nI k from nI_ge (b := 12) (by omega) (by decide)), gixN (show k < 16 by omega) (by decide), nIc (by omega), hG k (by omega)]
      simp only [nmI, e13, gixN (show 13 * j + k < 13013 by omega) (by decide : 13013 < 2 ^ 31), nIc (show 13 * j + k < 2 ^ 31 by omega), nI_1]
      obtain ⟨sta', u1, u2, u3⟩ := ih (k + 1) (upd sta (13 * j + k) (nI (f k))) (by omega) (by omega) (by
        intro t ht
        by_cases e : t = k
        · subst e; exact pk_us
        · rw [pk_un (by omega)]; exact h0 t (by omega))
      exact ⟨sta', u1, u2, fun p hp => (u3 p hp).trans (pk_un (by omega))⟩
def shq (fr to ya : Nat → Nat) (K : Nat) (mk qu : Nat → Nat) (kd nn : Nat) (sh0 : Nat → Nat) (d0 : Nat) : Nat → Nat → Nat
  | 0 => sh0
  | j + 1 => nx nn (pkl kd ya (dw fr to ya K mk qu (shq fr to ya K mk qu kd nn sh0 d0 j) (d0 + j))) (shq fr to ya K mk qu kd nn sh0 d0 j)
def hsq (fr to ya : Nat → Nat) (K : Nat) (mk qu : Nat → Nat) (kd nn : Nat) (sh0 : Nat → Nat) (d0 : Nat) (od : Int32) (j t : Nat) : Nat := if t < 12 then shq fr to ya K mk qu kd nn sh0 d0 j t else if od = 0 then 0 else (d0 + j) % 2
theorem round_sim (T : TW C K fr to ya mk qu kd nn sf st sy market quay hasOdd oddM oddQ mf mt my tw en) (hod : (hasOdd = 0 ∧ tw = 0) ∨ (hasOdd = 1 ∧ tw = 1)) (ct : Nat) (a1 g str : Int32) (tosh A : Nat → Int32) (sh0 : Nat → Nat) {d0 : Nat} (hd0 : d0 ≤ 9999) :
    ∀ (n j : Nat) (F G sta : Nat → Int32) (low high : Nat → Int64) (wc ws wy wm : Int32) (far wst L0 W0 : Nat → Int32), j ≤ 1001 → 1001 - j + 1 < n → CodS K (shq fr to ya K mk qu kd nn sh0 d0 j) F → CodS K (shq fr to ya K mk qu kd nn sh0 d0 j) G → (∀ i, i < j → ∀ t, t < 13 → hsq fr to ya K mk qu kd nn sh0 d0 hasOdd i t < 128) → (∀ i, i < j → low i = lN (loc (hsq fr to ya K mk qu kd nn sh0 d0 hasOdd i)) ∧ high i = lN (hic (hsq fr to ya K mk qu kd nn sh0 d0 hasOdd i))) → (∀ i, i < j → ∀ t, t < 13 → sta (13 * i + t) = nI (hsq fr to ya K mk qu kd nn sh0 d0 hasOdd i t)) →
    ∃ (r : Int32) (q1 : _) (v wm' : Int32) (G' sta' L' W' : Nat → Int32), f_ShutWays_round_25 n a1 (nI j) (nI (d0 + j)) g 16 tosh 16 F market quay hasOdd oddM oddQ (nI kd) (nI nn) 1001 low 1001 high wc ws wy (nI K) 8 far 16 sf 16 st 16 sy 8 wst = some (r, q1) ∧ f_ShutWaysModel_roundOf_8 n (-1) (nI j) (nI C) str tw (nI kd) (nI nn) (nI ct) (nI (d0 + j)) (nI K) wm 17 A 16 G 13013 sta 8 L0 4 en 16 my 16 mf 16 mt 16 W0 = some (v, A 16, str, wm', A, G', sta', L', W') ∧ ((v = -1 ∧ r = -1) ∨ ∃ b k : Nat, b ≤ 1000 ∧ k ≤ 1000 ∧ v = nI (1001 * b + k) ∧ r = if a1 = 0 then nI b else nI k) ∧ ∀ s, s < 16 → G' s = A s := by
  obtain ⟨hK, hC, G1, G2, E, M, hkd, hnn⟩ := T
  have hFU : 2000 < FU := by rw [FU_eq]; decide
  intro n
  induction n with
  | zero => intro j F G sta low high wc ws wy wm far wst L0 W0 _ h; omega
  | succ n ih =>
    intro j F G sta low high wc ws wy wm far wst L0 W0 hj hn S1 S2 hb hl hst
    rw [show f_ShutWays_round_25 (n + 1) = b_ShutWays_round_25 (f_ShutWays_round_25 n) from rfl, show f_ShutWaysModel_roundOf_8 (n + 1) = b_ShutWaysModel_roundOf_8 (f_ShutWaysModel_roundOf_8 n) from rfl]
    unfold b_ShutWays_round_25 b_ShutWaysModel_roundOf_8
    by_cases c : j = 1001
    · subst c
      obtain ⟨B, u1, u2⟩ := putBack_ok str (nI (d0 + 1001)) (nI K) A G
      unfold f_ShutWaysModel_roundOf_143
      rw [if_pos (show (1000 : Int32) < nI 1001 by decide), if_pos (show (1001 : Int32) ≤ nI 1001 by decide), u1, Option.bind_some]
      exact ⟨_, _, _, _, _, _, _, _, rfl, rfl, Or.inl ⟨rfl, rfl⟩, u2⟩
    · have hj' : j < 1001 := by omega
      generalize hH : hsq fr to ya K mk qu kd nn sh0 d0 hasOdd = hs at *
      have hsj : ∀ t, t < 12 → hs j t = shq fr to ya K mk qu kd nn sh0 d0 j t := by
        intro t ht
        rw [← hH]
        unfold hsq
        rw [if_pos ht]
      have hs12 : ∀ i, hs i 12 = if hasOdd = 0 then 0 else (d0 + i) % 2 := by
        intro i
        rw [← hH]
        unfold hsq
        rw [if_neg (by decide)]
      have h12 : ∀ i, hs i 12 ≤ 1 := by
        intro i
        rw [hs12 i]
        split <;> omega
      have hbj : ∀ t, t < 13 → hs j t < 128 := by
        intro t ht
        by_cases e : t = 12
        · have := h12 j; rw [e]; omega
        · rw [hsj t (by omega)]
          have := (S1 t (by omega)).1
          omega
      have hF : ∀ t, t < 12 → F t = nI (hs j t) ∧ hs j t < 128 := fun t ht => ⟨by rw [hsj t ht]; exact (S1 t (by omega)).2.1, hbj t (by omega)⟩
      have hGs : ∀ t, t < 12 → G t = nI (hs j t) := fun t ht => by rw [hsj t ht]; exact (S2 t (by omega)).2.1
      have hturn : f_Plan_turnOf (nI (d0 + j)) hasOdd = some (nI (hs j 12)) := by
        rw [hs12 j]
        unfold f_Plan_turnOf f_Plan_turnOf_14
        by_cases q : hasOdd = 0
        · rw [if_pos q, if_pos q]; rfl
        · rw [if_neg q, if_neg q, nI_par (by omega)]
      have htn : (if tw = 0 then (0 : Int32) else nI (d0 + j) - nI (d0 + j) / 2 * 2) = nI (hs j 12) := by
        rw [hs12 j]
        rcases hod with ⟨q1, q2⟩ | ⟨q1, q2⟩
        · rw [if_pos q2, if_pos q1]; rfl
        · rw [if_neg (by rw [q2]; exact one_ne), if_neg (by rw [q1]; exact one_ne), nI_rem2 (by omega)]
      have hbA : ∀ i, i ≤ j → (∀ t, t < 13 → hs i t < 128) ∧ hs i 12 ≤ 1 := by
        intro i hi
        refine ⟨?_, h12 i⟩
        by_cases e : i = j
        · rw [e]; exact hbj
        · exact hb i (by omega)
      have hlA : ∀ i, i ≤ j → vp_updL low j (lN (loc (hs j))) i = lN (loc (hs i)) ∧ vp_updL high j (lN (hic (hs j))) i = lN (hic (hs i)) := by
        intro i hi
        by_cases e : i = j
        · rw [e, pk_uLs, pk_uLs]; exact ⟨rfl, rfl⟩
        · rw [pk_uLn e, pk_uLn e]; exact hl i (by omega)
      obtain ⟨F', far', wst', w1, w2, w3, w4, w5, w6, w7⟩ := pass_ok hK hC G1 S1 E hkd hnn (show d0 + j < 100000 by omega) wc ws wy far wst
      obtain ⟨L', G', W', v1, v2, v3⟩ := goNight_ok hK hC G2 S2 E M hkd hnn (show d0 + j < 100000 by omega) w3 w5 ct wm L0 W0
      obtain ⟨sta', r1, r2, r3⟩ := rs22 (C := C) (K := K) (kd := kd) (nn := nn) (mf := mf) (mt := mt) (my := my) (en := en) hj' hGs htn (f_ShutWaysModel_roundOf_8 n) str wm ct A L0 W0 FU 0 sta (by decide) (by omega) (fun t ht => absurd ht (Nat.not_lt_zero _))
      have hstA : ∀ i, i ≤ j → ∀ t, t < 13 → sta' (13 * i + t) = nI (hs i t) := by
        intro i hi t ht
        by_cases e : i = j
        · rw [e]; exact r2 t ht
        · rw [r3 _ (by omega)]; exact hst i (by omega) t ht
      have r4 := rl82 (C := C) (K := K) (kd := kd) (nn := nn) (mf := mf) (mt := mt) (my := my) (en := en) (tw := tw) hj' (fun i hi => (hbA i hi).1) hstA (f_ShutWaysModel_roundOf_8 n) str wm (nI (d0 + j)) ct A G L0 W0 FU 0 (Nat.zero_le _) (by omega)
      rw [nI_0] at r1 r4
      rw [if_neg (show ¬ (1000 : Int32) < nI j from nI_nlt (a := 1000) (by omega) (by decide)), if_neg (show ¬ (1001 : Int32) ≤ nI j from nI_ge (b := 1001) (by omega) (by decide)), if_pos rfl, r1, r4, hturn, Option.bind_some, put_ok hj' hF (h12 j), Option.bind_some]
      dsimp only
      rw [like_ok hj' hbA hlA, Option.bind_some, w1, Option.bind_some]
      dsimp only
      unfold f_ShutWaysModel_roundOf_121 f_ShutWaysModel_roundOf_136
      have hyI : (-1 : Int32) ≤ yI (dy fr to ya K mk qu (shq fr to ya K mk qu kd nn sh0 d0 j) (d0 + j)) := by
        unfold yI
        split
        · exact Int32.le_of_lt (Int32.lt_of_lt_of_le (show (-1 : Int32) < 0 by decide) (nI_pos' (by have : FARn = 1000000 := rfl; omega)))
        · exact Int32.le_refl _
      rw [v1, Option.bind_some]
      dsimp only
      rw [if_pos hyI, Nat.sub_zero, nI_1]
      have sp := lst_spec (fun b => lkb (hs b) (hs j) 13) j 0
      generalize lst (fun b => lkb (hs b) (hs j) 13) j 0 = b at *
      clear r1 r4
      by_cases q : b < j
      · rw [if_neg (nI_ge q (by omega)), if_pos q]
        obtain ⟨n', rfl⟩ : ∃ n', n = n' + 1 := ⟨n - 1, by omega⟩
        obtain ⟨B, u1, u2⟩ := putBack_ok str (nI (d0 + j + 1)) (nI K) A G'
        rw [show f_ShutWaysModel_roundOf_8 (n' + 1) = b_ShutWaysModel_roundOf_8 (f_ShutWaysModel_roundOf_8 n') from rfl]
        unfold b_ShutWaysModel_roundOf_8 f_ShutWaysModel_roundOf_143 f_ShutWays_round_83
        rw [if_neg (nI_m1 (show 1001 * b + (j - b) < 2 ^ 31 by omega)), ite_self, u1, Option.bind_some]
        by_cases z : a1 = 0
        · rw [if_pos z]
          exact ⟨_, _, _, _, _, _, _, _, rfl, rfl, Or.inr ⟨b, j - b, by omega, by omega, rfl, (if_pos z).symm⟩, u2⟩
        · rw [if_neg z, pk_sub (by omega)]
          exact ⟨_, _, _, _, _, _, _, _, rfl, rfl, Or.inr ⟨b, j - b, by omega, by omega, rfl, (if_neg z).symm⟩, u2⟩
      · rw [if_pos (nI_le (by omega) (by omega)), if_neg q]
        rw [Nat.add_assoc d0 j 1]
        refine ih (j + 1) F' G' sta' _ _ _ _ _ _ _ _ _ _ (by omega) (by omega) w2 v2 (fun i hi => (hbA i (by omega)).1) (fun i hi => hlA i (by omega)) (fun i hi => hstA i (by omega))
end RoundSim
section Core9
variable {C K : Nat} {corners market quay hasOdd oddM oddQ kind nights cart sc : Int32} {sf st sy sp : Nat → Int32} {lc : Int32} {lf lt ly lp : Nat → Int32} {mcorners mstreets mtwice mcouncil mnights mlanes mcart mall : Int32} {mfrom mto myards mprice mend mlane : Nat → Int32} {gone mday : Int32} {shut mshut : Nat → Int32}
theorem round_core (hP : IPlan C K corners market quay hasOdd oddM oddQ kind nights cart sc sf st sy sp lc lf lt ly lp mcorners mstreets mtwice mcouncil mnights mlanes mcart mall mfrom mto myards mprice mend mlane) (hD : IDays K gone shut mday mshut) (a1 tg wc ws wy wm : Int32) (low high : Nat → Int64) (tsh far wst A sta L0 W0 : Nat → Int32) :
    ∃ r1, f_ShutWays_round a1 tg gone 16 shut 16 tsh market quay hasOdd oddM oddQ kind nights 1001 low 1001 high wc ws wy sc 8 far 16 sf 16 st 16 sy 8 wst = some r1 ∧ ∃ r2, f_ShutWaysModel_round a1 mcorners mstreets mtwice mcouncil mnights mcart mday mall wm 17 A 16 mshut 13013 sta 8 L0 4 mend 16 myards 16 mfrom 16 mto 16 W0 = some r2 ∧ r1.1 = r2.1 ∧ IDays K gone shut r2.2.1 r2.2.2.2.2.2.1 ∧ r2.2.2.1 = nI K := by
  obtain ⟨fr, to, ya, mk, qu, kd, nn, ct, T, e1, e2, e3, e4, -, e6, -⟩ := hP.tw
  obtain ⟨-, ⟨-, e8⟩, ⟨e9, e10, e11⟩, -, -, -, hO, -⟩ := hP
  obtain ⟨d, sh, hd, e12, e13, S1, S2⟩ := id hD.g
  subst e1; subst e2; subst e3; subst e4; subst e6; subst e8; subst e9; subst e10; subst e11; subst e12; subst e13
  have hod : (hasOdd = 0 ∧ mtwice = 0) ∨ (hasOdd = 1 ∧ mtwice = 1) := by
    rcases hO with h | ⟨h, h', -⟩
    · exact Or.inl h
    · exact Or.inr ⟨h, h'⟩
  have hFU : 2000 < FU := by rw [FU_eq]; decide
  obtain ⟨A', a2, a3, a4⟩ := aside_ok (nI d) A mshut
  obtain ⟨H, c1, c2⟩ := copy_ok tg (nI d) shut tsh
  unfold f_ShutWays_round f_ShutWaysModel_round f_ShutWaysModel_roundOf f_ShutWaysModel_round_43
  generalize FU = M0 at hFU ⊢
  rw [outside_ok, in_ok, Option.bind_some, Option.bind_some]
  by_cases c : a1 < 0 ∨ 1 < a1
  · rw [if_pos c, if_pos c, if_neg one_ne, if_pos rfl]
    exact ⟨_, rfl, _, rfl, rfl, hD, rfl⟩
  · rw [if_neg c, if_neg c, if_pos rfl, if_neg one_ne, a2, c1, Option.bind_some, Option.bind_some]
    obtain ⟨r, q1, v, wm', G', sta', L', W', u1, u2, u3, u4⟩ := round_sim T hod ct a1 (nI d) (nI K) shut A' sh hd M0 0 H mshut sta low high wc ws wy wm far wst L0 W0 (Nat.zero_le _) (by omega) (S1.congr c2) S2 (fun i hi => absurd hi (Nat.not_lt_zero _)) (fun i hi => absurd hi (Nat.not_lt_zero _)) (fun i hi => absurd hi (Nat.not_lt_zero _))
    rw [nI_0, Nat.add_zero] at u1 u2
    rw [u1, u2, Option.bind_some]
    dsimp only
    have hdays : IDays K (nI d) shut (A' 16) G' := by
      rw [a3]
      exact IDays.of hd S1 (S2.congr (fun s hs => (u4 s hs).trans (a4 s hs)))
    rcases u3 with ⟨rfl, rfl⟩ | ⟨b, k, hb, hk, rfl, hr⟩
    · rw [if_pos rfl]
      exact ⟨_, rfl, _, rfl, rfl, hdays, rfl⟩
    · rw [if_neg (nI_m1 (by omega))]
      by_cases z : a1 = 0
      · rw [if_pos z] at hr ⊢
        refine ⟨_, rfl, _, rfl, ?_, hdays, rfl⟩
        show r = nI (1001 * b + k) / 1001
        rw [hr, show nI (1001 * b + k) / 1001 = nI ((1001 * b + k) / 1001) from pk_div (d := 1001) (by omega) (by decide) (by decide)]
        congr 1
        omega
      · rw [if_neg z] at hr ⊢
        refine ⟨_, rfl, _, rfl, ?_, hdays, rfl⟩
        show r = nI (1001 * b + k) - nI (1001 * b + k) / 1001 * 1001
        rw [hr, show nI (1001 * b + k) - nI (1001 * b + k) / 1001 * 1001 = nI ((1001 * b + k) % 1001) from pk_rem (d := 1001) (by omega) (by decide) (by decide)]
        congr 1
        omega
end Core9
theorem pl_round : PL_round INV := by
  intro x m a1 hI
  obtain ⟨C, K, hT, hP, hD, h0, h1, hN⟩ := hI
  obtain ⟨r1, u1, r2, u2, u3, u4, u5⟩ := round_core hP hD a1 x.2.2.2.2.2.2.2.2.2.1.1 x.2.2.2.2.2.2.2.2.2.2.2.2.2.2.2.2.2.2.1.1 x.2.2.2.2.2.2.2.2.2.2.2.2.2.2.2.2.2.2.1.2.1 x.2.2.2.2.2.2.2.2.2.2.2.2.2.2.2.2.2.2.1.2.2.1 m.1.2.2.2.2.2.2.2.2.2.2.2 x.2.2.2.2.2.2.2.2.2.2.2.2.2.2.2.2.2.2.2.1 x.2.2.2.2.2.2.2.2.2.2.2.2.2.2.2.2.2.2.2.2 x.2.2.2.2.2.2.2.2.2.1.2 x.2.2.2.2.2.2.2.2.2.2.2.2.2.2.2.2.2.2.1.2.2.2.2 x.2.2.2.2.2.2.2.2.2.2.2.2.2.2.2.2.2.2.1.2.2.2.1 m.2.2.2.2.1.2.1 m.2.2.2.2.2.2.2.1 m.2.2.2.2.2.1 m.2.2.2.2.2.2.1
  exact ⟨r1, u1, r2, u2, u3, C, K, hT, hP.all u5, u4, h0, h1, hN⟩
