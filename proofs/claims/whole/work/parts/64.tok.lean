/-! ===== tokens ===== -/
def TX (n : Nat) (b : Nat → Nat) (B S T : Nat → Int32) : Prop := n ≤ 200 ∧ ∀ i, i < n → b i < 256 ∧ B i = nI (b i) ∧ S i = nI (srt (b i)) ∧ T i = nI (b i)
def sk (n : Nat) (b : Nat → Nat) (a : Nat) : Nat := lst (fun i => decide (b i ≠ 32)) (n - a) a
def tk (n : Nat) (b : Nat → Nat) (s : Nat) : Nat := if s = n then 4 else srt (b s)
def te (n : Nat) (b : Nat → Nat) (s : Nat) : Nat := if s = n then s else if srt (b s) = 2 then s + 1 else lst (fun i => decide (srt (b i) ≠ srt (b s))) (n - s) s
/-- the number that up to two digits are -/
def nm (b : Nat → Nat) (s e : Nat) : Nat := if e = s then 0 else if e = s + 1 then b s - 48 else (b s - 48) * 10 + (b (s + 1) - 48)
def wv (b : Nat → Nat) (s : Nat) : Nat → Nat
  | 0 => 0
  | k + 1 => 27 * wv b s k + (b (s + k) - 96)
theorem srt_le (b : Nat) : srt b ≤ 3 := by
  unfold srt
  repeat' split
  all_goals omega
theorem srt_0 (b : Nat) : srt b = 0 ↔ 97 ≤ b ∧ b ≤ 122 := by
  unfold srt
  constructor
  · intro h
    split at h
    · assumption
    · split at h
      · cases h
      · split at h <;> cases h
  · intro h
    rw [if_pos h]
theorem srt_1 (b : Nat) : srt b = 1 ↔ 48 ≤ b ∧ b ≤ 57 := by
  unfold srt
  constructor
  · intro h
    split at h
    · cases h
    · split at h
      · assumption
      · split at h <;> cases h
  · intro h
    rw [if_neg (by omega), if_pos h]
theorem srt_3 (b : Nat) : srt b = 3 ↔ b = 32 := by
  unfold srt
  constructor
  · intro h
    split at h
    · cases h
    · split at h
      · cases h
      · split at h
        · assumption
        · cases h
  · intro h
    rw [if_neg (by omega), if_neg (by omega), if_pos h]
theorem lst_one (p : Nat → Bool) {n i : Nat} (h : i < n) : lst p (n - i) i = if p i = true then i else lst p (n - (i + 1)) (i + 1) := by
  rw [show n - i = (n - (i + 1)) + 1 by omega]
  rfl
theorem lst_end (p : Nat → Bool) (n : Nat) : lst p (n - n) n = n := by
  rw [Nat.sub_self]
  rfl
section Tok
variable {n : Nat} {b : Nat → Nat} {B S T : Nat → Int32}
theorem sk_le {a : Nat} (h : a ≤ n) : a ≤ sk n b a ∧ sk n b a ≤ n := by
  obtain ⟨h1, h2, -, -⟩ := lst_spec (fun i => decide (b i ≠ 32)) (n - a) a
  unfold sk
  omega
theorem sk_ne {a : Nat} (h : a ≤ n) (h2 : sk n b a ≠ n) : b (sk n b a) ≠ 32 := by
  obtain ⟨h3, h4, -, h5⟩ := lst_spec (fun i => decide (b i ≠ 32)) (n - a) a
  have h6 := (sk_le (b := b) h).2
  have h7 := h5 (by unfold sk at h2 h6; omega)
  unfold sk
  simpa using h7
theorem te_le {s : Nat} (h : s ≤ n) : s ≤ te n b s ∧ te n b s ≤ n ∧ (s ≠ n → s < te n b s) := by
  unfold te
  by_cases c : s = n
  · rw [if_pos c]
    omega
  · rw [if_neg c]
    by_cases c2 : srt (b s) = 2
    · rw [if_pos c2]
      omega
    · rw [if_neg c2, lst_one _ (show s < n by omega)]
      obtain ⟨h3, h4, -, -⟩ := lst_spec (fun i => decide (srt (b i) ≠ srt (b s))) (n - (s + 1)) (s + 1)
      rw [if_neg (by simp)]
      omega
theorem te_all {s i : Nat} (h : s ≤ n) (hi : s ≤ i) (hi2 : i < te n b s) (h2 : tk n b s ≠ 2) : srt (b i) = tk n b s := by
  unfold te at hi2
  unfold tk at h2 ⊢
  by_cases c : s = n
  · rw [if_pos c] at hi2; omega
  · rw [if_neg c] at hi2 h2 ⊢
    rw [if_neg h2] at hi2
    obtain ⟨-, -, h3, -⟩ := lst_spec (fun i => decide (srt (b i) ≠ srt (b s))) (n - s) s
    have := h3 i hi hi2
    simpa using this
theorem rt0 (X : TX n b B S T) (so sta va : Int32) : ∀ m a, a ≤ n → n - a < m → f_Text_readToken_0 m (nI n) so sta (nI a) va 200 S 200 B = f_Text_readToken_37 (nI n) so sta (nI (sk n b a)) va 200 S 200 B := by
  intro m
  induction m with
  | zero => intro a _ h; omega
  | succ m ih =>
    intro a ha hm
    rw [show f_Text_readToken_0 (m + 1) = b_Text_readToken_0 (f_Text_readToken_0 m) from rfl]
    unfold b_Text_readToken_0 sk
    have hn := X.1
    by_cases c : a = n
    · subst c
      rw [if_pos (nI_le (Nat.le_refl _) (by omega)), lst_end]
    · obtain ⟨x1, x2, x3, x4⟩ := X.2 a (by omega)
      rw [if_neg (nI_ge (by omega) (by omega)), gixN (show a < 200 by omega) (by decide), nIc (by omega), x3, lst_one _ (show a < n by omega)]
      have hs := srt_le (b a)
      by_cases z : b a = 32
      · rw [if_pos (show nI (srt (b a)) = 3 by rw [(srt_3 _).mpr z]; rfl), if_neg (by simpa using z), nI_1]
        exact ih (a + 1) (by omega) (by omega)
      · rw [if_neg (show ¬ nI (srt (b a)) = 3 from nI_ne (b := 3) (by omega) (by decide) (fun q => z ((srt_3 _).mp q))), if_pos (by simpa using z)]
theorem rt100 (X : TX n b B S T) {k s lim : Nat} (hk : k ≤ 4) (hs : s ≤ lim) (hlim : lim ≤ n) : ∀ m a v, s ≤ a → a ≤ lim → lim - a < m → (k = 1 → a - s ≤ 2 → v = nI (nm b s a)) → ∃ v', f_Text_readToken_100 m (nI lim) (nI n) (nI k) (nI s) (nI a) v 200 S 200 B = some (nI k, nI s, nI (lst (fun i => decide (srt (b i) ≠ k)) (lim - a) a), v') ∧ (k = 1 → lst (fun i => decide (srt (b i) ≠ k)) (lim - a) a - s ≤ 2 → v' = nI (nm b s (lst (fun i => decide (srt (b i) ≠ k)) (lim - a) a))) := by
  intro m
  induction m with
  | zero => intro a v _ _ h; omega
  | succ m ih =>
    intro a v hsa ha hm hv
    rw [show f_Text_readToken_100 (m + 1) = b_Text_readToken_100 (f_Text_readToken_100 m) from rfl]
    unfold b_Text_readToken_100
    have hn := X.1
    by_cases c : a = lim
    · subst c
      rw [if_pos (nI_le (Nat.le_refl _) (by omega)), lst_end]
      exact ⟨v, rfl, hv⟩
    · obtain ⟨x1, x2, x3, x4⟩ := X.2 a (by omega)
      have hsr := srt_le (b a)
      rw [if_neg (nI_ge (by omega) (by omega)), gixN (show a < 200 by omega) (by decide), gixN (show a < 200 by omega) (by decide), nIc (by omega), x2, x3, lst_one _ (show a < lim by omega)]
      by_cases z : srt (b a) = k
      · rw [if_pos (by rw [z]), if_neg (by simpa using z), nI_1]
        simp only [nmI]
        refine ih (a + 1) _ (by omega) (by omega) (by omega) ?_
        intro k1 h2
        rw [k1] at z
        have hd := (srt_1 _).mp z
        by_cases e : a = s
        · rw [hv k1 (by omega)]
          subst e
          unfold nm
          rw [if_pos rfl, if_neg (by omega), if_pos rfl, show nI 0 * 10 + nI (b a) - 48 = nI (b a) - nI 48 by rw [show nI 0 * 10 = nI 0 from rfl, nI_add, Nat.zero_add]; rfl]
          exact pk_sub (by omega)
        · have e2 : a = s + 1 := by omega
          rw [hv k1 (by omega)]
          subst e2
          unfold nm
          rw [if_neg (by omega), if_pos rfl, if_neg (by omega), if_neg (by omega), show nI (b s - 48) * 10 = nI ((b s - 48) * 10) from pk_mul _ 10, nI_add, show (48 : Int32) = nI 48 from rfl, pk_sub (by omega)]
          congr 1
          omega
      · rw [if_neg (nI_ne (by omega) (by omega) z), if_pos (by simpa using z)]
        exact ⟨v, rfl, hv⟩
theorem class_tok (X : TX n b B S T) (so sta va : Int32) {a : Nat} (ha : a ≤ n) : ∃ v, f_Text_readToken (nI n) so sta (nI a) va 200 S 200 B = some (nI (tk n b (sk n b a)), nI (sk n b a), nI (te n b (sk n b a)), v) ∧ (tk n b (sk n b a) = 1 → te n b (sk n b a) - sk n b a ≤ 2 → v = nI (nm b (sk n b a) (te n b (sk n b a)))) := by
  have hFU : 300 < FU := by rw [FU_eq]; decide
  have hn := X.1
  obtain ⟨h1, h2⟩ := sk_le (b := b) ha
  unfold f_Text_readToken
  generalize hF : FU = M0 at hFU
  rw [rt0 X so sta va M0 a ha (by omega)]
  generalize sk n b a = s at *
  unfold f_Text_readToken_37 f_Text_readToken_70 f_Text_readToken_99
  rw [hF]
  clear hF
  unfold tk te
  by_cases c : s = n
  · obtain ⟨v, u1, u2⟩ := rt100 X (k := 4) (s := s) (lim := n) (by omega) (by omega) (by omega) M0 s 0 (by omega) (by omega) (by omega) (fun z => by omega)
    rw [c, lst_end] at u1
    rw [if_pos (nI_le (by omega) (by omega)), if_pos c, if_pos c, if_neg (show ¬ (4 : Int32) = 2 by decide), c]
    exact ⟨v, u1, fun z => by omega⟩
  · obtain ⟨x1, x2, x3, x4⟩ := X.2 s (by omega)
    have hsr := srt_le (b s)
    rw [if_neg (nI_ge (by omega) (by omega)), gixN (show s < 200 by omega) (by decide), nIc (by omega), x3, if_neg c, if_neg c]
    by_cases z : srt (b s) = 2
    · obtain ⟨v, u1, u2⟩ := rt100 X (k := 2) (s := s) (lim := s + 1) (by omega) (by omega) (by omega) M0 s 0 (by omega) (by omega) (by omega) (fun z => by omega)
      rw [lst_one _ (show s < s + 1 by omega), if_neg (by simpa using z), lst_end] at u1
      rw [if_pos (show nI (srt (b s)) = 2 by rw [z]; rfl), if_pos z, z, nI_1]
      exact ⟨v, u1, fun q => by omega⟩
    · obtain ⟨v, u1, u2⟩ := rt100 X (k := srt (b s)) (s := s) (lim := n) (by omega) (by omega) (by omega) M0 s 0 (by omega) (by omega) (by omega) (fun _ _ => by unfold nm; rw [if_pos rfl]; rfl)
      rw [if_neg (show ¬ nI (srt (b s)) = 2 from nI_ne (b := 2) (by omega) (by decide) z), if_neg z]
      exact ⟨v, u1, u2⟩
/-- what the reference says of a token -/
def TokS (n : Nat) (b : Nat → Nat) (s : Nat) (t : Int64) (nb : Int32) : Prop := (tk n b s = 4 ∧ t = -2) ∨ (tk n b s = 0 ∧ t = (if te n b s - s ≤ 9 then lN (wv b s (te n b s - s)) else -4)) ∨ (tk n b s = 1 ∧ te n b s - s ≤ 2 ∧ t = -1 ∧ nb = nI (nm b s (te n b s))) ∨ (tk n b s = 1 ∧ 2 < te n b s - s ∧ t = -4) ∨ (tk n b s = 2 ∧ b s = 59 ∧ t = -3) ∨ (tk n b s = 2 ∧ b s ≠ 59 ∧ t = -4)
theorem nt0 (X : TX n b B S T) (ta : Int32) (to : Int64) (dg nb : Int32) : ∀ m a, a ≤ n → n - a < m → f_ShutWaysModel_nextToken_0 m (nI n) (nI a) ta to dg nb 200 T = f_ShutWaysModel_nextToken_38 (nI n) (nI (sk n b a)) ta to dg nb 200 T := by
  intro m
  induction m with
  | zero => intro a _ h; omega
  | succ m ih =>
    intro a ha hm
    rw [show f_ShutWaysModel_nextToken_0 (m + 1) = b_ShutWaysModel_nextToken_0 (f_ShutWaysModel_nextToken_0 m) from rfl]
    unfold b_ShutWaysModel_nextToken_0 sk
    have hn := X.1
    by_cases c : a = n
    · subst c
      rw [if_pos (nI_le (Nat.le_refl _) (by omega)), lst_end]
    · obtain ⟨x1, x2, x3, x4⟩ := X.2 a (by omega)
      rw [if_neg (nI_ge (by omega) (by omega)), gixN (show a < 200 by omega) (by decide), nIc (by omega), x4, lst_one _ (show a < n by omega)]
      simp only [nmI, nI_1]
      by_cases z : b a = 32
      · rw [if_pos (show nI (b a) = 32 by rw [z]; rfl), if_neg (by simpa using z)]
        exact ih (a + 1) (by omega) (by omega)
      · rw [if_neg (show ¬ nI (b a) = 32 from nI_ne (b := 32) (by omega) (by decide) z), if_pos (by simpa using z)]
theorem in_nI {v lo hi : Nat} (hv : v < 2 ^ 31) (hh : hi < 2 ^ 31) (hl : lo ≤ hi) : f_ShutWaysModel_in (nI v) (nI lo) (nI hi) = some (if lo ≤ v ∧ v ≤ hi then 1 else 0) := by
  rw [in_ok]
  by_cases c : lo ≤ v ∧ v ≤ hi
  · rw [if_pos c, if_neg (rng_ok c.1 c.2 hh)]
  · rw [if_neg c, if_pos]
    rcases Nat.lt_or_ge v lo with q | q
    · exact Or.inl (nI_lt q (by omega))
    · exact Or.inr (nI_lt (by omega) hv)
theorem wv_lt {s : Nat} : ∀ k, (∀ i, i < k → b (s + i) ≤ 122) → wv b s k < 27 ^ k
  | 0, _ => by show 0 < 27 ^ 0; decide
  | k + 1, h => by
    have h1 := wv_lt k (fun i hi => h i (by omega))
    have h2 := h k (Nat.lt_succ_self k)
    show 27 * wv b s k + (b (s + k) - 96) < 27 ^ (k + 1)
    rw [Nat.pow_succ]
    omega
theorem nt101 (X : TX n b B S T) {s : Nat} (hs : s ≤ n) (dg nb : Int32) : ∀ m a (to : Int64), s ≤ a → a ≤ n → n - a < m → (a - s ≤ 9 → to = lN (wv b s (a - s))) → f_ShutWaysModel_nextToken_101 m (nI n) (nI a) (nI s) to dg nb 200 T = some (nI (lst (fun i => decide (srt (b i) ≠ 0)) (n - a) a), nI s, (if lst (fun i => decide (srt (b i) ≠ 0)) (n - a) a - s ≤ 9 then lN (wv b s (lst (fun i => decide (srt (b i) ≠ 0)) (n - a) a - s)) else -4), dg, nb) := by
  intro m
  induction m with
  | zero => intro a _ _ _ h; omega
  | succ m ih =>
    intro a to hsa ha hm hto
    rw [show f_ShutWaysModel_nextToken_101 (m + 1) = b_ShutWaysModel_nextToken_101 (f_ShutWaysModel_nextToken_101 m) from rfl]
    unfold b_ShutWaysModel_nextToken_101
    have hn := X.1
    have fin : f_ShutWaysModel_nextToken_191 (nI n) (nI a) (nI s) to dg nb 200 T = some (nI a, nI s, (if a - s ≤ 9 then lN (wv b s (a - s)) else -4), dg, nb) := by
      unfold f_ShutWaysModel_nextToken_191 f_ShutWaysModel_nextToken_216
      rw [pk_sub hsa]
      by_cases q : a - s ≤ 9
      · rw [if_pos (show nI (a - s) ≤ 9 from nI_le (b := 9) q (by decide)), if_pos q, hto q]
      · rw [if_neg (show ¬ nI (a - s) ≤ 9 from nI_ge (a := 9) (by omega) (by omega)), if_neg q]
    by_cases c : a = n
    · rw [if_pos (nI_le (by omega) (by omega)), fin, c, lst_end]
    · obtain ⟨x1, x2, x3, x4⟩ := X.2 a (by omega)
      rw [if_neg (nI_ge (by omega) (by omega)), gixN (show a < 200 by omega) (by decide), nIc (by omega), x4, show f_ShutWaysModel_in (nI (b a)) 97 122 = _ from in_nI (lo := 97) (hi := 122) (by omega) (by decide) (by decide), Option.bind_some, lst_one _ (show a < n by omega)]
      by_cases z : srt (b a) = 0
      · have hb := (srt_0 _).mp z
        rw [if_pos hb, if_neg one_ne, if_neg (show ¬ decide (srt (b a) ≠ 0) = true by simpa using z), pk_sub hsa]
        unfold f_ShutWaysModel_nextToken_175
        simp only [nmI, nI_1, gixN (show a < 200 by omega) (by decide : 200 < 2 ^ 31)]
        by_cases q : 9 ≤ a - s
        · rw [if_pos (show (9 : Int32) ≤ nI (a - s) from nI_le (a := 9) q (by omega))]
          exact ih (a + 1) _ (by omega) (by omega) (by omega) (fun z => by omega)
        · rw [if_neg (show ¬ (9 : Int32) ≤ nI (a - s) from nI_ge (b := 9) (by omega) (by decide))]
          refine ih (a + 1) _ (by omega) (by omega) (by omega) (fun _ => ?_)
          rw [hto (by omega), nI_l (by omega), show (27 : Int64) * lN (wv b s (a - s)) = lN (27 * wv b s (a - s)) from lN_mul 27 _, lN_add, show (96 : Int64) = lN 96 from rfl, lN_sub (by omega), show a + 1 - s = (a - s) + 1 by omega]
          show _ = lN (27 * wv b s (a - s) + (b (s + (a - s)) - 96))
          rw [show s + (a - s) = a by omega]
          congr 1
          omega
      · rw [if_neg (fun q => z ((srt_0 _).mpr q)), if_pos rfl, if_pos (show decide (srt (b a) ≠ 0) = true by simpa using z), fin]
theorem nt241 (X : TX n b B S T) {s : Nat} (hs : s ≤ n) (to : Int64) : ∀ m a (nb : Int32), s ≤ a → a ≤ n → n - a < m → (a - s ≤ 2 → nb = nI (nm b s a)) → ∃ nb', f_ShutWaysModel_nextToken_241 m (nI n) (nI a) (nI s) to (nI (a - s)) nb 200 T = some (nI (lst (fun i => decide (srt (b i) ≠ 1)) (n - a) a), nI s, (if lst (fun i => decide (srt (b i) ≠ 1)) (n - a) a - s ≤ 2 then -1 else -4), nI (lst (fun i => decide (srt (b i) ≠ 1)) (n - a) a - s), nb') ∧ (lst (fun i => decide (srt (b i) ≠ 1)) (n - a) a - s ≤ 2 → nb' = nI (nm b s (lst (fun i => decide (srt (b i) ≠ 1)) (n - a) a))) := by
  intro m
  induction m with
  | zero => intro a _ _ _ h; omega
  | succ m ih =>
    intro a nb hsa ha hm hnb
    rw [show f_ShutWaysModel_nextToken_241 (m + 1) = b_ShutWaysModel_nextToken_241 (f_ShutWaysModel_nextToken_241 m) from rfl]
    unfold b_ShutWaysModel_nextToken_241
    have hn := X.1
    have fin : f_ShutWaysModel_nextToken_333 (nI n) (nI a) (nI s) to (nI (a - s)) nb 200 T = some (nI a, nI s, (if a - s ≤ 2 then -1 else -4), nI (a - s), nb) := by
      unfold f_ShutWaysModel_nextToken_333 f_ShutWaysModel_nextToken_351
      by_cases q : a - s ≤ 2
      · rw [if_pos (show nI (a - s) ≤ 2 from nI_le (b := 2) q (by decide)), if_pos q]
      · rw [if_neg (show ¬ nI (a - s) ≤ 2 from nI_ge (a := 2) (by omega) (by omega)), if_neg q]
    by_cases c : a = n
    · rw [if_pos (nI_le (by omega) (by omega)), fin, c, lst_end]
      rw [c] at hnb
      exact ⟨nb, rfl, hnb⟩
    · obtain ⟨x1, x2, x3, x4⟩ := X.2 a (by omega)
      rw [if_neg (nI_ge (by omega) (by omega)), gixN (show a < 200 by omega) (by decide), nIc (by omega), x4, show f_ShutWaysModel_in (nI (b a)) 48 57 = _ from in_nI (lo := 48) (hi := 57) (by omega) (by decide) (by decide), Option.bind_some, lst_one _ (show a < n by omega)]
      by_cases z : srt (b a) = 1
      · have hb := (srt_1 _).mp z
        rw [if_pos hb, if_neg one_ne, if_neg (show ¬ decide (srt (b a) ≠ 1) = true by simpa using z)]
        unfold f_ShutWaysModel_nextToken_307
        simp only [nmI, nI_1, gixN (show a < 200 by omega) (by decide : 200 < 2 ^ 31)]
        rw [show a - s + 1 = a + 1 - s by omega]
        by_cases q : 2 ≤ a - s
        · rw [if_pos (show (2 : Int32) ≤ nI (a - s) from nI_le (a := 2) q (by omega))]
          exact ih (a + 1) _ (by omega) (by omega) (by omega) (fun z => by omega)
        · rw [if_neg (show ¬ (2 : Int32) ≤ nI (a - s) from nI_ge (b := 2) (by omega) (by decide))]
          refine ih (a + 1) _ (by omega) (by omega) (by omega) (fun _ => ?_)
          rw [hnb (by omega)]
          by_cases e : a = s
          · subst e
            unfold nm
            rw [if_pos rfl, if_neg (by omega), if_pos rfl, show (10 : Int32) * nI 0 + nI (b a) - 48 = nI (b a) - nI 48 by rw [show (10 : Int32) * nI 0 = nI 0 from rfl, nI_add, Nat.zero_add]; rfl]
            exact pk_sub (by omega)
          · have e2 : a = s + 1 := by omega
            subst e2
            unfold nm
            rw [if_neg (by omega), if_pos rfl, if_neg (by omega), if_neg (by omega), show (10 : Int32) * nI (b s - 48) = nI (10 * (b s - 48)) from pk_mul 10 _, nI_add, show (48 : Int32) = nI 48 from rfl, pk_sub (by omega)]
            congr 1
            omega
      · rw [if_neg (fun q => z ((srt_1 _).mpr q)), if_pos rfl, if_pos (show decide (srt (b a) ≠ 1) = true by simpa using z), fin]
        exact ⟨nb, rfl, hnb⟩
theorem model_tok (X : TX n b B S T) (ta : Int32) (to : Int64) (dg nb : Int32) {a : Nat} (ha : a ≤ n) : ∃ (t : Int64) (dg' nb' : Int32), f_ShutWaysModel_nextToken (nI n) (nI a) ta to dg nb 200 T = some (nI (te n b (sk n b a)), nI (sk n b a), t, dg', nb') ∧ TokS n b (sk n b a) t nb' := by
  have hFU : 300 < FU := by rw [FU_eq]; decide
  have hn := X.1
  obtain ⟨h1, h2⟩ := sk_le (b := b) ha
  have h3 := sk_ne (b := b) ha
  unfold f_ShutWaysModel_nextToken
  generalize hF : FU = M0 at hFU
  rw [nt0 X ta to dg nb M0 a ha (by omega)]
  generalize sk n b a = s at *
  unfold f_ShutWaysModel_nextToken_38
  rw [hF]
  clear hF
  unfold TokS tk te
  by_cases c : s = n
  · rw [if_pos (by rw [c]), if_pos c, if_pos c]
    exact ⟨_, _, _, rfl, Or.inl ⟨rfl, rfl⟩⟩
  · obtain ⟨x1, x2, x3, x4⟩ := X.2 s (by omega)
    have hsr := srt_le (b s)
    have h32 := h3 c
    rw [if_neg (nI_ne (by omega) (by omega) c), gixN (show s < 200 by omega) (by decide), gixN (show s < 200 by omega) (by decide), gixN (show s < 200 by omega) (by decide), nIc (by omega), x4, show f_ShutWaysModel_in (nI (b s)) 97 122 = _ from in_nI (lo := 97) (hi := 122) (by omega) (by decide) (by decide), Option.bind_some, show f_ShutWaysModel_in (nI (b s)) 48 57 = _ from in_nI (lo := 48) (hi := 57) (by omega) (by decide) (by decide), Option.bind_some, if_neg c, if_neg c]
    by_cases z0 : srt (b s) = 0
    · have u := nt101 X h2 0 0 M0 s 0 (Nat.le_refl _) h2 (by omega) (fun _ => by rw [Nat.sub_self]; rfl)
      rw [if_pos ((srt_0 _).mp z0), if_neg one_ne, u, z0, if_neg (show ¬ (0 : Nat) = 2 by decide)]
      exact ⟨_, _, _, rfl, Or.inr (Or.inl ⟨rfl, rfl⟩)⟩
    · rw [if_neg (fun q => z0 ((srt_0 _).mpr q)), if_pos rfl]
      by_cases z1 : srt (b s) = 1
      · obtain ⟨nb', u1, u2⟩ := nt241 X h2 to M0 s 0 (Nat.le_refl _) h2 (by omega) (fun _ => by unfold nm; rw [if_pos rfl]; rfl)
        rw [Nat.sub_self, nI_0] at u1
        rw [if_pos ((srt_1 _).mp z1), if_neg one_ne, u1, z1, if_neg (show ¬ (1 : Nat) = 2 by decide)]
        by_cases q : lst (fun i => decide (srt (b i) ≠ 1)) (n - s) s - s ≤ 2
        · refine ⟨_, _, _, rfl, Or.inr (Or.inr (Or.inl ⟨rfl, q, if_pos q, u2 q⟩))⟩
        · refine ⟨_, _, _, rfl, Or.inr (Or.inr (Or.inr (Or.inl ⟨rfl, by omega, if_neg q⟩)))⟩
      · have z2 : srt (b s) = 2 := by
          have : srt (b s) ≠ 3 := fun q => h32 ((srt_3 _).mp q)
          omega
        unfold f_ShutWaysModel_nextToken_381
        rw [if_neg (fun q => z1 ((srt_1 _).mpr q)), if_pos rfl, if_pos z2, z2]
        simp only [nmI, nI_1]
        by_cases q : b s = 59
        · rw [if_pos (show nI (b s) = 59 by rw [q]; rfl)]
          exact ⟨_, _, _, rfl, Or.inr (Or.inr (Or.inr (Or.inr (Or.inl ⟨trivial, q, rfl⟩))))⟩
        · rw [if_neg (show ¬ nI (b s) = 59 from nI_ne (b := 59) (by omega) (by decide) q)]
          exact ⟨_, _, _, rfl, Or.inr (Or.inr (Or.inr (Or.inr (Or.inr ⟨trivial, q, rfl⟩))))⟩
end Tok
