/-! ===== chosen: the value of a night that may be chosen ===== -/
def opt (g : Bool) (a b : Nat) : Nat := if g = true then (if a < b then b else a) else (if b < a then b else a)
def optL (g : Bool) (V : Nat → Nat) : List Nat → Nat
  | [] => 0
  | s :: t => t.foldl (fun a u => opt g a (V u)) (V s)
def lpk (L : List Nat) : List Nat := if L = [] then [99] else L
def yvl (y : Nat) : Nat := if y < FARn then y else 999
section ValDef
variable (fr to ya : Nat → Nat) (K : Nat) (mk qu : Nat → Nat) (nn : Nat) (g : Bool)
def Val : Nat → (Nat → Nat) → Nat → Nat
  | 0, sh, d => yvl (dy fr to ya K mk qu sh d)
  | m + 1, sh, d => yvl (dy fr to ya K mk qu sh d) + optL g (fun s => Val m (nx nn s sh) (d + 1)) (lpk (dw fr to ya K mk qu sh d))
end ValDef
theorem yvl_lt (y : Nat) : yvl y < 1000000 := by
  unfold yvl
  have : FARn = 1000000 := rfl
  split <;> omega
theorem opt_mem (g : Bool) (a b : Nat) : opt g a b = a ∨ opt g a b = b := by
  unfold opt
  split <;> split <;> simp
theorem optL_mem {g : Bool} {V : Nat → Nat} : ∀ (t : List Nat) (a : Nat), t.foldl (fun a u => opt g a (V u)) a = a ∨ ∃ u, u ∈ t ∧ t.foldl (fun a u => opt g a (V u)) a = V u
  | [], a => Or.inl rfl
  | u :: t, a => by
    rcases optL_mem (g := g) (V := V) t (opt g a (V u)) with h | ⟨w, w1, w2⟩
    · rcases opt_mem g a (V u) with e | e
      · exact Or.inl (h.trans e)
      · exact Or.inr ⟨u, List.mem_cons_self .., h.trans e⟩
    · exact Or.inr ⟨w, List.mem_cons_of_mem _ w1, w2⟩
def bet (g : Bool) (a b : Nat) : Prop := if g = true then a ≤ b else b ≤ a
theorem opt_bet (g : Bool) (a b : Nat) : bet g a (opt g a b) ∧ bet g b (opt g a b) := by
  unfold bet opt
  cases g
  · simp only [Bool.false_eq_true, if_false]
    split <;> omega
  · simp only [if_true]
    split <;> omega
theorem bet_trans {g : Bool} {a b c : Nat} (h1 : bet g a b) (h2 : bet g b c) : bet g a c := by
  unfold bet at *
  cases g
  · simp only [Bool.false_eq_true, if_false] at *
    omega
  · simp only [if_true] at *
    omega
theorem bet_refl (g : Bool) (a : Nat) : bet g a a := by
  unfold bet
  split <;> exact Nat.le_refl _
theorem bet_anti {g : Bool} {a b : Nat} (h1 : bet g a b) (h2 : bet g b a) : a = b := by
  unfold bet at *
  cases g
  · simp only [Bool.false_eq_true, if_false] at *
    omega
  · simp only [if_true] at *
    omega
theorem optL_bet {g : Bool} {V : Nat → Nat} : ∀ (t : List Nat) (a : Nat), bet g a (t.foldl (fun a u => opt g a (V u)) a) ∧ ∀ u, u ∈ t → bet g (V u) (t.foldl (fun a u => opt g a (V u)) a)
  | [], a => ⟨bet_refl g a, fun u hu => by cases hu⟩
  | u :: t, a => by
    obtain ⟨h1, h2⟩ := optL_bet (g := g) (V := V) t (opt g a (V u))
    refine ⟨bet_trans (opt_bet g a (V u)).1 h1, fun w hw => ?_⟩
    rcases List.mem_cons.mp hw with e | e
    · rw [e]; exact bet_trans (opt_bet g a (V u)).2 h1
    · exact h2 w e
def IsO (g : Bool) (V : Nat → Nat) (P : Nat → Prop) (r : Nat) : Prop := (∃ s, P s ∧ r = V s) ∧ ∀ s, P s → bet g (V s) r
theorem IsO.uniq {g : Bool} {V : Nat → Nat} {P : Nat → Prop} {r r' : Nat} (h : IsO g V P r) (h' : IsO g V P r') : r = r' := by
  obtain ⟨⟨s, s1, s2⟩, s3⟩ := h
  obtain ⟨⟨t, t1, t2⟩, t3⟩ := h'
  have a1 := s3 t t1
  have a2 := t3 s s1
  rw [← t2] at a1
  rw [← s2] at a2
  exact bet_anti a2 a1
theorem optL_is {g : Bool} {V : Nat → Nat} {L : List Nat} (h : L ≠ []) : IsO g V (fun s => s ∈ L) (optL g V L) := by
  cases L with
  | nil => exact absurd rfl h
  | cons s t =>
    show IsO g V _ (t.foldl (fun a u => opt g a (V u)) (V s))
    obtain ⟨h1, h2⟩ := optL_bet (g := g) (V := V) t (V s)
    refine ⟨?_, ?_⟩
    · rcases optL_mem (g := g) (V := V) t (V s) with e | ⟨u, u1, u2⟩
      · exact ⟨s, List.mem_cons_self .., e⟩
      · exact ⟨u, List.mem_cons_of_mem _ u1, u2⟩
    · intro u hu
      rcases List.mem_cons.mp hu with e | e
      · rw [e]; exact h1
      · exact h2 u e
theorem lpk_ne (L : List Nat) : lpk L ≠ [] := by
  unfold lpk
  by_cases c : L = []
  · rw [if_pos c]; exact List.cons_ne_nil _ _
  · rw [if_neg c]; exact c
section ValT
variable {fr to ya : Nat → Nat} {K : Nat} {mk qu : Nat → Nat} {nn : Nat} {g : Bool}
theorem Val_lt : ∀ (m : Nat) (sh : Nat → Nat) (d : Nat), Val fr to ya K mk qu nn g m sh d < 1000000 * (m + 1)
  | 0, sh, d => by
    show yvl _ < _
    have := yvl_lt (dy fr to ya K mk qu sh d)
    omega
  | m + 1, sh, d => by
    show yvl (dy fr to ya K mk qu sh d) + optL g (fun s => Val fr to ya K mk qu nn g m (nx nn s sh) (d + 1)) (lpk (dw fr to ya K mk qu sh d)) < _
    have h1 := yvl_lt (dy fr to ya K mk qu sh d)
    obtain ⟨⟨s, s1, s2⟩, -⟩ := optL_is (g := g) (V := fun s => Val fr to ya K mk qu nn g m (nx nn s sh) (d + 1)) (lpk_ne (dw fr to ya K mk qu sh d))
    have h2 := Val_lt m (nx nn s sh) (d + 1)
    rw [s2]
    show yvl (dy fr to ya K mk qu sh d) + Val fr to ya K mk qu nn g m (nx nn s sh) (d + 1) < _
    omega
end ValT
/-- best so far -/
def Bo (g : Bool) (V : Nat → Nat) (L : List Nat) (s : Nat) (x : Int32) : Prop := (x = -1 ∧ ∀ t, t < s → ¬ t ∈ L) ∨ ∃ r, r < 2 ^ 30 ∧ x = nI r ∧ IsO g V (fun t => t < s ∧ t ∈ L) r
theorem Bo.keep {g : Bool} {V : Nat → Nat} {L : List Nat} {s : Nat} {x : Int32} (h : Bo g V L s x) (hs : ¬ s ∈ L) : Bo g V L (s + 1) x := by
  rcases h with ⟨h1, h2⟩ | ⟨r, h1, h2, ⟨⟨t, t1, t2⟩, t3⟩⟩
  · refine Or.inl ⟨h1, fun t ht => ?_⟩
    by_cases e : t = s
    · rw [e]; exact hs
    · exact h2 t (by omega)
  · refine Or.inr ⟨r, h1, h2, ⟨t, ⟨by omega, t1.2⟩, t2⟩, fun u hu => ?_⟩
    by_cases e : u = s
    · rw [e] at hu; exact absurd hu.2 hs
    · exact t3 u ⟨by omega, hu.2⟩
theorem Bo.first {g : Bool} {V : Nat → Nat} {L : List Nat} {s : Nat} {x : Int32} (h : Bo g V L s x) (hx : x = -1) (hs : s ∈ L) (hV : V s < 2 ^ 30) : Bo g V L (s + 1) (nI (V s)) := by
  rcases h with ⟨h1, h2⟩ | ⟨r, h1, h2, -⟩
  · refine Or.inr ⟨V s, hV, rfl, ⟨s, ⟨Nat.lt_succ_self s, hs⟩, rfl⟩, fun u hu => ?_⟩
    by_cases e : u = s
    · rw [e]; exact bet_refl g _
    · exact absurd hu.2 (h2 u (by omega))
  · exact absurd (h2.symm.trans hx) (nI_m1 (by omega))
theorem Bo.stay {g : Bool} {V : Nat → Nat} {L : List Nat} {s r : Nat} {x : Int32} (h : Bo g V L s x) (hx : x = nI r) (hr : r < 2 ^ 30) (hb : bet g (V s) r) : Bo g V L (s + 1) x := by
  rcases h with ⟨h1, h2⟩ | ⟨w, h1, h2, ⟨⟨t, t1, t2⟩, t3⟩⟩
  · exact absurd (hx.symm.trans h1) (nI_m1 (by omega))
  · have e : w = r := (nI_eq (by omega) (by omega)).mp (h2.symm.trans hx)
    subst e
    refine Or.inr ⟨w, h1, h2, ⟨t, ⟨by omega, t1.2⟩, t2⟩, fun u hu => ?_⟩
    by_cases e : u = s
    · rw [e]; exact hb
    · exact t3 u ⟨by omega, hu.2⟩
theorem Bo.take {g : Bool} {V : Nat → Nat} {L : List Nat} {s r : Nat} {x : Int32} (h : Bo g V L s x) (hx : x = nI r) (hr : r < 2 ^ 30) (hs : s ∈ L) (hb : bet g r (V s)) (hV : V s < 2 ^ 30) : Bo g V L (s + 1) (nI (V s)) := by
  rcases h with ⟨h1, h2⟩ | ⟨w, h1, h2, ⟨-, t3⟩⟩
  · exact absurd (hx.symm.trans h1) (nI_m1 (by omega))
  · have e : w = r := (nI_eq (by omega) (by omega)).mp (h2.symm.trans hx)
    subst e
    refine Or.inr ⟨V s, hV, rfl, ⟨s, ⟨Nat.lt_succ_self s, hs⟩, rfl⟩, fun u hu => ?_⟩
    by_cases e : u = s
    · rw [e]; exact bet_refl g _
    · exact bet_trans (t3 u ⟨by omega, hu.2⟩) hb
theorem Bo.fin {g : Bool} {V : Nat → Nat} {L : List Nat} {K : Nat} {x : Int32} (h : Bo g V L K x) (hne : L ≠ []) (hm : ∀ s, s ∈ L → s < K) : x = nI (optL g V L) := by
  rcases h with ⟨h1, h2⟩ | ⟨w, h1, h2, ⟨⟨t, t1, t2⟩, t3⟩⟩
  · cases L with
    | nil => exact absurd rfl hne
    | cons s t => exact absurd (List.mem_cons_self ..) (h2 s (hm s (List.mem_cons_self ..)))
  · rw [h2]
    congr 1
    exact IsO.uniq (P := fun s => s ∈ L) ⟨⟨t, t1.2, t2⟩, fun u hu => t3 u ⟨hm u hu, hu⟩⟩ (optL_is hne)
section Levels
variable {C K nn : Nat} {fr to ya mk qu : Nat → Nat} {sf st sy : Nat → Int32} {market quay hasOdd oddM oddQ gI : Int32} {g : Bool}
theorem bs5 (hK : K ≤ 16) (hC : C ≤ 8) (G1 : CodG K C fr to ya sf st sy) (E : EndsC C mk qu market quay hasOdd oddM oddQ) (hn : nn ≤ 99) (hg : (g = true ∧ gI = 1) ∨ (g = false ∧ gI = 0)) {sh : Nat → Nat} {F : Nat → Int32} {k d : Nat} (hk : k ≤ 0) (hd : d + k ≤ 90000) (S1 : CodS K sh F) (wc ws wy : Int32) (far wst : Nat → Int32) :
    ∃ q1, f_ShutWays_bestSum_5 (nI k) gI (nI d) market quay hasOdd oddM oddQ wc ws wy (nI K) 16 F 8 far 16 sf 16 st 16 sy 8 wst = some (nI (Val fr to ya K mk qu nn g k sh d), q1) := by
  obtain ⟨far', st', w1, w2, w3, w4, w5, w6⟩ := findWay_ok hK hC G1 S1 E (show d < 100000 by omega) wc ws wy far wst
  have hk0 : k = 0 := by omega
  subst hk0
  unfold f_ShutWays_bestSum_5 f_ShutWays_bestSum_5_41 f_ShutWays_bestSum_5_58
  rw [w1, Option.bind_some]
  dsimp only
  rw [there_ok w2, Option.bind_some]
  show ∃ q1, _ = some (nI (yvl (dy fr to ya K mk qu sh d)), q1)
  unfold yvl
  by_cases z : dw fr to ya K mk qu sh d = []
  · rw [if_pos z, if_pos rfl, ite_self, if_neg (w6.mp z)]
    exact ⟨_, rfl⟩
  · rw [if_neg z, if_neg one_ne, ite_self, if_pos (Classical.byContradiction (fun q => z (w6.mpr q)))]
    exact ⟨_, rfl⟩
theorem sb4 (hK : K ≤ 16) (hC : C ≤ 8) (G1 : CodG K C fr to ya sf st sy) (E : EndsC C mk qu market quay hasOdd oddM oddQ) (hn : nn ≤ 99) (hg : (g = true ∧ gI = 1) ∨ (g = false ∧ gI = 0)) {sh : Nat → Nat} {F : Nat → Int32} {k d p : Nat} (hp : p < K ∨ p = 99) (hk : k ≤ 0) (hd : d + 1 + k ≤ 90000) (S1 : CodS K sh F) (wc ws wy : Int32) (far wst : Nat → Int32) (lg5 : Int32) (ls5 : Nat → Int32) :
    ∃ q1, f_ShutWays_sumBehind_4 (cI p) (nI (k + 1)) gI lg5 (nI d) 16 F 16 ls5 market quay hasOdd oddM oddQ (nI nn) wc ws wy (nI K) 8 far 16 sf 16 st 16 sy 8 wst = some (nI (Val fr to ya K mk qu nn g k (nx nn p sh) (d + 1)), q1) := by
  obtain ⟨H, c1, c2⟩ := copy_ok lg5 (nI d) F ls5
  obtain ⟨F', v1, v2⟩ := next_ok (d := d) hK hn hp (S1.congr c2)
  obtain ⟨q1, u1⟩ := bs5 hK hC G1 E hn hg (k := k) (d := d + 1) (by omega) hd v2 wc ws wy far wst 
  unfold f_ShutWays_sumBehind_4
  rw [c1, Option.bind_some]
  dsimp only
  rw [v1, Option.bind_some]
  dsimp only
  rw [nI_pred, u1, Option.bind_some]
  exact ⟨_, rfl⟩
theorem lpc4 (hK : K ≤ 16) (hC : C ≤ 8) (G1 : CodG K C fr to ya sf st sy) (E : EndsC C mk qu market quay hasOdd oddM oddQ) (hn : nn ≤ 99) (hg : (g = true ∧ gI = 1) ∨ (g = false ∧ gI = 0)) {sh : Nat → Nat} {F : Nat → Int32} {k d : Nat} (hk : k ≤ 0) (hd : d + 1 + k ≤ 90000) (S1 : CodS K sh F) {L : List Nat} (hne : L ≠ []) (hm : ∀ s, s ∈ L → s < K) (y0 : Int32) :
    ∀ (n s : Nat) (x : Int32) (wc ws wy : Int32) (far wst : Nat → Int32) (lg5 : Int32) (ls5 : Nat → Int32), s ≤ K → K - s < n → Bo g (fun s => Val fr to ya K mk qu nn g k (nx nn s sh) (d + 1)) L s x →
    ∃ q1, f_ShutWays_bestSum_4_93 n (nI (k + 1)) gI y0 (nI (mskA 0 L)) x (nI s) (nI d) market quay hasOdd oddM oddQ (nI nn) wc ws wy (nI K) 16 F 8 far 16 sf 16 st 16 sy 8 wst lg5 16 ls5 = some (y0 + nI (optL g (fun s => Val fr to ya K mk qu nn g k (nx nn s sh) (d + 1)) L), q1) := by
  have hml := msk_lt L 0 (fun s hs => by have := hm s hs; omega) (by decide)
  intro n
  induction n with
  | zero => intro s x wc ws wy far wst lg5 ls5 _ h; omega
  | succ n ih =>
    intro s x wc ws wy far wst lg5 ls5 hs hn' hB
    rw [show f_ShutWays_bestSum_4_93 (n + 1) = b_ShutWays_bestSum_4_93 (f_ShutWays_bestSum_4_93 n) from rfl]
    unfold b_ShutWays_bestSum_4_93
    by_cases c : s = K
    · rw [if_pos (nI_le (by omega) (by omega))]
      rw [c] at hB
      rw [hB.fin hne hm]
      exact ⟨_, rfl⟩
    · have hbit := msk_bit s L 0
      rw [Nat.zero_testBit, Bool.false_or] at hbit
      unfold f_ShutWays_bestSum_4_182
      rw [if_neg (nI_ge (by omega) (by omega)), nI_1]
      by_cases q : s ∈ L
      · obtain ⟨q1, u1⟩ := sb4 hK hC G1 E hn hg (p := s) (Or.inl (by omega)) hk hd S1 wc ws wy far wst lg5 ls5
        have hV := Val_lt (fr := fr) (to := to) (ya := ya) (K := K) (mk := mk) (qu := qu) (nn := nn) (g := g) k (nx nn s sh) (d + 1)
        rw [cI_lt (by omega)] at u1
        rw [if_neg (fun z => by rw [(chas_ok (by omega) (by omega)).mp z] at hbit; simp [q] at hbit), u1, Option.bind_some]
        dsimp only
        unfold f_ShutWays_bestSum_4_160 f_ShutWays_bestSum_4_173 f_ShutWays_bestSum_4_180 f_ShutWays_bestSum_4_182
        rw [nI_1]
        have key : ∀ x' : Int32, Bo g (fun s => Val fr to ya K mk qu nn g k (nx nn s sh) (d + 1)) L (s + 1) x' → ∃ q2, f_ShutWays_bestSum_4_93 n (nI (k + 1)) gI y0 (nI (mskA 0 L)) x' (nI (s + 1)) (nI d) market quay hasOdd oddM oddQ (nI nn) q1.2.2.1 q1.2.2.2.1 q1.2.2.2.2.1 (nI K) 16 F 8 q1.2.2.2.2.2.1 16 sf 16 st 16 sy 8 q1.2.2.2.2.2.2 q1.1 16 q1.2.1 = some (y0 + nI (optL g (fun s => Val fr to ya K mk qu nn g k (nx nn s sh) (d + 1)) L), q2) := by
          intro x' hx'
          exact ih (s + 1) x' _ _ _ _ _ _ _ (by omega) (by omega) hx'
        by_cases x1 : x = -1
        · have hb := key _ (hB.first x1 q (by show Val _ _ _ _ _ _ _ _ _ _ _ < _; omega))
          rcases hg with ⟨rfl, rfl⟩ | ⟨rfl, rfl⟩
          · rw [if_neg one_ne, if_pos x1, if_pos x1, ite_self]
            exact hb
          · rw [if_pos rfl, if_pos x1, if_pos x1, ite_self]
            exact hb
        · obtain ⟨r, hr, xr⟩ : ∃ r, r < 2 ^ 30 ∧ x = nI r := by
            rcases hB with ⟨h1, -⟩ | ⟨r, h1, h2, -⟩
            · exact absurd h1 x1
            · exact ⟨r, h1, h2⟩
          rcases hg with ⟨rfl, rfl⟩ | ⟨rfl, rfl⟩
          · rw [if_neg one_ne, if_neg x1, if_neg x1, if_pos rfl, if_neg one_ne]
            by_cases w : Val fr to ya K mk qu nn true k (nx nn s sh) (d + 1) ≤ r
            · rw [if_pos (by rw [xr]; exact nI_le w (by omega))]
              exact key _ (hB.stay xr hr (by unfold bet; rw [if_pos rfl]; exact w))
            · rw [if_neg (by rw [xr]; exact nI_ge (by omega) (by omega))]
              exact key _ (hB.take xr hr q (by unfold bet; rw [if_pos rfl]; exact Nat.le_of_lt (Nat.lt_of_not_le w)) (by show Val _ _ _ _ _ _ _ _ _ _ _ < _; omega))
          · rw [if_pos rfl, if_neg x1, if_neg x1, if_pos rfl, if_neg one_ne]
            by_cases w : r ≤ Val fr to ya K mk qu nn false k (nx nn s sh) (d + 1)
            · rw [if_pos (by rw [xr]; exact nI_le w (by omega))]
              exact key _ (hB.stay xr hr (by unfold bet; rw [if_neg (by decide)]; exact w))
            · rw [if_neg (by rw [xr]; exact nI_ge (by omega) (by omega))]
              exact key _ (hB.take xr hr q (by unfold bet; rw [if_neg (by decide)]; exact Nat.le_of_lt (Nat.lt_of_not_le w)) (by show Val _ _ _ _ _ _ _ _ _ _ _ < _; omega))
      · rw [if_pos ((chas_ok (by omega) (by omega)).mpr (by rw [hbit]; simpa using q))]
        exact ih (s + 1) x _ _ _ _ _ _ _ (by omega) (by omega) (hB.keep q)
theorem bs4 (hK : K ≤ 16) (hC : C ≤ 8) (G1 : CodG K C fr to ya sf st sy) (E : EndsC C mk qu market quay hasOdd oddM oddQ) (hn : nn ≤ 99) (hg : (g = true ∧ gI = 1) ∨ (g = false ∧ gI = 0)) {sh : Nat → Nat} {F : Nat → Int32} {k d : Nat} (hk : k ≤ 1) (hd : d + k ≤ 90000) (S1 : CodS K sh F) (wc ws wy : Int32) (far wst : Nat → Int32) (lg5 : Int32) (ls5 : Nat → Int32) :
    ∃ q1, f_ShutWays_bestSum_4 (nI k) gI (nI d) market quay hasOdd oddM oddQ (nI nn) wc ws wy (nI K) 16 F 8 far 16 sf 16 st 16 sy 8 wst lg5 16 ls5 = some (nI (Val fr to ya K mk qu nn g k sh d), q1) := by
  have hFU : 20 < FU := by rw [FU_eq]; decide
  obtain ⟨far', st', w1, w2, w3, w4, w5, w6⟩ := findWay_ok hK hC G1 S1 E (show d < 100000 by omega) wc ws wy far wst
  unfold f_ShutWays_bestSum_4
  rw [w1, Option.bind_some]
  dsimp only
  rw [there_ok w2, Option.bind_some]
  have main : ∀ y0 : Int32, y0 = nI (yvl (dy fr to ya K mk qu sh d)) → ∃ q1, f_ShutWays_bestSum_4_41 (nI k) gI y0 (nI d) market quay hasOdd oddM oddQ (nI nn) (nI (dw fr to ya K mk qu sh d).length) (nI (mskA 0 (dw fr to ya K mk qu sh d))) (nI (dy fr to ya K mk qu sh d)) (nI K) 16 F 8 far' 16 sf 16 st 16 sy 8 st' lg5 16 ls5 = some (nI (Val fr to ya K mk qu nn g k sh d), q1) := by
    intro y0 hy0
    unfold f_ShutWays_bestSum_4_41 f_ShutWays_bestSum_4_58
    generalize FU = M0 at hFU ⊢
    cases k with
    | zero =>
      rw [if_pos (show nI 0 ≤ 0 by decide), hy0]
      exact ⟨_, rfl⟩
    | succ k =>
      rw [if_neg (nI_nle (by omega) (by omega))]
      show ∃ q1, _ = some (nI (yvl (dy fr to ya K mk qu sh d) + optL g (fun s => Val fr to ya K mk qu nn g k (nx nn s sh) (d + 1)) (lpk (dw fr to ya K mk qu sh d))), q1)
      by_cases z : dw fr to ya K mk qu sh d = []
      · obtain ⟨q1, u1⟩ := sb4 hK hC G1 E hn hg (k := k) (d := d) (p := 99) (Or.inr rfl) (by omega) (by omega) S1 (nI (dw fr to ya K mk qu sh d).length) (nI (mskA 0 (dw fr to ya K mk qu sh d))) (nI (dy fr to ya K mk qu sh d)) far' st' lg5 ls5
        rw [show cI 99 = -1 from rfl] at u1
        rw [if_pos (show nI (mskA 0 (dw fr to ya K mk qu sh d)) = 0 by rw [z]; rfl), u1, Option.bind_some, hy0]
        dsimp only
        rw [nI_add, show lpk (dw fr to ya K mk qu sh d) = [99] from if_pos z]
        exact ⟨_, rfl⟩
      · have hne : ¬ nI (mskA 0 (dw fr to ya K mk qu sh d)) = 0 := by
          have hml := msk_lt (dw fr to ya K mk qu sh d) 0 (fun s hs => by have := w4 s hs; omega) (by decide)
          intro q
          have q2 := (nI_z (by omega)).mp q
          cases hL : dw fr to ya K mk qu sh d with
          | nil => exact z hL
          | cons s t =>
            have hb := msk_bit s (dw fr to ya K mk qu sh d) 0
            rw [q2, Nat.zero_testBit, Bool.false_or, hL] at hb
            simp at hb
        obtain ⟨q1, u1⟩ := lpc4 hK hC G1 E hn hg (k := k) (d := d) (by omega) (by omega) S1 z w4 y0 M0 0 (-1) (nI (dw fr to ya K mk qu sh d).length) (nI (mskA 0 (dw fr to ya K mk qu sh d))) (nI (dy fr to ya K mk qu sh d)) far' st' lg5 ls5 (Nat.zero_le _) (by omega) (Or.inl ⟨rfl, fun t ht => absurd ht (Nat.not_lt_zero _)⟩)
        rw [nI_0] at u1
        rw [if_neg hne, u1, hy0, nI_add, show lpk (dw fr to ya K mk qu sh d) = dw fr to ya K mk qu sh d from if_neg z]
        exact ⟨_, rfl⟩
  by_cases z : dw fr to ya K mk qu sh d = []
  · rw [if_pos z, if_pos rfl]
    exact main 999 (by unfold yvl; rw [if_neg (w6.mp z)]; rfl)
  · rw [if_neg z, if_neg one_ne]
    exact main _ (by unfold yvl; rw [if_pos (Classical.byContradiction (fun q => z (w6.mpr q)))])
theorem sb3 (hK : K ≤ 16) (hC : C ≤ 8) (G1 : CodG K C fr to ya sf st sy) (E : EndsC C mk qu market quay hasOdd oddM oddQ) (hn : nn ≤ 99) (hg : (g = true ∧ gI = 1) ∨ (g = false ∧ gI = 0)) {sh : Nat → Nat} {F : Nat → Int32} {k d p : Nat} (hp : p < K ∨ p = 99) (hk : k ≤ 1) (hd : d + 1 + k ≤ 90000) (S1 : CodS K sh F) (wc ws wy : Int32) (far wst : Nat → Int32) (lg4 : Int32) (ls4 : Nat → Int32) (lg5 : Int32) (ls5 : Nat → Int32) :
    ∃ q1, f_ShutWays_sumBehind_3 (cI p) (nI (k + 1)) gI lg4 (nI d) 16 F 16 ls4 market quay hasOdd oddM oddQ (nI nn) wc ws wy (nI K) 8 far 16 sf 16 st 16 sy 8 wst lg5 16 ls5 = some (nI (Val fr to ya K mk qu nn g k (nx nn p sh) (d + 1)), q1) := by
  obtain ⟨H, c1, c2⟩ := copy_ok lg4 (nI d) F ls4
  obtain ⟨F', v1, v2⟩ := next_ok (d := d) hK hn hp (S1.congr c2)
  obtain ⟨q1, u1⟩ := bs4 hK hC G1 E hn hg (k := k) (d := d + 1) (by omega) hd v2 wc ws wy far wst lg5 ls5
  unfold f_ShutWays_sumBehind_3
  rw [c1, Option.bind_some]
  dsimp only
  rw [v1, Option.bind_some]
  dsimp only
  rw [nI_pred, u1, Option.bind_some]
  exact ⟨_, rfl⟩
theorem lpc3 (hK : K ≤ 16) (hC : C ≤ 8) (G1 : CodG K C fr to ya sf st sy) (E : EndsC C mk qu market quay hasOdd oddM oddQ) (hn : nn ≤ 99) (hg : (g = true ∧ gI = 1) ∨ (g = false ∧ gI = 0)) {sh : Nat → Nat} {F : Nat → Int32} {k d : Nat} (hk : k ≤ 1) (hd : d + 1 + k ≤ 90000) (S1 : CodS K sh F) {L : List Nat} (hne : L ≠ []) (hm : ∀ s, s ∈ L → s < K) (y0 : Int32) :
    ∀ (n s : Nat) (x : Int32) (wc ws wy : Int32) (far wst : Nat → Int32) (lg4 : Int32) (ls4 : Nat → Int32) (lg5 : Int32) (ls5 : Nat → Int32), s ≤ K → K - s < n → Bo g (fun s => Val fr to ya K mk qu nn g k (nx nn s sh) (d + 1)) L s x →
    ∃ q1, f_ShutWays_bestSum_3_93 n (nI (k + 1)) gI y0 (nI (mskA 0 L)) x (nI s) (nI d) market quay hasOdd oddM oddQ (nI nn) wc ws wy (nI K) 16 F 8 far 16 sf 16 st 16 sy 8 wst lg4 16 ls4 lg5 16 ls5 = some (y0 + nI (optL g (fun s => Val fr to ya K mk qu nn g k (nx nn s sh) (d + 1)) L), q1) := by
  have hml := msk_lt L 0 (fun s hs => by have := hm s hs; omega) (by decide)
  intro n
  induction n with
  | zero => intro s x wc ws wy far wst lg4 ls4 lg5 ls5 _ h; omega
  | succ n ih =>
    intro s x wc ws wy far wst lg4 ls4 lg5 ls5 hs hn' hB
    rw [show f_ShutWays_bestSum_3_93 (n + 1) = b_ShutWays_bestSum_3_93 (f_ShutWays_bestSum_3_93 n) from rfl]
    unfold b_ShutWays_bestSum_3_93
    by_cases c : s = K
    · rw [if_pos (nI_le (by omega) (by omega))]
      rw [c] at hB
      rw [hB.fin hne hm]
      exact ⟨_, rfl⟩
    · have hbit := msk_bit s L 0
      rw [Nat.zero_testBit, Bool.false_or] at hbit
      unfold f_ShutWays_bestSum_3_182
      rw [if_neg (nI_ge (by omega) (by omega)), nI_1]
      by_cases q : s ∈ L
      · obtain ⟨q1, u1⟩ := sb3 hK hC G1 E hn hg (p := s) (Or.inl (by omega)) hk hd S1 wc ws wy far wst lg4 ls4 lg5 ls5
        have hV := Val_lt (fr := fr) (to := to) (ya := ya) (K := K) (mk := mk) (qu := qu) (nn := nn) (g := g) k (nx nn s sh) (d + 1)
        rw [cI_lt (by omega)] at u1
        rw [if_neg (fun z => by rw [(chas_ok (by omega) (by omega)).mp z] at hbit; simp [q] at hbit), u1, Option.bind_some]
        dsimp only
        unfold f_ShutWays_bestSum_3_160 f_ShutWays_bestSum_3_173 f_ShutWays_bestSum_3_180 f_ShutWays_bestSum_3_182
        rw [nI_1]
        have key : ∀ x' : Int32, Bo g (fun s => Val fr to ya K mk qu nn g k (nx nn s sh) (d + 1)) L (s + 1) x' → ∃ q2, f_ShutWays_bestSum_3_93 n (nI (k + 1)) gI y0 (nI (mskA 0 L)) x' (nI (s + 1)) (nI d) market quay hasOdd oddM oddQ (nI nn) q1.2.2.1 q1.2.2.2.1 q1.2.2.2.2.1 (nI K) 16 F 8 q1.2.2.2.2.2.1 16 sf 16 st 16 sy 8 q1.2.2.2.2.2.2.1 q1.1 16 q1.2.1 q1.2.2.2.2.2.2.2.1 16 q1.2.2.2.2.2.2.2.2 = some (y0 + nI (optL g (fun s => Val fr to ya K mk qu nn g k (nx nn s sh) (d + 1)) L), q2) := by
          intro x' hx'
          exact ih (s + 1) x' _ _ _ _ _ _ _ _ _ (by omega) (by omega) hx'
        by_cases x1 : x = -1
        · have hb := key _ (hB.first x1 q (by show Val _ _ _ _ _ _ _ _ _ _ _ < _; omega))
          rcases hg with ⟨rfl, rfl⟩ | ⟨rfl, rfl⟩
          · rw [if_neg one_ne, if_pos x1, if_pos x1, ite_self]
            exact hb
          · rw [if_pos rfl, if_pos x1, if_pos x1, ite_self]
            exact hb
        · obtain ⟨r, hr, xr⟩ : ∃ r, r < 2 ^ 30 ∧ x = nI r := by
            rcases hB with ⟨h1, -⟩ | ⟨r, h1, h2, -⟩
            · exact absurd h1 x1
            · exact ⟨r, h1, h2⟩
          rcases hg with ⟨rfl, rfl⟩ | ⟨rfl, rfl⟩
          · rw [if_neg one_ne, if_neg x1, if_neg x1, if_pos rfl, if_neg one_ne]
            by_cases w : Val fr to ya K mk qu nn true k (nx nn s sh) (d + 1) ≤ r
            · rw [if_pos (by rw [xr]; exact nI_le w (by omega))]
              exact key _ (hB.stay xr hr (by unfold bet; rw [if_pos rfl]; exact w))
            · rw [if_neg (by rw [xr]; exact nI_ge (by omega) (by omega))]
              exact key _ (hB.take xr hr q (by unfold bet; rw [if_pos rfl]; exact Nat.le_of_lt (Nat.lt_of_not_le w)) (by show Val _ _ _ _ _ _ _ _ _ _ _ < _; omega))
          · rw [if_pos rfl, if_neg x1, if_neg x1, if_pos rfl, if_neg one_ne]
            by_cases w : r ≤ Val fr to ya K mk qu nn false k (nx nn s sh) (d + 1)
            · rw [if_pos (by rw [xr]; exact nI_le w (by omega))]
              exact key _ (hB.stay xr hr (by unfold bet; rw [if_neg (by decide)]; exact w))
            · rw [if_neg (by rw [xr]; exact nI_ge (by omega) (by omega))]
              exact key _ (hB.take xr hr q (by unfold bet; rw [if_neg (by decide)]; exact Nat.le_of_lt (Nat.lt_of_not_le w)) (by show Val _ _ _ _ _ _ _ _ _ _ _ < _; omega))
      · rw [if_pos ((chas_ok (by omega) (by omega)).mpr (by rw [hbit]; simpa using q))]
        exact ih (s + 1) x _ _ _ _ _ _ _ _ _ (by omega) (by omega) (hB.keep q)
theorem bs3 (hK : K ≤ 16) (hC : C ≤ 8) (G1 : CodG K C fr to ya sf st sy) (E : EndsC C mk qu market quay hasOdd oddM oddQ) (hn : nn ≤ 99) (hg : (g = true ∧ gI = 1) ∨ (g = false ∧ gI = 0)) {sh : Nat → Nat} {F : Nat → Int32} {k d : Nat} (hk : k ≤ 2) (hd : d + k ≤ 90000) (S1 : CodS K sh F) (wc ws wy : Int32) (far wst : Nat → Int32) (lg4 : Int32) (ls4 : Nat → Int32) (lg5 : Int32) (ls5 : Nat → Int32) :
    ∃ q1, f_ShutWays_bestSum_3 (nI k) gI (nI d) market quay hasOdd oddM oddQ (nI nn) wc ws wy (nI K) 16 F 8 far 16 sf 16 st 16 sy 8 wst lg4 16 ls4 lg5 16 ls5 = some (nI (Val fr to ya K mk qu nn g k sh d), q1) := by
  have hFU : 20 < FU := by rw [FU_eq]; decide
  obtain ⟨far', st', w1, w2, w3, w4, w5, w6⟩ := findWay_ok hK hC G1 S1 E (show d < 100000 by omega) wc ws wy far wst
  unfold f_ShutWays_bestSum_3
  rw [w1, Option.bind_some]
  dsimp only
  rw [there_ok w2, Option.bind_some]
  have main : ∀ y0 : Int32, y0 = nI (yvl (dy fr to ya K mk qu sh d)) → ∃ q1, f_ShutWays_bestSum_3_41 (nI k) gI y0 (nI d) market quay hasOdd oddM oddQ (nI nn) (nI (dw fr to ya K mk qu sh d).length) (nI (mskA 0 (dw fr to ya K mk qu sh d))) (nI (dy fr to ya K mk qu sh d)) (nI K) 16 F 8 far' 16 sf 16 st 16 sy 8 st' lg4 16 ls4 lg5 16 ls5 = some (nI (Val fr to ya K mk qu nn g k sh d), q1) := by
    intro y0 hy0
    unfold f_ShutWays_bestSum_3_41 f_ShutWays_bestSum_3_58
    generalize FU = M0 at hFU ⊢
    cases k with
    | zero =>
      rw [if_pos (show nI 0 ≤ 0 by decide), hy0]
      exact ⟨_, rfl⟩
    | succ k =>
      rw [if_neg (nI_nle (by omega) (by omega))]
      show ∃ q1, _ = some (nI (yvl (dy fr to ya K mk qu sh d) + optL g (fun s => Val fr to ya K mk qu nn g k (nx nn s sh) (d + 1)) (lpk (dw fr to ya K mk qu sh d))), q1)
      by_cases z : dw fr to ya K mk qu sh d = []
      · obtain ⟨q1, u1⟩ := sb3 hK hC G1 E hn hg (k := k) (d := d) (p := 99) (Or.inr rfl) (by omega) (by omega) S1 (nI (dw fr to ya K mk qu sh d).length) (nI (mskA 0 (dw fr to ya K mk qu sh d))) (nI (dy fr to ya K mk qu sh d)) far' st' lg4 ls4 lg5 ls5
        rw [show cI 99 = -1 from rfl] at u1
        rw [if_pos (show nI (mskA 0 (dw fr to ya K mk qu sh d)) = 0 by rw [z]; rfl), u1, Option.bind_some, hy0]
        dsimp only
        rw [nI_add, show lpk (dw fr to ya K mk qu sh d) = [99] from if_pos z]
        exact ⟨_, rfl⟩
      · have hne : ¬ nI (mskA 0 (dw fr to ya K mk qu sh d)) = 0 := by
          have hml := msk_lt (dw fr to ya K mk qu sh d) 0 (fun s hs => by have := w4 s hs; omega) (by decide)
          intro q
          have q2 := (nI_z (by omega)).mp q
          cases hL : dw fr to ya K mk qu sh d with
          | nil => exact z hL
          | cons s t =>
            have hb := msk_bit s (dw fr to ya K mk qu sh d) 0
            rw [q2, Nat.zero_testBit, Bool.false_or, hL] at hb
            simp at hb
        obtain ⟨q1, u1⟩ := lpc3 hK hC G1 E hn hg (k := k) (d := d) (by omega) (by omega) S1 z w4 y0 M0 0 (-1) (nI (dw fr to ya K mk qu sh d).length) (nI (mskA 0 (dw fr to ya K mk qu sh d))) (nI (dy fr to ya K mk qu sh d)) far' st' lg4 ls4 lg5 ls5 (Nat.zero_le _) (by omega) (Or.inl ⟨rfl, fun t ht => absurd ht (Nat.not_lt_zero _)⟩)
        rw [nI_0] at u1
        rw [if_neg hne, u1, hy0, nI_add, show lpk (dw fr to ya K mk qu sh d) = dw fr to ya K mk qu sh d from if_neg z]
        exact ⟨_, rfl⟩
  by_cases z : dw fr to ya K mk qu sh d = []
  · rw [if_pos z, if_pos rfl]
    exact main 999 (by unfold yvl; rw [if_neg (w6.mp z)]; rfl)
  · rw [if_neg z, if_neg one_ne]
    exact main _ (by unfold yvl; rw [if_pos (Classical.byContradiction (fun q => z (w6.mpr q)))])
theorem sb2 (hK : K ≤ 16) (hC : C ≤ 8) (G1 : CodG K C fr to ya sf st sy) (E : EndsC C mk qu market quay hasOdd oddM oddQ) (hn : nn ≤ 99) (hg : (g = true ∧ gI = 1) ∨ (g = false ∧ gI = 0)) {sh : Nat → Nat} {F : Nat → Int32} {k d p : Nat} (hp : p < K ∨ p = 99) (hk : k ≤ 2) (hd : d + 1 + k ≤ 90000) (S1 : CodS K sh F) (wc ws wy : Int32) (far wst : Nat → Int32) (lg3 : Int32) (ls3 : Nat → Int32) (lg4 : Int32) (ls4 : Nat → Int32) (lg5 : Int32) (ls5 : Nat → Int32) :
    ∃ q1, f_ShutWays_sumBehind_2 (cI p) (nI (k + 1)) gI lg3 (nI d) 16 F 16 ls3 market quay hasOdd oddM oddQ (nI nn) wc ws wy (nI K) 8 far 16 sf 16 st 16 sy 8 wst lg4 16 ls4 lg5 16 ls5 = some (nI (Val fr to ya K mk qu nn g k (nx nn p sh) (d + 1)), q1) := by
  obtain ⟨H, c1, c2⟩ := copy_ok lg3 (nI d) F ls3
  obtain ⟨F', v1, v2⟩ := next_ok (d := d) hK hn hp (S1.congr c2)
  obtain ⟨q1, u1⟩ := bs3 hK hC G1 E hn hg (k := k) (d := d + 1) (by omega) hd v2 wc ws wy far wst lg4 ls4 lg5 ls5
  unfold f_ShutWays_sumBehind_2
  rw [c1, Option.bind_some]
  dsimp only
  rw [v1, Option.bind_some]
  dsimp only
  rw [nI_pred, u1, Option.bind_some]
  exact ⟨_, rfl⟩
theorem lpc2 (hK : K ≤ 16) (hC : C ≤ 8) (G1 : CodG K C fr to ya sf st sy) (E : EndsC C mk qu market quay hasOdd oddM oddQ) (hn : nn ≤ 99) (hg : (g = true ∧ gI = 1) ∨ (g = false ∧ gI = 0)) {sh : Nat → Nat} {F : Nat → Int32} {k d : Nat} (hk : k ≤ 2) (hd : d + 1 + k ≤ 90000) (S1 : CodS K sh F) {L : List Nat} (hne : L ≠ []) (hm : ∀ s, s ∈ L → s < K) (y0 : Int32) :
    ∀ (n s : Nat) (x : Int32) (wc ws wy : Int32) (far wst : Nat → Int32) (lg3 : Int32) (ls3 : Nat → Int32) (lg4 : Int32) (ls4 : Nat → Int32) (lg5 : Int32) (ls5 : Nat → Int32), s ≤ K → K - s < n → Bo g (fun s => Val fr to ya K mk qu nn g k (nx nn s sh) (d + 1)) L s x →
    ∃ q1, f_ShutWays_bestSum_2_93 n (nI (k + 1)) gI y0 (nI (mskA 0 L)) x (nI s) (nI d) market quay hasOdd oddM oddQ (nI nn) wc ws wy (nI K) 16 F 8 far 16 sf 16 st 16 sy 8 wst lg3 16 ls3 lg4 16 ls4 lg5 16 ls5 = some (y0 + nI (optL g (fun s => Val fr to ya K mk qu nn g k (nx nn s sh) (d + 1)) L), q1) := by
  have hml := msk_lt L 0 (fun s hs => by have := hm s hs; omega) (by decide)
  intro n
  induction n with
  | zero => intro s x wc ws wy far wst lg3 ls3 lg4 ls4 lg5 ls5 _ h; omega
  | succ n ih =>
    intro s x wc ws wy far wst lg3 ls3 lg4 ls4 lg5 ls5 hs hn' hB
    rw [show f_ShutWays_bestSum_2_93 (n + 1) = b_ShutWays_bestSum_2_93 (f_ShutWays_bestSum_2_93 n) from rfl]
    unfold b_ShutWays_bestSum_2_93
    by_cases c : s = K
    · rw [if_pos (nI_le (by omega) (by omega))]
      rw [c] at hB
      rw [hB.fin hne hm]
      exact ⟨_, rfl⟩
    · have hbit := msk_bit s L 0
      rw [Nat.zero_testBit, Bool.false_or] at hbit
      unfold f_ShutWays_bestSum_2_182
      rw [if_neg (nI_ge (by omega) (by omega)), nI_1]
      by_cases q : s ∈ L
      · obtain ⟨q1, u1⟩ := sb2 hK hC G1 E hn hg (p := s) (Or.inl (by omega)) hk hd S1 wc ws wy far wst lg3 ls3 lg4 ls4 lg5 ls5
        have hV := Val_lt (fr := fr) (to := to) (ya := ya) (K := K) (mk := mk) (qu := qu) (nn := nn) (g := g) k (nx nn s sh) (d + 1)
        rw [cI_lt (by omega)] at u1
        rw [if_neg (fun z => by rw [(chas_ok (by omega) (by omega)).mp z] at hbit; simp [q] at hbit), u1, Option.bind_some]
        dsimp only
        unfold f_ShutWays_bestSum_2_160 f_ShutWays_bestSum_2_173 f_ShutWays_bestSum_2_180 f_ShutWays_bestSum_2_182
        rw [nI_1]
        have key : ∀ x' : Int32, Bo g (fun s => Val fr to ya K mk qu nn g k (nx nn s sh) (d + 1)) L (s + 1) x' → ∃ q2, f_ShutWays_bestSum_2_93 n (nI (k + 1)) gI y0 (nI (mskA 0 L)) x' (nI (s + 1)) (nI d) market quay hasOdd oddM oddQ (nI nn) q1.2.2.1 q1.2.2.2.1 q1.2.2.2.2.1 (nI K) 16 F 8 q1.2.2.2.2.2.1 16 sf 16 st 16 sy 8 q1.2.2.2.2.2.2.1 q1.1 16 q1.2.1 q1.2.2.2.2.2.2.2.1 16 q1.2.2.2.2.2.2.2.2.1 q1.2.2.2.2.2.2.2.2.2.1 16 q1.2.2.2.2.2.2.2.2.2.2 = some (y0 + nI (optL g (fun s => Val fr to ya K mk qu nn g k (nx nn s sh) (d + 1)) L), q2) := by
          intro x' hx'
          exact ih (s + 1) x' _ _ _ _ _ _ _ _ _ _ _ (by omega) (by omega) hx'
        by_cases x1 : x = -1
        · have hb := key _ (hB.first x1 q (by show Val _ _ _ _ _ _ _ _ _ _ _ < _; omega))
          rcases hg with ⟨rfl, rfl⟩ | ⟨rfl, rfl⟩
          · rw [if_neg one_ne, if_pos x1, if_pos x1, ite_self]
            exact hb
          · rw [if_pos rfl, if_pos x1, if_pos x1, ite_self]
            exact hb
        · obtain ⟨r, hr, xr⟩ : ∃ r, r < 2 ^ 30 ∧ x = nI r := by
            rcases hB with ⟨h1, -⟩ | ⟨r, h1, h2, -⟩
            · exact absurd h1 x1
            · exact ⟨r, h1, h2⟩
          rcases hg with ⟨rfl, rfl⟩ | ⟨rfl, rfl⟩
          · rw [if_neg one_ne, if_neg x1, if_neg x1, if_pos rfl, if_neg one_ne]
            by_cases w : Val fr to ya K mk qu nn true k (nx nn s sh) (d + 1) ≤ r
            · rw [if_pos (by rw [xr]; exact nI_le w (by omega))]
              exact key _ (hB.stay xr hr (by unfold bet; rw [if_pos rfl]; exact w))
            · rw [if_neg (by rw [xr]; exact nI_ge (by omega) (by omega))]
              exact key _ (hB.take xr hr q (by unfold bet; rw [if_pos rfl]; exact Nat.le_of_lt (Nat.lt_of_not_le w)) (by show Val _ _ _ _ _ _ _ _ _ _ _ < _; omega))
          · rw [if_pos rfl, if_neg x1, if_neg x1, if_pos rfl, if_neg one_ne]
            by_cases w : r ≤ Val fr to ya K mk qu nn false k (nx nn s sh) (d + 1)
            · rw [if_pos (by rw [xr]; exact nI_le w (by omega))]
              exact key _ (hB.stay xr hr (by unfold bet; rw [if_neg (by decide)]; exact w))
            · rw [if_neg (by rw [xr]; exact nI_ge (by omega) (by omega))]
              exact key _ (hB.take xr hr q (by unfold bet; rw [if_neg (by decide)]; exact Nat.le_of_lt (Nat.lt_of_not_le w)) (by show Val _ _ _ _ _ _ _ _ _ _ _ < _; omega))
      · rw [if_pos ((chas_ok (by omega) (by omega)).mpr (by rw [hbit]; simpa using q))]
        exact ih (s + 1) x _ _ _ _ _ _ _ _ _ _ _ (by omega) (by omega) (hB.keep q)
theorem bs2 (hK : K ≤ 16) (hC : C ≤ 8) (G1 : CodG K C fr to ya sf st sy) (E : EndsC C mk qu market quay hasOdd oddM oddQ) (hn : nn ≤ 99) (hg : (g = true ∧ gI = 1) ∨ (g = false ∧ gI = 0)) {sh : Nat → Nat} {F : Nat → Int32} {k d : Nat} (hk : k ≤ 3) (hd : d + k ≤ 90000) (S1 : CodS K sh F) (wc ws wy : Int32) (far wst : Nat → Int32) (lg3 : Int32) (ls3 : Nat → Int32) (lg4 : Int32) (ls4 : Nat → Int32) (lg5 : Int32) (ls5 : Nat → Int32) :
    ∃ q1, f_ShutWays_bestSum_2 (nI k) gI (nI d) market quay hasOdd oddM oddQ (nI nn) wc ws wy (nI K) 16 F 8 far 16 sf 16 st 16 sy 8 wst lg3 16 ls3 lg4 16 ls4 lg5 16 ls5 = some (nI (Val fr to ya K mk qu nn g k sh d), q1) := by
  have hFU : 20 < FU := by rw [FU_eq]; decide
  obtain ⟨far', st', w1, w2, w3, w4, w5, w6⟩ := findWay_ok hK hC G1 S1 E (show d < 100000 by omega) wc ws wy far wst
  unfold f_ShutWays_bestSum_2
  rw [w1, Option.bind_some]
  dsimp only
  rw [there_ok w2, Option.bind_some]
  have main : ∀ y0 : Int32, y0 = nI (yvl (dy fr to ya K mk qu sh d)) → ∃ q1, f_ShutWays_bestSum_2_41 (nI k) gI y0 (nI d) market quay hasOdd oddM oddQ (nI nn) (nI (dw fr to ya K mk qu sh d).length) (nI (mskA 0 (dw fr to ya K mk qu sh d))) (nI (dy fr to ya K mk qu sh d)) (nI K) 16 F 8 far' 16 sf 16 st 16 sy 8 st' lg3 16 ls3 lg4 16 ls4 lg5 16 ls5 = some (nI (Val fr to ya K mk qu nn g k sh d), q1) := by
    intro y0 hy0
    unfold f_ShutWays_bestSum_2_41 f_ShutWays_bestSum_2_58
    generalize FU = M0 at hFU ⊢
    cases k with
    | zero =>
      rw [if_pos (show nI 0 ≤ 0 by decide), hy0]
      exact ⟨_, rfl⟩
    | succ k =>
      rw [if_neg (nI_nle (by omega) (by omega))]
      show ∃ q1, _ = some (nI (yvl (dy fr to ya K mk qu sh d) + optL g (fun s => Val fr to ya K mk qu nn g k (nx nn s sh) (d + 1)) (lpk (dw fr to ya K mk qu sh d))), q1)
      by_cases z : dw fr to ya K mk qu sh d = []
      · obtain ⟨q1, u1⟩ := sb2 hK hC G1 E hn hg (k := k) (d := d) (p := 99) (Or.inr rfl) (by omega) (by omega) S1 (nI (dw fr to ya K mk qu sh d).length) (nI (mskA 0 (dw fr to ya K mk qu sh d))) (nI (dy fr to ya K mk qu sh d)) far' st' lg3 ls3 lg4 ls4 lg5 ls5
        rw [show cI 99 = -1 from rfl] at u1
        rw [if_pos (show nI (mskA 0 (dw fr to ya K mk qu sh d)) = 0 by rw [z]; rfl), u1, Option.bind_some, hy0]
        dsimp only
        rw [nI_add, show lpk (dw fr to ya K mk qu sh d) = [99] from if_pos z]
        exact ⟨_, rfl⟩
      · have hne : ¬ nI (mskA 0 (dw fr to ya K mk qu sh d)) = 0 := by
          have hml := msk_lt (dw fr to ya K mk qu sh d) 0 (fun s hs => by have := w4 s hs; omega) (by decide)
          intro q
          have q2 := (nI_z (by omega)).mp q
          cases hL : dw fr to ya K mk qu sh d with
          | nil => exact z hL
          | cons s t =>
            have hb := msk_bit s (dw fr to ya K mk qu sh d) 0
            rw [q2, Nat.zero_testBit, Bool.false_or, hL] at hb
            simp at hb
        obtain ⟨q1, u1⟩ := lpc2 hK hC G1 E hn hg (k := k) (d := d) (by omega) (by omega) S1 z w4 y0 M0 0 (-1) (nI (dw fr to ya K mk qu sh d).length) (nI (mskA 0 (dw fr to ya K mk qu sh d))) (nI (dy fr to ya K mk qu sh d)) far' st' lg3 ls3 lg4 ls4 lg5 ls5 (Nat.zero_le _) (by omega) (Or.inl ⟨rfl, fun t ht => absurd ht (Nat.not_lt_zero _)⟩)
        rw [nI_0] at u1
        rw [if_neg hne, u1, hy0, nI_add, show lpk (dw fr to ya K mk qu sh d) = dw fr to ya K mk qu sh d from if_neg z]
        exact ⟨_, rfl⟩
  by_cases z : dw fr to ya K mk qu sh d = []
  · rw [if_pos z, if_pos rfl]
    exact main 999 (by unfold yvl; rw [if_neg (w6.mp z)]; rfl)
  · rw [if_neg z, if_neg one_ne]
    exact main _ (by unfold yvl; rw [if_pos (Classical.byContradiction (fun q => z (w6.mpr q)))])
theorem sb1 (hK : K ≤ 16) (hC : C ≤ 8) (G1 : CodG K C fr to ya sf st sy) (E : EndsC C mk qu market quay hasOdd oddM oddQ) (hn : nn ≤ 99) (hg : (g = true ∧ gI = 1) ∨ (g = false ∧ gI = 0)) {sh : Nat → Nat} {F : Nat → Int32} {k d p : Nat} (hp : p < K ∨ p = 99) (hk : k ≤ 3) (hd : d + 1 + k ≤ 90000) (S1 : CodS K sh F) (wc ws wy : Int32) (far wst : Nat → Int32) (lg2 : Int32) (ls2 : Nat → Int32) (lg3 : Int32) (ls3 : Nat → Int32) (lg4 : Int32) (ls4 : Nat → Int32) (lg5 : Int32) (ls5 : Nat → Int32) :
    ∃ q1, f_ShutWays_sumBehind_1 (cI p) (nI (k + 1)) gI lg2 (nI d) 16 F 16 ls2 market quay hasOdd oddM oddQ (nI nn) wc ws wy (nI K) 8 far 16 sf 16 st 16 sy 8 wst lg3 16 ls3 lg4 16 ls4 lg5 16 ls5 = some (nI (Val fr to ya K mk qu nn g k (nx nn p sh) (d + 1)), q1) := by
  obtain ⟨H, c1, c2⟩ := copy_ok lg2 (nI d) F ls2
  obtain ⟨F', v1, v2⟩ := next_ok (d := d) hK hn hp (S1.congr c2)
  obtain ⟨q1, u1⟩ := bs2 hK hC G1 E hn hg (k := k) (d := d + 1) (by omega) hd v2 wc ws wy far wst lg3 ls3 lg4 ls4 lg5 ls5
  unfold f_ShutWays_sumBehind_1
  rw [c1, Option.bind_some]
  dsimp only
  rw [v1, Option.bind_some]
  dsimp only
  rw [nI_pred, u1, Option.bind_some]
  exact ⟨_, rfl⟩
theorem lpc1 (hK : K ≤ 16) (hC : C ≤ 8) (G1 : CodG K C fr to ya sf st sy) (E : EndsC C mk qu market quay hasOdd oddM oddQ) (hn : nn ≤ 99) (hg : (g = true ∧ gI = 1) ∨ (g = false ∧ gI = 0)) {sh : Nat → Nat} {F : Nat → Int32} {k d : Nat} (hk : k ≤ 3) (hd : d + 1 + k ≤ 90000) (S1 : CodS K sh F) {L : List Nat} (hne : L ≠ []) (hm : ∀ s, s ∈ L → s < K) (y0 : Int32) :
    ∀ (n s : Nat) (x : Int32) (wc ws wy : Int32) (far wst : Nat → Int32) (lg2 : Int32) (ls2 : Nat → Int32) (lg3 : Int32) (ls3 : Nat → Int32) (lg4 : Int32) (ls4 : Nat → Int32) (lg5 : Int32) (ls5 : Nat → Int32), s ≤ K → K - s < n → Bo g (fun s => Val fr to ya K mk qu nn g k (nx nn s sh) (d + 1)) L s x →
    ∃ q1, f_ShutWays_bestSum_1_93 n (nI (k + 1)) gI y0 (nI (mskA 0 L)) x (nI s) (nI d) market quay hasOdd oddM oddQ (nI nn) wc ws wy (nI K) 16 F 8 far 16 sf 16 st 16 sy 8 wst lg2 16 ls2 lg3 16 ls3 lg4 16 ls4 lg5 16 ls5 = some (y0 + nI (optL g (fun s => Val fr to ya K mk qu nn g k (nx nn s sh) (d + 1)) L), q1) := by
  have hml := msk_lt L 0 (fun s hs => by have := hm s hs; omega) (by decide)
  intro n
  induction n with
  | zero => intro s x wc ws wy far wst lg2 ls2 lg3 ls3 lg4 ls4 lg5 ls5 _ h; omega
  | succ n ih =>
    intro s x wc ws wy far wst lg2 ls2 lg3 ls3 lg4 ls4 lg5 ls5 hs hn' hB
    rw [show f_ShutWays_bestSum_1_93 (n + 1) = b_ShutWays_bestSum_1_93 (f_ShutWays_bestSum_1_93 n) from rfl]
    unfold b_ShutWays_bestSum_1_93
    by_cases c : s = K
    · rw [if_pos (nI_le (by omega) (by omega))]
      rw [c] at hB
      rw [hB.fin hne hm]
      exact ⟨_, rfl⟩
    · have hbit := msk_bit s L 0
      rw [Nat.zero_testBit, Bool.false_or] at hbit
      unfold f_ShutWays_bestSum_1_182
      rw [if_neg (nI_ge (by omega) (by omega)), nI_1]
      by_cases q : s ∈ L
      · obtain ⟨q1, u1⟩ := sb1 hK hC G1 E hn hg (p := s) (Or.inl (by omega)) hk hd S1 wc ws wy far wst lg2 ls2 lg3 ls3 lg4 ls4 lg5 ls5
        have hV := Val_lt (fr := fr) (to := to) (ya := ya) (K := K) (mk := mk) (qu := qu) (nn := nn) (g := g) k (nx nn s sh) (d + 1)
        rw [cI_lt (by omega)] at u1
        rw [if_neg (fun z => by rw [(chas_ok (by omega) (by omega)).mp z] at hbit; simp [q] at hbit), u1, Option.bind_some]
        dsimp only
        unfold f_ShutWays_bestSum_1_160 f_ShutWays_bestSum_1_173 f_ShutWays_bestSum_1_180 f_ShutWays_bestSum_1_182
        rw [nI_1]
        have key : ∀ x' : Int32, Bo g (fun s => Val fr to ya K mk qu nn g k (nx nn s sh) (d + 1)) L (s + 1) x' → ∃ q2, f_ShutWays_bestSum_1_93 n (nI (k + 1)) gI y0 (nI (mskA 0 L)) x' (nI (s + 1)) (nI d) market quay hasOdd oddM oddQ (nI nn) q1.2.2.1 q1.2.2.2.1 q1.2.2.2.2.1 (nI K) 16 F 8 q1.2.2.2.2.2.1 16 sf 16 st 16 sy 8 q1.2.2.2.2.2.2.1 q1.1 16 q1.2.1 q1.2.2.2.2.2.2.2.1 16 q1.2.2.2.2.2.2.2.2.1 q1.2.2.2.2.2.2.2.2.2.1 16 q1.2.2.2.2.2.2.2.2.2.2.1 q1.2.2.2.2.2.2.2.2.2.2.2.1 16 q1.2.2.2.2.2.2.2.2.2.2.2.2 = some (y0 + nI (optL g (fun s => Val fr to ya K mk qu nn g k (nx nn s sh) (d + 1)) L), q2) := by
          intro x' hx'
          exact ih (s + 1) x' _ _ _ _ _ _ _ _ _ _ _ _ _ (by omega) (by omega) hx'
        by_cases x1 : x = -1
        · have hb := key _ (hB.first x1 q (by show Val _ _ _ _ _ _ _ _ _ _ _ < _; omega))
          rcases hg with ⟨rfl, rfl⟩ | ⟨rfl, rfl⟩
          · rw [if_neg one_ne, if_pos x1, if_pos x1, ite_self]
            exact hb
          · rw [if_pos rfl, if_pos x1, if_pos x1, ite_self]
            exact hb
        · obtain ⟨r, hr, xr⟩ : ∃ r, r < 2 ^ 30 ∧ x = nI r := by
            rcases hB with ⟨h1, -⟩ | ⟨r, h1, h2, -⟩
            · exact absurd h1 x1
            · exact ⟨r, h1, h2⟩
          rcases hg with ⟨rfl, rfl⟩ | ⟨rfl, rfl⟩
          · rw [if_neg one_ne, if_neg x1, if_neg x1, if_pos rfl, if_neg one_ne]
            by_cases w : Val fr to ya K mk qu nn true k (nx nn s sh) (d + 1) ≤ r
            · rw [if_pos (by rw [xr]; exact nI_le w (by omega))]
              exact key _ (hB.stay xr hr (by unfold bet; rw [if_pos rfl]; exact w))
            · rw [if_neg (by rw [xr]; exact nI_ge (by omega) (by omega))]
              exact key _ (hB.take xr hr q (by unfold bet; rw [if_pos rfl]; exact Nat.le_of_lt (Nat.lt_of_not_le w)) (by show Val _ _ _ _ _ _ _ _ _ _ _ < _; omega))
          · rw [if_pos rfl, if_neg x1, if_neg x1, if_pos rfl, if_neg one_ne]
            by_cases w : r ≤ Val fr to ya K mk qu nn false k (nx nn s sh) (d + 1)
            · rw [if_pos (by rw [xr]; exact nI_le w (by omega))]
              exact key _ (hB.stay xr hr (by unfold bet; rw [if_neg (by decide)]; exact w))
            · rw [if_neg (by rw [xr]; exact nI_ge (by omega) (by omega))]
              exact key _ (hB.take xr hr q (by unfold bet; rw [if_neg (by decide)]; exact Nat.le_of_lt (Nat.lt_of_not_le w)) (by show Val _ _ _ _ _ _ _ _ _ _ _ < _; omega))
      · rw [if_pos ((chas_ok (by omega) (by omega)).mpr (by rw [hbit]; simpa using q))]
        exact ih (s + 1) x _ _ _ _ _ _ _ _ _ _ _ _ _ (by omega) (by omega) (hB.keep q)
theorem bs1 (hK : K ≤ 16) (hC : C ≤ 8) (G1 : CodG K C fr to ya sf st sy) (E : EndsC C mk qu market quay hasOdd oddM oddQ) (hn : nn ≤ 99) (hg : (g = true ∧ gI = 1) ∨ (g = false ∧ gI = 0)) {sh : Nat → Nat} {F : Nat → Int32} {k d : Nat} (hk : k ≤ 4) (hd : d + k ≤ 90000) (S1 : CodS K sh F) (wc ws wy : Int32) (far wst : Nat → Int32) (lg2 : Int32) (ls2 : Nat → Int32) (lg3 : Int32) (ls3 : Nat → Int32) (lg4 : Int32) (ls4 : Nat → Int32) (lg5 : Int32) (ls5 : Nat → Int32) :
    ∃ q1, f_ShutWays_bestSum_1 (nI k) gI (nI d) market quay hasOdd oddM oddQ (nI nn) wc ws wy (nI K) 16 F 8 far 16 sf 16 st 16 sy 8 wst lg2 16 ls2 lg3 16 ls3 lg4 16 ls4 lg5 16 ls5 = some (nI (Val fr to ya K mk qu nn g k sh d), q1) := by
  have hFU : 20 < FU := by rw [FU_eq]; decide
  obtain ⟨far', st', w1, w2, w3, w4, w5, w6⟩ := findWay_ok hK hC G1 S1 E (show d < 100000 by omega) wc ws wy far wst
  unfold f_ShutWays_bestSum_1
  rw [w1, Option.bind_some]
  dsimp only
  rw [there_ok w2, Option.bind_some]
  have main : ∀ y0 : Int32, y0 = nI (yvl (dy fr to ya K mk qu sh d)) → ∃ q1, f_ShutWays_bestSum_1_41 (nI k) gI y0 (nI d) market quay hasOdd oddM oddQ (nI nn) (nI (dw fr to ya K mk qu sh d).length) (nI (mskA 0 (dw fr to ya K mk qu sh d))) (nI (dy fr to ya K mk qu sh d)) (nI K) 16 F 8 far' 16 sf 16 st 16 sy 8 st' lg2 16 ls2 lg3 16 ls3 lg4 16 ls4 lg5 16 ls5 = some (nI (Val fr to ya K mk qu nn g k sh d), q1) := by
    intro y0 hy0
    unfold f_ShutWays_bestSum_1_41 f_ShutWays_bestSum_1_58
    generalize FU = M0 at hFU ⊢
    cases k with
    | zero =>
      rw [if_pos (show nI 0 ≤ 0 by decide), hy0]
      exact ⟨_, rfl⟩
    | succ k =>
      rw [if_neg (nI_nle (by omega) (by omega))]
      show ∃ q1, _ = some (nI (yvl (dy fr to ya K mk qu sh d) + optL g (fun s => Val fr to ya K mk qu nn g k (nx nn s sh) (d + 1)) (lpk (dw fr to ya K mk qu sh d))), q1)
      by_cases z : dw fr to ya K mk qu sh d = []
      · obtain ⟨q1, u1⟩ := sb1 hK hC G1 E hn hg (k := k) (d := d) (p := 99) (Or.inr rfl) (by omega) (by omega) S1 (nI (dw fr to ya K mk qu sh d).length) (nI (mskA 0 (dw fr to ya K mk qu sh d))) (nI (dy fr to ya K mk qu sh d)) far' st' lg2 ls2 lg3 ls3 lg4 ls4 lg5 ls5
        rw [show cI 99 = -1 from rfl] at u1
        rw [if_pos (show nI (mskA 0 (dw fr to ya K mk qu sh d)) = 0 by rw [z]; rfl), u1, Option.bind_some, hy0]
        dsimp only
        rw [nI_add, show lpk (dw fr to ya K mk qu sh d) = [99] from if_pos z]
        exact ⟨_, rfl⟩
      · have hne : ¬ nI (mskA 0 (dw fr to ya K mk qu sh d)) = 0 := by
          have hml := msk_lt (dw fr to ya K mk qu sh d) 0 (fun s hs => by have := w4 s hs; omega) (by decide)
          intro q
          have q2 := (nI_z (by omega)).mp q
          cases hL : dw fr to ya K mk qu sh d with
          | nil => exact z hL
          | cons s t =>
            have hb := msk_bit s (dw fr to ya K mk qu sh d) 0
            rw [q2, Nat.zero_testBit, Bool.false_or, hL] at hb
            simp at hb
        obtain ⟨q1, u1⟩ := lpc1 hK hC G1 E hn hg (k := k) (d := d) (by omega) (by omega) S1 z w4 y0 M0 0 (-1) (nI (dw fr to ya K mk qu sh d).length) (nI (mskA 0 (dw fr to ya K mk qu sh d))) (nI (dy fr to ya K mk qu sh d)) far' st' lg2 ls2 lg3 ls3 lg4 ls4 lg5 ls5 (Nat.zero_le _) (by omega) (Or.inl ⟨rfl, fun t ht => absurd ht (Nat.not_lt_zero _)⟩)
        rw [nI_0] at u1
        rw [if_neg hne, u1, hy0, nI_add, show lpk (dw fr to ya K mk qu sh d) = dw fr to ya K mk qu sh d from if_neg z]
        exact ⟨_, rfl⟩
  by_cases z : dw fr to ya K mk qu sh d = []
  · rw [if_pos z, if_pos rfl]
    exact main 999 (by unfold yvl; rw [if_neg (w6.mp z)]; rfl)
  · rw [if_neg z, if_neg one_ne]
    exact main _ (by unfold yvl; rw [if_pos (Classical.byContradiction (fun q => z (w6.mpr q)))])
theorem sb0 (hK : K ≤ 16) (hC : C ≤ 8) (G1 : CodG K C fr to ya sf st sy) (E : EndsC C mk qu market quay hasOdd oddM oddQ) (hn : nn ≤ 99) (hg : (g = true ∧ gI = 1) ∨ (g = false ∧ gI = 0)) {sh : Nat → Nat} {F : Nat → Int32} {k d p : Nat} (hp : p < K ∨ p = 99) (hk : k ≤ 4) (hd : d + 1 + k ≤ 90000) (S1 : CodS K sh F) (wc ws wy : Int32) (far wst : Nat → Int32) (lg1 : Int32) (ls1 : Nat → Int32) (lg2 : Int32) (ls2 : Nat → Int32) (lg3 : Int32) (ls3 : Nat → Int32) (lg4 : Int32) (ls4 : Nat → Int32) (lg5 : Int32) (ls5 : Nat → Int32) :
    ∃ q1, f_ShutWays_sumBehind_0 (cI p) (nI (k + 1)) gI lg1 (nI d) 16 F 16 ls1 market quay hasOdd oddM oddQ (nI nn) wc ws wy (nI K) 8 far 16 sf 16 st 16 sy 8 wst lg2 16 ls2 lg3 16 ls3 lg4 16 ls4 lg5 16 ls5 = some (nI (Val fr to ya K mk qu nn g k (nx nn p sh) (d + 1)), q1) := by
  obtain ⟨H, c1, c2⟩ := copy_ok lg1 (nI d) F ls1
  obtain ⟨F', v1, v2⟩ := next_ok (d := d) hK hn hp (S1.congr c2)
  obtain ⟨q1, u1⟩ := bs1 hK hC G1 E hn hg (k := k) (d := d + 1) (by omega) hd v2 wc ws wy far wst lg2 ls2 lg3 ls3 lg4 ls4 lg5 ls5
  unfold f_ShutWays_sumBehind_0
  rw [c1, Option.bind_some]
  dsimp only
  rw [v1, Option.bind_some]
  dsimp only
  rw [nI_pred, u1, Option.bind_some]
  exact ⟨_, rfl⟩
theorem lpc0 (hK : K ≤ 16) (hC : C ≤ 8) (G1 : CodG K C fr to ya sf st sy) (E : EndsC C mk qu market quay hasOdd oddM oddQ) (hn : nn ≤ 99) (hg : (g = true ∧ gI = 1) ∨ (g = false ∧ gI = 0)) {sh : Nat → Nat} {F : Nat → Int32} {k d : Nat} (hk : k ≤ 4) (hd : d + 1 + k ≤ 90000) (S1 : CodS K sh F) {L : List Nat} (hne : L ≠ []) (hm : ∀ s, s ∈ L → s < K) (y0 : Int32) :
    ∀ (n s : Nat) (x : Int32) (wc ws wy : Int32) (far wst : Nat → Int32) (lg1 : Int32) (ls1 : Nat → Int32) (lg2 : Int32) (ls2 : Nat → Int32) (lg3 : Int32) (ls3 : Nat → Int32) (lg4 : Int32) (ls4 : Nat → Int32) (lg5 : Int32) (ls5 : Nat → Int32), s ≤ K → K - s < n → Bo g (fun s => Val fr to ya K mk qu nn g k (nx nn s sh) (d + 1)) L s x →
    ∃ q1, f_ShutWays_bestSum_0_93 n (nI (k + 1)) gI y0 (nI (mskA 0 L)) x (nI s) (nI d) market quay hasOdd oddM oddQ (nI nn) wc ws wy (nI K) 16 F 8 far 16 sf 16 st 16 sy 8 wst lg1 16 ls1 lg2 16 ls2 lg3 16 ls3 lg4 16 ls4 lg5 16 ls5 = some (y0 + nI (optL g (fun s => Val fr to ya K mk qu nn g k (nx nn s sh) (d + 1)) L), q1) := by
  have hml := msk_lt L 0 (fun s hs => by have := hm s hs; omega) (by decide)
  intro n
  induction n with
  | zero => intro s x wc ws wy far wst lg1 ls1 lg2 ls2 lg3 ls3 lg4 ls4 lg5 ls5 _ h; omega
  | succ n ih =>
    intro s x wc ws wy far wst lg1 ls1 lg2 ls2 lg3 ls3 lg4 ls4 lg5 ls5 hs hn' hB
    rw [show f_ShutWays_bestSum_0_93 (n + 1) = b_ShutWays_bestSum_0_93 (f_ShutWays_bestSum_0_93 n) from rfl]
    unfold b_ShutWays_bestSum_0_93
    by_cases c : s = K
    · rw [if_pos (nI_le (by omega) (by omega))]
      rw [c] at hB
      rw [hB.fin hne hm]
      exact ⟨_, rfl⟩
    · have hbit := msk_bit s L 0
      rw [Nat.zero_testBit, Bool.false_or] at hbit
      unfold f_ShutWays_bestSum_0_182
      rw [if_neg (nI_ge (by omega) (by omega)), nI_1]
      by_cases q : s ∈ L
      · obtain ⟨q1, u1⟩ := sb0 hK hC G1 E hn hg (p := s) (Or.inl (by omega)) hk hd S1 wc ws wy far wst lg1 ls1 lg2 ls2 lg3 ls3 lg4 ls4 lg5 ls5
        have hV := Val_lt (fr := fr) (to := to) (ya := ya) (K := K) (mk := mk) (qu := qu) (nn := nn) (g := g) k (nx nn s sh) (d + 1)
        rw [cI_lt (by omega)] at u1
        rw [if_neg (fun z => by rw [(chas_ok (by omega) (by omega)).mp z] at hbit; simp [q] at hbit), u1, Option.bind_some]
        dsimp only
        unfold f_ShutWays_bestSum_0_160 f_ShutWays_bestSum_0_173 f_ShutWays_bestSum_0_180 f_ShutWays_bestSum_0_182
        rw [nI_1]
        have key : ∀ x' : Int32, Bo g (fun s => Val fr to ya K mk qu nn g k (nx nn s sh) (d + 1)) L (s + 1) x' → ∃ q2, f_ShutWays_bestSum_0_93 n (nI (k + 1)) gI y0 (nI (mskA 0 L)) x' (nI (s + 1)) (nI d) market quay hasOdd oddM oddQ (nI nn) q1.2.2.1 q1.2.2.2.1 q1.2.2.2.2.1 (nI K) 16 F 8 q1.2.2.2.2.2.1 16 sf 16 st 16 sy 8 q1.2.2.2.2.2.2.1 q1.1 16 q1.2.1 q1.2.2.2.2.2.2.2.1 16 q1.2.2.2.2.2.2.2.2.1 q1.2.2.2.2.2.2.2.2.2.1 16 q1.2.2.2.2.2.2.2.2.2.2.1 q1.2.2.2.2.2.2.2.2.2.2.2.1 16 q1.2.2.2.2.2.2.2.2.2.2.2.2.1 q1.2.2.2.2.2.2.2.2.2.2.2.2.2.1 16 q1.2.2.2.2.2.2.2.2.2.2.2.2.2.2 = some (y0 + nI (optL g (fun s => Val fr to ya K mk qu nn g k (nx nn s sh) (d + 1)) L), q2) := by
          intro x' hx'
          exact ih (s + 1) x' _ _ _ _ _ _ _ _ _ _ _ _ _ _ _ (by omega) (by omega) hx'
        by_cases x1 : x = -1
        · have hb := key _ (hB.first x1 q (by show Val _ _ _ _ _ _ _ _ _ _ _ < _; omega))
          rcases hg with ⟨rfl, rfl⟩ | ⟨rfl, rfl⟩
          · rw [if_neg one_ne, if_pos x1, if_pos x1, ite_self]
            exact hb
          · rw [if_pos rfl, if_pos x1, if_pos x1, ite_self]
            exact hb
        · obtain ⟨r, hr, xr⟩ : ∃ r, r < 2 ^ 30 ∧ x = nI r := by
            rcases hB with ⟨h1, -⟩ | ⟨r, h1, h2, -⟩
            · exact absurd h1 x1
            · exact ⟨r, h1, h2⟩
          rcases hg with ⟨rfl, rfl⟩ | ⟨rfl, rfl⟩
          · rw [if_neg one_ne, if_neg x1, if_neg x1, if_pos rfl, if_neg one_ne]
            by_cases w : Val fr to ya K mk qu nn true k (nx nn s sh) (d + 1) ≤ r
            · rw [if_pos (by rw [xr]; exact nI_le w (by omega))]
              exact key _ (hB.stay xr hr (by unfold bet; rw [if_pos rfl]; exact w))
            · rw [if_neg (by rw [xr]; exact nI_ge (by omega) (by omega))]
              exact key _ (hB.take xr hr q (by unfold bet; rw [if_pos rfl]; exact Nat.le_of_lt (Nat.lt_of_not_le w)) (by show Val _ _ _ _ _ _ _ _ _ _ _ < _; omega))
          · rw [if_pos rfl, if_neg x1, if_neg x1, if_pos rfl, if_neg one_ne]
            by_cases w : r ≤ Val fr to ya K mk qu nn false k (nx nn s sh) (d + 1)
            · rw [if_pos (by rw [xr]; exact nI_le w (by omega))]
              exact key _ (hB.stay xr hr (by unfold bet; rw [if_neg (by decide)]; exact w))
            · rw [if_neg (by rw [xr]; exact nI_ge (by omega) (by omega))]
              exact key _ (hB.take xr hr q (by unfold bet; rw [if_neg (by decide)]; exact Nat.le_of_lt (Nat.lt_of_not_le w)) (by show Val _ _ _ _ _ _ _ _ _ _ _ < _; omega))
      · rw [if_pos ((chas_ok (by omega) (by omega)).mpr (by rw [hbit]; simpa using q))]
        exact ih (s + 1) x _ _ _ _ _ _ _ _ _ _ _ _ _ _ _ (by omega) (by omega) (hB.keep q)
theorem bs0 (hK : K ≤ 16) (hC : C ≤ 8) (G1 : CodG K C fr to ya sf st sy) (E : EndsC C mk qu market quay hasOdd oddM oddQ) (hn : nn ≤ 99) (hg : (g = true ∧ gI = 1) ∨ (g = false ∧ gI = 0)) {sh : Nat → Nat} {F : Nat → Int32} {k d : Nat} (hk : k ≤ 5) (hd : d + k ≤ 90000) (S1 : CodS K sh F) (wc ws wy : Int32) (far wst : Nat → Int32) (lg1 : Int32) (ls1 : Nat → Int32) (lg2 : Int32) (ls2 : Nat → Int32) (lg3 : Int32) (ls3 : Nat → Int32) (lg4 : Int32) (ls4 : Nat → Int32) (lg5 : Int32) (ls5 : Nat → Int32) :
    ∃ q1, f_ShutWays_bestSum_0 (nI k) gI (nI d) market quay hasOdd oddM oddQ (nI nn) wc ws wy (nI K) 16 F 8 far 16 sf 16 st 16 sy 8 wst lg1 16 ls1 lg2 16 ls2 lg3 16 ls3 lg4 16 ls4 lg5 16 ls5 = some (nI (Val fr to ya K mk qu nn g k sh d), q1) := by
  have hFU : 20 < FU := by rw [FU_eq]; decide
  obtain ⟨far', st', w1, w2, w3, w4, w5, w6⟩ := findWay_ok hK hC G1 S1 E (show d < 100000 by omega) wc ws wy far wst
  unfold f_ShutWays_bestSum_0
  rw [w1, Option.bind_some]
  dsimp only
  rw [there_ok w2, Option.bind_some]
  have main : ∀ y0 : Int32, y0 = nI (yvl (dy fr to ya K mk qu sh d)) → ∃ q1, f_ShutWays_bestSum_0_41 (nI k) gI y0 (nI d) market quay hasOdd oddM oddQ (nI nn) (nI (dw fr to ya K mk qu sh d).length) (nI (mskA 0 (dw fr to ya K mk qu sh d))) (nI (dy fr to ya K mk qu sh d)) (nI K) 16 F 8 far' 16 sf 16 st 16 sy 8 st' lg1 16 ls1 lg2 16 ls2 lg3 16 ls3 lg4 16 ls4 lg5 16 ls5 = some (nI (Val fr to ya K mk qu nn g k sh d), q1) := by
    intro y0 hy0
    unfold f_ShutWays_bestSum_0_41 f_ShutWays_bestSum_0_58
    generalize FU = M0 at hFU ⊢
    cases k with
    | zero =>
      rw [if_pos (show nI 0 ≤ 0 by decide), hy0]
      exact ⟨_, rfl⟩
    | succ k =>
      rw [if_neg (nI_nle (by omega) (by omega))]
      show ∃ q1, _ = some (nI (yvl (dy fr to ya K mk qu sh d) + optL g (fun s => Val fr to ya K mk qu nn g k (nx nn s sh) (d + 1)) (lpk (dw fr to ya K mk qu sh d))), q1)
      by_cases z : dw fr to ya K mk qu sh d = []
      · obtain ⟨q1, u1⟩ := sb0 hK hC G1 E hn hg (k := k) (d := d) (p := 99) (Or.inr rfl) (by omega) (by omega) S1 (nI (dw fr to ya K mk qu sh d).length) (nI (mskA 0 (dw fr to ya K mk qu sh d))) (nI (dy fr to ya K mk qu sh d)) far' st' lg1 ls1 lg2 ls2 lg3 ls3 lg4 ls4 lg5 ls5
        rw [show cI 99 = -1 from rfl] at u1
        rw [if_pos (show nI (mskA 0 (dw fr to ya K mk qu sh d)) = 0 by rw [z]; rfl), u1, Option.bind_some, hy0]
        dsimp only
        rw [nI_add, show lpk (dw fr to ya K mk qu sh d) = [99] from if_pos z]
        exact ⟨_, rfl⟩
      · have hne : ¬ nI (mskA 0 (dw fr to ya K mk qu sh d)) = 0 := by
          have hml := msk_lt (dw fr to ya K mk qu sh d) 0 (fun s hs => by have := w4 s hs; omega) (by decide)
          intro q
          have q2 := (nI_z (by omega)).mp q
          cases hL : dw fr to ya K mk qu sh d with
          | nil => exact z hL
          | cons s t =>
            have hb := msk_bit s (dw fr to ya K mk qu sh d) 0
            rw [q2, Nat.zero_testBit, Bool.false_or, hL] at hb
            simp at hb
        obtain ⟨q1, u1⟩ := lpc0 hK hC G1 E hn hg (k := k) (d := d) (by omega) (by omega) S1 z w4 y0 M0 0 (-1) (nI (dw fr to ya K mk qu sh d).length) (nI (mskA 0 (dw fr to ya K mk qu sh d))) (nI (dy fr to ya K mk qu sh d)) far' st' lg1 ls1 lg2 ls2 lg3 ls3 lg4 ls4 lg5 ls5 (Nat.zero_le _) (by omega) (Or.inl ⟨rfl, fun t ht => absurd ht (Nat.not_lt_zero _)⟩)
        rw [nI_0] at u1
        rw [if_neg hne, u1, hy0, nI_add, show lpk (dw fr to ya K mk qu sh d) = dw fr to ya K mk qu sh d from if_neg z]
        exact ⟨_, rfl⟩
  by_cases z : dw fr to ya K mk qu sh d = []
  · rw [if_pos z, if_pos rfl]
    exact main 999 (by unfold yvl; rw [if_neg (w6.mp z)]; rfl)
  · rw [if_neg z, if_neg one_ne]
    exact main _ (by unfold yvl; rw [if_pos (Classical.byContradiction (fun q => z (w6.mpr q)))])
end Levels
