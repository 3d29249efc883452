/-! ===== ends, councils, nights ===== -/
def EndsC (C : Nat) (mk qu : Nat → Nat) (market quay hasOdd oddM oddQ : Int32) : Prop := ∀ d, d < 100000 → f_Plan_marketOf (nI d) market hasOdd oddM = some (nI (mk d)) ∧ f_Plan_quayOf (nI d) quay hasOdd oddQ = some (nI (qu d)) ∧ mk d < C ∧ qu d < C ∧ mk d ≠ qu d
def EndsM (mk qu : Nat → Nat) (tw : Int32) (en : Nat → Int32) : Prop := ∀ d, d < 100000 → f_ShutWaysModel_market tw (nI d) 4 en = some (nI (mk d)) ∧ f_ShutWaysModel_quay tw (nI d) 4 en = some (nI (qu d))
theorem nI_par {d : Nat} (h : d < 2 ^ 31) : nI d &&& 1 = nI (d % 2) := pk_andN (m := 1) (by omega) 1 (by decide)
theorem nI_rem2 {d : Nat} (h : d < 2 ^ 31) : nI d - nI d / 2 * 2 = nI (d % 2) := pk_rem (d := 2) h (by decide) (by decide)
theorem ends_ex {C : Nat} {market quay hasOdd oddM oddQ tw : Int32} {en : Nat → Int32} (h1 : IEnds C market quay (en 0) (en 1)) (h2 : (hasOdd = 0 ∧ tw = 0) ∨ (hasOdd = 1 ∧ tw = 1 ∧ IEnds C oddM oddQ (en 2) (en 3))) : ∃ mk qu : Nat → Nat, EndsC C mk qu market quay hasOdd oddM oddQ ∧ EndsM mk qu tw en := by
  obtain ⟨a, b, a1, a2, a3, a4, a5, a6, a7⟩ := h1
  have z0 : (0 : Int32).toNatClampNeg = 0 := by decide
  have z1 : (1 : Int32).toNatClampNeg = 1 := by decide
  have z2 : (2 : Int32).toNatClampNeg = 2 := by decide
  have z3 : (3 : Int32).toNatClampNeg = 3 := by decide
  have g0 : ∀ k : Option Int32, gix 0 4 k = k := fun k => gixN (i := 0) (by decide) (by decide)
  have g1 : ∀ k : Option Int32, gix 1 4 k = k := fun k => gixN (i := 1) (by decide) (by decide)
  have g2 : ∀ k : Option Int32, gix 2 4 k = k := fun k => gixN (i := 2) (by decide) (by decide)
  have g3 : ∀ k : Option Int32, gix 3 4 k = k := fun k => gixN (i := 3) (by decide) (by decide)
  rcases h2 with ⟨e1, e2⟩ | ⟨e1, e2, a', b', b1, b2, b3, b4, b5, b6, b7⟩
  · refine ⟨fun _ => a, fun _ => b, fun d _ => ⟨?_, ?_, a1, a2, a3⟩, fun d _ => ⟨?_, ?_⟩⟩
    · unfold f_Plan_marketOf f_Plan_turnOf f_Plan_turnOf_14 f_Plan_marketOf_19
      rw [if_pos e1, Option.bind_some, if_pos rfl, a4]
    · unfold f_Plan_quayOf f_Plan_turnOf f_Plan_turnOf_14 f_Plan_quayOf_19
      rw [if_pos e1, Option.bind_some, if_pos rfl, a6]
    · unfold f_ShutWaysModel_market f_ShutWaysModel_market_26 f_ShutWaysModel_market_32
      rw [if_pos e2, g0, z0, a5]
    · unfold f_ShutWaysModel_quay f_ShutWaysModel_quay_26 f_ShutWaysModel_quay_32
      rw [if_pos e2, g1, z1, a7]
  · refine ⟨fun d => if d % 2 = 1 then a' else a, fun d => if d % 2 = 1 then b' else b, fun d hd => ?_, fun d hd => ?_⟩
    · unfold f_Plan_marketOf f_Plan_quayOf f_Plan_turnOf f_Plan_turnOf_14 f_Plan_marketOf_19 f_Plan_quayOf_19
      rw [if_neg (by rw [e1]; exact one_ne), Option.bind_some, Option.bind_some, nI_par (by omega)]
      by_cases c : d % 2 = 1
      · simp only [c, if_pos, if_neg (show ¬ nI 1 = 0 by decide), b4, b6]
        exact ⟨trivial, trivial, b1, b2, b3⟩
      · have c' : d % 2 = 0 := by omega
        simp only [c', if_pos (show nI 0 = 0 from rfl), if_neg (show ¬ (0 : Nat) = 1 by decide), a4, a6]
        exact ⟨trivial, trivial, a1, a2, a3⟩
    · unfold f_ShutWaysModel_market f_ShutWaysModel_market_26 f_ShutWaysModel_market_32 f_ShutWaysModel_quay f_ShutWaysModel_quay_26 f_ShutWaysModel_quay_32
      have htw : ¬ tw = 0 := by rw [e2]; exact one_ne
      simp only [if_neg htw, nI_rem2 (show d < 2 ^ 31 by omega), g0, g1, g2, g3, z0, z1, z2, z3]
      by_cases c : d % 2 = 1
      · simp only [c, if_pos (show nI 1 = 1 from rfl), if_pos, b5, b7]
        exact ⟨trivial, trivial⟩
      · have c' : d % 2 = 0 := by omega
        simp only [c', if_neg (show ¬ nI 0 = 1 by decide), if_neg (show ¬ (0 : Nat) = 1 by decide), a5, a7]
        exact ⟨trivial, trivial⟩
def pkf (kd : Nat) (ya : Nat → Nat) (b s : Nat) : Nat := if kd = 1 then s else if kd = 2 then (if ya b < ya s ∨ (ya s = ya b ∧ s < b) then s else b) else if kd = 3 then (if s < b then s else b) else b
def pkl (kd : Nat) (ya : Nat → Nat) : List Nat → Nat
  | [] => 99
  | b :: t => t.foldl (pkf kd ya) b
def cI (p : Nat) : Int32 := if p = 99 then -1 else nI p
theorem drop_getD {L : List Nat} {i : Nat} (h : i < L.length) : L.drop i = L.getD i 0 :: L.drop (i + 1) := by
  rw [List.drop_eq_getElem_cons h]
  congr 1
  rw [List.getD_eq_getElem?_getD, List.getElem?_eq_getElem h]
  rfl
theorem getD_mem {L : List Nat} {i : Nat} (h : i < L.length) : L.getD i 0 ∈ L := by
  rw [List.getD_eq_getElem?_getD, List.getElem?_eq_getElem h]
  exact List.getElem_mem h
theorem pkf_lt {kd K b s : Nat} {ya : Nat → Nat} (hb : b < K) (hs : s < K) : pkf kd ya b s < K := by
  unfold pkf
  split
  · exact hs
  · split
    · split <;> assumption
    · split
      · split <;> assumption
      · exact hb
theorem pkfold_lt {kd K : Nat} {ya : Nat → Nat} : ∀ (t : List Nat) (b : Nat), b < K → (∀ s, s ∈ t → s < K) → t.foldl (pkf kd ya) b < K
  | [], _, hb, _ => hb
  | s :: t, b, hb, h => pkfold_lt t _ (pkf_lt hb (h s (List.mem_cons_self ..))) (fun u hu => h u (List.mem_cons_of_mem _ hu))
theorem pkl_lt {kd K : Nat} {ya : Nat → Nat} {L : List Nat} (h : ∀ s, s ∈ L → s < K) : pkl kd ya L < K ∨ pkl kd ya L = 99 := by
  cases L with
  | nil => exact Or.inr rfl
  | cons b t => exact Or.inl (pkfold_lt t b (h b (List.mem_cons_self ..)) (fun u hu => h u (List.mem_cons_of_mem _ hu)))
section Pick
variable {K : Nat} {ya : Nat → Nat} {yF S : Nat → Int32} {L : List Nat}
theorem longest10 (hK : K ≤ 16) (hy : ∀ s, s < K → yF s = nI (ya s) ∧ ya s ≤ 198) (hl : L.length ≤ 7) (hS : ∀ i, i < L.length → S i = nI (L.getD i 0)) (hm : ∀ s, s ∈ L → s < K) : ∀ (n i b : Nat), i ≤ L.length → L.length - i < n → b < K → f_Longest_pick_10 n (nI b) (nI i) (nI L.length) 8 S 16 yF = some (nI ((L.drop i).foldl (pkf 2 ya) b)) := by
  intro n
  induction n with
  | zero => intro i b _ h; omega
  | succ n ih =>
    intro i b hi hn hb
    rw [show f_Longest_pick_10 (n + 1) = b_Longest_pick_10 (f_Longest_pick_10 n) from rfl]
    unfold b_Longest_pick_10 f_Longest_pick_60 f_Longest_pick_63
    by_cases c : i = L.length
    · rw [if_pos (nI_le (by omega) (by omega)), c, List.drop_length]
      rfl
    · have hi' : i < L.length := by omega
      rw [if_neg (nI_ge hi' (by omega)), gixN (by omega) (by decide), nIc (by omega), hS i hi', drop_getD hi']
      have hs := hm _ (getD_mem hi')
      generalize L.getD i 0 = s at hs ⊢
      obtain ⟨e1, e2⟩ := hy s hs
      obtain ⟨e3, e4⟩ := hy b hb
      simp only [nmI, gixN (show s < 16 by omega) (by decide : 16 < 2 ^ 31), gixN (show b < 16 by omega) (by decide : 16 < 2 ^ 31), nIc (show s < 2 ^ 31 by omega), nIc (show b < 2 ^ 31 by omega), e1, e3, nI_1, List.foldl_cons]
      have key : ∀ u, u < K → pkf 2 ya b s = u → f_Longest_pick_10 n (nI u) (nI (i + 1)) (nI L.length) 8 S 16 yF = some (nI ((L.drop (i + 1)).foldl (pkf 2 ya) (pkf 2 ya b s))) := by
        intro u hu eu
        rw [eu]
        exact ih (i + 1) u (by omega) (by omega) hu
      by_cases c1 : ya b < ya s
      · have : (0 : Int32) < nI (ya s) - nI (ya b) := by rw [pk_sub (by omega)]; exact nI_lt (a := 0) (by omega) (by omega)
        rw [if_pos this]
        exact key s hs (by unfold pkf; simp [c1])
      · by_cases c2 : ya s = ya b
        · have : nI (ya s) - nI (ya b) = 0 := by rw [pk_sub (by omega), c2, Nat.sub_self]; rfl
          rw [this, if_neg (by decide), if_pos rfl]
          by_cases c3 : s < b
          · rw [if_neg (nI_ge c3 (by omega))]
            exact key s hs (by unfold pkf; simp [c2, c3])
          · rw [if_pos (nI_le (by omega) (by omega))]
            exact key b hb (by unfold pkf; simp [c2, c3])
        · have h1 : nI (ya s) - nI (ya b) < 0 := pk_sneg (by omega) (by omega)
          rw [if_neg (Int32.not_lt.mpr (Int32.le_of_lt h1)), if_neg (fun z => by rw [z] at h1; exact absurd h1 (by decide))]
          exact key b hb (by unfold pkf; simp [c1, c2])
theorem least10 (hK : K ≤ 16) (hl : L.length ≤ 7) (hS : ∀ i, i < L.length → S i = nI (L.getD i 0)) (hm : ∀ s, s ∈ L → s < K) : ∀ (n i b : Nat), i ≤ L.length → L.length - i < n → b < K → f_Least_pick_10 n (nI b) (nI i) (nI L.length) 8 S = some (nI ((L.drop i).foldl (pkf 3 ya) b)) := by
  intro n
  induction n with
  | zero => intro i b _ h; omega
  | succ n ih =>
    intro i b hi hn hb
    rw [show f_Least_pick_10 (n + 1) = b_Least_pick_10 (f_Least_pick_10 n) from rfl]
    unfold b_Least_pick_10
    by_cases c : i = L.length
    · rw [if_pos (nI_le (by omega) (by omega)), c, List.drop_length]
      rfl
    · have hi' : i < L.length := by omega
      rw [if_neg (nI_ge hi' (by omega)), gixN (by omega) (by decide), nIc (by omega), hS i hi', drop_getD hi']
      have hs := hm _ (getD_mem hi')
      generalize L.getD i 0 = s at hs ⊢
      simp only [nmI, nI_1, List.foldl_cons]
      have key : ∀ u, u < K → pkf 3 ya b s = u → f_Least_pick_10 n (nI u) (nI (i + 1)) (nI L.length) 8 S = some (nI ((L.drop (i + 1)).foldl (pkf 3 ya) (pkf 3 ya b s))) := by
        intro u hu eu
        rw [eu]
        exact ih (i + 1) u (by omega) (by omega) hu
      by_cases c1 : s < b
      · rw [if_pos (nI_lt c1 (by omega))]
        exact key s hs (by unfold pkf; simp [c1])
      · rw [if_neg (nI_nlt (by omega) (by omega))]
        exact key b hb (by unfold pkf; simp [c1])
theorem fold1 : ∀ (t : List Nat) (b : Nat), t.foldl (pkf 1 ya) b = (b :: t).getD t.length 0
  | [], _ => rfl
  | s :: t, b => by
    show t.foldl (pkf 1 ya) (pkf 1 ya b s) = _
    rw [show pkf 1 ya b s = s from rfl, fold1 t s]
    rfl
theorem fold0 : ∀ (t : List Nat) (b : Nat), t.foldl (pkf 0 ya) b = b
  | [], _ => rfl
  | s :: t, b => by
    show t.foldl (pkf 0 ya) (pkf 0 ya b s) = _
    rw [show pkf 0 ya b s = b from rfl, fold0 t b]
theorem there_ok (hl : L.length ≤ 7) : f_Way_isThere (nI L.length) = some (if L = [] then 0 else 1) := by
  unfold f_Way_isThere f_Way_isThere_12
  cases L with
  | nil => rfl
  | cons b t =>
    have hl' : t.length + 1 ≤ 7 := hl
    rw [if_neg (nI_nle (show 0 < (b :: t).length from Nat.succ_pos _) (show t.length + 1 < 2 ^ 31 by omega)), if_neg (by intro z; cases z)]
    rfl
theorem cI_lt {p : Nat} (h : p < 99) : cI p = nI p := if_neg (by omega)
theorem g08 {α : Type} (k : Option α) : gix 0 8 k = k := gixN (i := 0) (by decide) (by decide)
theorem g016 {α : Type} (k : Option α) : gix 0 16 k = k := gixN (i := 0) (by decide) (by decide)
theorem cl0 : (0 : Int32).toNatClampNeg = 0 := by decide
theorem shuts_first (hK : K ≤ 16) (hl : L.length ≤ 7) (hS : ∀ i, i < L.length → S i = nI (L.getD i 0)) (hm : ∀ s, s ∈ L → s < K) : f_Council_shuts_First (nI L.length) 8 S = some (cI (pkl 0 ya L)) := by
  unfold f_Council_shuts_First f_Council_shuts_First_17 f_First_pick
  rw [there_ok hl, Option.bind_some]
  cases L with
  | nil => rfl
  | cons b t =>
    rw [if_neg (show ¬ (b :: t) = [] from List.cons_ne_nil _ _), if_neg one_ne, g08, cl0, hS 0 (Nat.succ_pos _), Option.bind_some]
    show _ = some (cI (t.foldl (pkf 0 ya) b))
    rw [fold0, cI_lt (by have := hm b (List.mem_cons_self ..); omega)]
    rfl
theorem shuts_last (hK : K ≤ 16) (hl : L.length ≤ 7) (hS : ∀ i, i < L.length → S i = nI (L.getD i 0)) (hm : ∀ s, s ∈ L → s < K) : f_Council_shuts_Last (nI L.length) 8 S = some (cI (pkl 1 ya L)) := by
  unfold f_Council_shuts_Last f_Council_shuts_Last_17 f_Last_pick
  rw [there_ok hl, Option.bind_some]
  cases L with
  | nil => rfl
  | cons b t =>
    have hl' : t.length + 1 ≤ 7 := hl
    have hx := hm _ (getD_mem (L := b :: t) (i := t.length) (Nat.lt_succ_self _))
    rw [if_neg (show ¬ (b :: t) = [] from List.cons_ne_nil _ _), if_neg one_ne, show nI (b :: t).length - 1 = nI t.length from nI_pred _, gixN (by omega) (by decide), nIc (by omega), hS _ (Nat.lt_succ_self _), Option.bind_some]
    show _ = some (cI (t.foldl (pkf 1 ya) b))
    rw [fold1, cI_lt (by omega)]
theorem shuts_longest (hK : K ≤ 16) (hy : ∀ s, s < K → yF s = nI (ya s) ∧ ya s ≤ 198) (hl : L.length ≤ 7) (hS : ∀ i, i < L.length → S i = nI (L.getD i 0)) (hm : ∀ s, s ∈ L → s < K) : f_Council_shuts_Longest (nI L.length) 8 S 16 yF = some (cI (pkl 2 ya L)) := by
  unfold f_Council_shuts_Longest f_Council_shuts_Longest_17 f_Longest_pick
  have hFU : 20 < FU := by rw [FU_eq]; decide
  generalize FU = N at hFU ⊢
  rw [there_ok hl, Option.bind_some]
  cases L with
  | nil => rfl
  | cons b t =>
    have hl' : t.length + 1 ≤ 7 := hl
    have hb := hm b (List.mem_cons_self ..)
    have h := longest10 hK hy hl hS hm N 1 b (Nat.succ_pos _) (by omega) hb
    rw [if_neg (show ¬ (b :: t) = [] from List.cons_ne_nil _ _), if_neg one_ne, g08, cl0, hS 0 (Nat.succ_pos _)]
    show ((f_Longest_pick_10 N (nI b) (nI 1) _ 8 S 16 yF).bind _) = _
    rw [h, Option.bind_some]
    show _ = some (cI (t.foldl (pkf 2 ya) b))
    rw [cI_lt (by have := pkfold_lt (kd := 2) (ya := ya) t b hb (fun u hu => hm u (List.mem_cons_of_mem _ hu)); omega)]
    rfl
theorem shuts_least (hK : K ≤ 16) (hl : L.length ≤ 7) (hS : ∀ i, i < L.length → S i = nI (L.getD i 0)) (hm : ∀ s, s ∈ L → s < K) : f_Council_shuts_Least (nI L.length) 8 S = some (cI (pkl 3 ya L)) := by
  unfold f_Council_shuts_Least f_Council_shuts_Least_17 f_Least_pick
  have hFU : 20 < FU := by rw [FU_eq]; decide
  generalize FU = N at hFU ⊢
  rw [there_ok hl, Option.bind_some]
  cases L with
  | nil => rfl
  | cons b t =>
    have hl' : t.length + 1 ≤ 7 := hl
    have hb := hm b (List.mem_cons_self ..)
    have h := least10 (ya := ya) hK hl hS hm N 1 b (Nat.succ_pos _) (by omega) hb
    rw [if_neg (show ¬ (b :: t) = [] from List.cons_ne_nil _ _), if_neg one_ne, g08, cl0, hS 0 (Nat.succ_pos _)]
    show ((f_Least_pick_10 N (nI b) (nI 1) _ 8 S).bind _) = _
    rw [h, Option.bind_some]
    show _ = some (cI (t.foldl (pkf 3 ya) b))
    rw [cI_lt (by have := pkfold_lt (kd := 3) (ya := ya) t b hb (fun u hu => hm u (List.mem_cons_of_mem _ hu)); omega)]
    rfl
theorem picked18 {kd : Nat} (hkd : kd < 4) (hK : K ≤ 16) (hy : ∀ s, s < K → yF s = nI (ya s) ∧ ya s ≤ 198) (hl : L.length ≤ 7) (hS : ∀ i, i < L.length → S i = nI (L.getD i 0)) (hm : ∀ s, s ∈ L → s < K) : ∀ (n i b : Nat), i ≤ L.length → L.length - i < n → b < K → f_ShutWaysModel_picked_18 n (nI b) (nI i) (nI kd) (nI L.length) 16 S 16 yF = some (nI ((L.drop i).foldl (pkf kd ya) b)) := by
  intro n
  induction n with
  | zero => intro i b _ h; omega
  | succ n ih =>
    intro i b hi hn hb
    rw [show f_ShutWaysModel_picked_18 (n + 1) = b_ShutWaysModel_picked_18 (f_ShutWaysModel_picked_18 n) from rfl]
    unfold b_ShutWaysModel_picked_18
    by_cases c : i = L.length
    · rw [if_pos (nI_le (by omega) (by omega)), c, List.drop_length]
      rfl
    · have hi' : i < L.length := by omega
      rw [if_neg (nI_ge hi' (by omega)), gixN (by omega) (by decide), nIc (by omega), hS i hi', drop_getD hi']
      have hs := hm _ (getD_mem hi')
      generalize L.getD i 0 = s at hs ⊢
      obtain ⟨e1, e2⟩ := hy s hs
      obtain ⟨e3, e4⟩ := hy b hb
      simp only [f_ShutWaysModel_picked_68, f_ShutWaysModel_picked_72, f_ShutWaysModel_picked_73, f_ShutWaysModel_picked_96, f_ShutWaysModel_picked_109, f_ShutWaysModel_picked_113, f_ShutWaysModel_picked_114, f_ShutWaysModel_picked_126, nmI, gixN (show s < 16 by omega) (by decide : 16 < 2 ^ 31), gixN (show b < 16 by omega) (by decide : 16 < 2 ^ 31), nIc (show s < 2 ^ 31 by omega), nIc (show b < 2 ^ 31 by omega), e1, e3, nI_1, List.foldl_cons, if_neg one_ne, reduceIte]
      have key : ∀ u, u < K → pkf kd ya b s = u → f_ShutWaysModel_picked_18 n (nI u) (nI (i + 1)) (nI kd) (nI L.length) 16 S 16 yF = some (nI ((L.drop (i + 1)).foldl (pkf kd ya) (pkf kd ya b s))) := by
        intro u hu eu
        rw [eu]
        exact ih (i + 1) u (by omega) (by omega) hu
      have l1 : (nI (ya b) < nI (ya s)) ↔ ya b < ya s := nI_ltI (by omega) (by omega)
      have l2 : (nI (ya s) = nI (ya b)) ↔ ya s = ya b := nI_eq (by omega) (by omega)
      have l3 : (nI b ≤ nI s) ↔ b ≤ s := nI_leI (by omega) (by omega)
      have l4 : (nI kd = 1) ↔ kd = 1 := nI_eq (b := 1) (by omega) (by omega)
      have l5 : (nI kd = 2) ↔ kd = 2 := nI_eq (b := 2) (by omega) (by omega)
      have l6 : (nI kd = 3) ↔ kd = 3 := nI_eq (b := 3) (by omega) (by omega)
      simp only [l1, l2, l3, l4, l5, l6]
      have hb' := key b hb
      have hs' := key s hs
      unfold pkf at hb' hs'
      unfold pkf
      rcases (show kd = 0 ∨ kd = 1 ∨ kd = 2 ∨ kd = 3 by omega) with rfl | rfl | rfl | rfl
      · simp at hb' ⊢
        exact hb'
      · simp at hs' ⊢
        exact hs'
      · by_cases c1 : ya b < ya s
        · simp [c1] at hs' ⊢; exact hs'
        · by_cases c2 : ya s = ya b
          · by_cases c3 : b ≤ s
            · have c4 : ¬ s < b := by omega
              simp [c2, c3, c4] at hb' ⊢; exact hb'
            · have c4 : s < b := by omega
              simp [c2, c3, c4] at hs' ⊢; exact hs'
          · simp [c1, c2] at hb' ⊢; exact hb'
      · by_cases c3 : b ≤ s
        · have c4 : ¬ s < b := by omega
          simp [c3, c4] at hb' ⊢; exact hb'
        · have c4 : s < b := by omega
          simp [c3, c4] at hs' ⊢; exact hs'
theorem picked_ok {kd : Nat} (hkd : kd < 4) (hK : K ≤ 16) (hy : ∀ s, s < K → yF s = nI (ya s) ∧ ya s ≤ 198) (hl : L.length ≤ 7) (hS : ∀ i, i < L.length → S i = nI (L.getD i 0)) (hm : ∀ s, s ∈ L → s < K) : f_ShutWaysModel_picked (nI kd) (nI L.length) 16 S 16 yF = some (cI (pkl kd ya L)) := by
  unfold f_ShutWaysModel_picked
  have hFU : 20 < FU := by rw [FU_eq]; decide
  generalize FU = N at hFU ⊢
  cases L with
  | nil => rfl
  | cons b t =>
    have hl' : t.length + 1 ≤ 7 := hl
    have hb := hm b (List.mem_cons_self ..)
    have h := picked18 hkd hK hy hl hS hm N 1 b (Nat.succ_pos _) (by omega) hb
    rw [if_neg (nI_ne0 (show 0 < (b :: t).length from Nat.succ_pos _) (show t.length + 1 < 2 ^ 31 by omega)), g016, cl0, hS 0 (Nat.succ_pos _)]
    show (f_ShutWaysModel_picked_18 N (nI b) (nI 1) _ _ 16 S 16 yF) = _
    rw [h]
    show _ = some (cI (t.foldl (pkf kd ya) b))
    rw [cI_lt (by have := pkfold_lt (kd := kd) (ya := ya) t b hb (fun u hu => hm u (List.mem_cons_of_mem _ hu)); omega)]
    rfl
end Pick
