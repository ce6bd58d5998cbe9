-- THE PURE PART: small numbers, steps of the lifted functions
theorem brT {β : Type} {c : Prop} [Decidable c] {a b : Option β} {r : Option β} (h : c) (k : a = r) : br c a b = r := by unfold br; rw [if_pos h]; exact k
theorem brF {β : Type} {c : Prop} [Decidable c] {a b : Option β} {r : Option β} (h : ¬ c) (k : b = r) : br c a b = r := by unfold br; rw [if_neg h]; exact k
theorem gdT {β : Type} {c : Bool} {a : Option β} {r : Option β} (h : c = true) (k : a = r) : gd c a = r := by unfold gd; rw [if_pos h]; exact k
theorem sqT {α β : Type} {e : α} {k : α → Option β} {r : Option β} (h : k e = r) : sq e k = r := h
theorem bd0T {ω : Type} {e : Option Mm} {k : Mm → Option ω} {w : Mm} {r : Option ω} (h : e = some w) (g : k w = r) : bd0 e k = r := by rw [h]; exact g
theorem bd1T {α ω : Type} {e : Option (α × Mm)} {k : α → Mm → Option ω} {x : α} {w : Mm} {r : Option ω} (h : e = some (x, w)) (g : k x w = r) : bd1 e k = r := by rw [h]; exact g
theorem bd2T {α β ω : Type} {e : Option (α × β × Mm)} {k : α → β → Mm → Option ω} {x : α} {y : β} {w : Mm} {r : Option ω} (h : e = some (x, y, w)) (g : k x y w = r) : bd2 e k = r := by rw [h]; exact g
theorem bnT {α ω : Type} {e : Option ((Nat ⊕ α) × Mm)} {k : α → Mm → Option ω} {x : α} {w : Mm} {r : Option ω} (h : e = some (.inr x, w)) (g : k x w = r) : bn e k = r := by rw [h]; exact g
theorem bxT {α ω : Type} {e : Option ((Nat ⊕ α) × Mm)} {k : α → Mm → Option ((Nat ⊕ ω) × Mm)} {x : α} {w : Mm} {r : Option ((Nat ⊕ ω) × Mm)} (h : e = some (.inr x, w)) (g : k x w = r) : bx e k = r := by rw [h]; exact g
theorem bxE {α ω : Type} {e : Option ((Nat ⊕ α) × Mm)} {k : α → Mm → Option ((Nat ⊕ ω) × Mm)} {x : Nat} {w : Mm} {r : Option ((Nat ⊕ ω) × Mm)} (h : e = some (.inl x, w)) (g : some (.inl x, w) = r) : bx e k = r := by rw [h]; exact g
theorem gI_pI {w : Mm} {c k i : Nat} {v : Int32} {c' k' i' : Nat} : gI (pI w c k i v) c' k' i' = if c' = c ∧ k' = k ∧ i' = i then v else gI w c' k' i' := rfl
theorem p2_pI {w : Mm} {c k i : Nat} {v : Int32} : (pI w c k i v).2 = w.2 := rfl
theorem gR_2 {w w' : Mm} (h : w'.2 = w.2) : gR w' = gR w := by unfold gR; rw [h]
theorem gL_2 {w w' : Mm} (h : w'.2 = w.2) : gL w' = gL w := by unfold gL; rw [h]
theorem gS_2 {w w' : Mm} (h : w'.2 = w.2) : gS w' = gS w := by unfold gS; rw [h]
theorem gZ_2 {w w' : Mm} (h : w'.2 = w.2) : gZ w' = gZ w := by unfold gZ; rw [h]
theorem shD_2 {w w' : Mm} (h : w'.2 = w.2) {c k : Nat} : shD w' c k = shD w c k := by unfold shD; rw [gS_2 h]
theorem lit_nI {n : Nat} : (@OfNat.ofNat Int32 n Int32.instOfNat) = nI n := rfl
theorem nI_mul (a b : Nat) : nI a * nI b = nI (a * b) := (Int32.ofNat_mul a b).symm
theorem nI_sub {a b : Nat} (h : b ≤ a) : nI a - nI b = nI (a - b) := by
  have e : a = (a - b) + b := by omega
  have q : nI (a - b) + nI b = nI a := by rw [nI_add, ← e]
  rw [← q]
  exact Int32.add_sub_cancel _ _
theorem nI_pr {n : Nat} (h : 1 ≤ n) : nI n - 1 = nI (n - 1) := by
  obtain ⟨m, rfl⟩ : ∃ m, n = m + 1 := ⟨n - 1, by omega⟩
  exact nI_pred m
theorem vB_nI {i n : Nat} (h : i < 2 ^ 31) : (vB (nI i) n = true) ↔ i < n := by
  unfold vB
  rw [nI_clamp h]
  have := nI_pos h
  simp only [Bool.not_eq_true', Bool.or_eq_false_iff, decide_eq_false_iff_not]
  constructor
  · intro q; omega
  · intro q; exact ⟨this, by omega⟩
theorem nI_m1 {n : Nat} (h : n < 2 ^ 31) : nI n = -1 ↔ False := by
  refine ⟨fun q => ?_, False.elim⟩
  have e := congrArg Int32.toInt q
  rw [nI_toInt h] at e
  have : (-1 : Int32).toInt = -1 := by decide
  omega
-- THE ABSTRACT GARDEN: fields of numbers (0: day, done, whispers, cycles, departures; 1 hush, 2 heard, 3 latest of a hedge; 4 patience, 5 petals, 6 count, 7 left of a rose), rows
abbrev Gs : Type := (Nat → Nat → Int32) × (Nat → List Nat)
def sg (S : Gs) (c i : Nat) : Int32 := S.1 c i
def sr (S : Gs) (h : Nat) : List Nat := S.2 h
def pg (S : Gs) (c i : Nat) (v : Int32) : Gs := (fun c' i' => if c' = c ∧ i' = i then v else S.1 c' i', S.2)
def pr (S : Gs) (h : Nat) (l : List Nat) : Gs := (S.1, fun h' => if h' = h then l else S.2 h')
theorem sg_pg {S : Gs} {c i : Nat} {v : Int32} {c' i' : Nat} : sg (pg S c i v) c' i' = if c' = c ∧ i' = i then v else sg S c' i' := rfl
theorem sg_pr {S : Gs} {h : Nat} {l : List Nat} : sg (pr S h l) = sg S := rfl
theorem sr_pg {S : Gs} {c i : Nat} {v : Int32} : sr (pg S c i v) = sr S := rfl
theorem sr_pr {S : Gs} {h : Nat} {l : List Nat} {h' : Nat} : sr (pr S h l) h' = if h' = h then l else sr S h' := rfl
/-- a row of the class or the reference holds a list -/
def RW (f : Nat → Int32) (l : List Nat) : Prop := ∀ p x, l[p]? = some x → f p = nI x
/-- the class's garden g is S -/
def RA (g H R : Nat) (S : Gs) (w : Mm) : Prop := (gI w 19 g 2 = nI H ∧ gI w 19 g 3 = nI R) ∧
  (gI w 19 g 4 = sg S 0 0 ∧ gI w 19 g 5 = sg S 0 1 ∧ gI w 19 g 6 = sg S 0 2 ∧ gI w 19 g 7 = sg S 0 3 ∧ gI w 19 g 8 = sg S 0 4) ∧
  (∀ h, h < H → gI w 22 (8 * g + h) 0 = sg S 1 h ∧ gI w 22 (8 * g + h) 1 = sg S 2 h ∧ gI w 22 (8 * g + h) 2 = sg S 3 h ∧ gI w 22 (8 * g + h) 3 = nI (sr S h).length ∧ RW (fun p => gI w 23 (8 * g + h) p) (sr S h)) ∧
  (∀ r, r < R → gI w 24 (8 * g + r) 0 = sg S 4 r ∧ gI w 24 (8 * g + r) 1 = sg S 5 r ∧ gI w 24 (8 * g + r) 2 = sg S 6 r ∧ gI w 24 (8 * g + r) 3 = sg S 7 r)
/-- the reference's plan tells H hedges and R roses -/
def PB (H R : Nat) (S : Gs) (w : Mm) : Prop := vok 44 (gR w 32 0 11) = true ∧ shD w 44 (gR w 32 0 11 - 1) = true ∧ shD w 45 (gR w 32 0 11 - 1) = true ∧ shD w 46 (gR w 32 0 11 - 1) = true ∧
  gI w 44 (gR w 32 0 11 - 1) 0 = nI H ∧ gI w 44 (gR w 32 0 11 - 1) 1 = nI R ∧ (∀ h, h < H → gI w 45 (gR w 32 0 11 - 1) h = sg S 1 h) ∧ (∀ r, r < R → gI w 46 (gR w 32 0 11 - 1) r = sg S 4 r)
/-- the reference's state k is S -/
def RB (k H R : Nat) (S : Gs) (w : Mm) : Prop := PB H R S w ∧
  (gI w 55 k 0 = sg S 0 0 ∧ gI w 55 k 1 = sg S 0 1 ∧ gI w 55 k 2 = sg S 0 2 ∧ gI w 55 k 3 = sg S 0 3) ∧
  (∀ h, h < H → gI w 58 k h = sg S 2 h ∧ gI w 59 k h = sg S 3 h ∧ gI w 57 k h = nI (sr S h).length ∧ RW (fun p => gI w 56 k (16 * h + p)) (sr S h)) ∧
  (∀ r, r < R → gI w 60 k r = sg S 5 r ∧ gI w 61 k r = sg S 6 r ∧ gI w 62 k r = sg S 7 r)
-- what a function of the class's garden g, of the reference's state k may touch
def ownA (g c k : Nat) : Prop := (11 ≤ c ∧ c ≤ 18) ∨ (c = 19 ∧ k = g) ∨ ((c = 22 ∨ c = 23 ∨ c = 24) ∧ 8 * g ≤ k ∧ k < 8 * g + 8)
def UA (g : Nat) (w w' : Mm) : Prop := (∀ c k i, ¬ ownA g c k → gI w' c k i = gI w c k i) ∧ w'.2 = w.2
theorem UA_rf {g : Nat} {w : Mm} : UA g w w := ⟨fun _ _ _ _ => rfl, rfl⟩
theorem UA_tr {g : Nat} {w w1 w2 : Mm} (h : UA g w w1) (h1 : UA g w1 w2) : UA g w w2 := ⟨fun c k i q => (h1.1 c k i q).trans (h.1 c k i q), h1.2.trans h.2⟩
theorem UA_p {g c k i : Nat} {v : Int32} {w w1 : Mm} (h : UA g w w1) (q : ownA g c k) : UA g w (pI w1 c k i v) := by
  refine UA_tr h ⟨fun c' k' i' q' => ?_, rfl⟩
  rw [gI_pI, if_neg]
  rintro ⟨rfl, rfl, -⟩
  exact q' q
def ownB (s c k i : Nat) : Prop := (c = 32 ∧ k = 0 ∧ 18 ≤ i) ∨ (39 ≤ c ∧ c ≤ 43) ∨ (55 ≤ c ∧ c ≤ 62 ∧ k = s)
def UB (s : Nat) (w w' : Mm) : Prop := (∀ c k i, ¬ ownB s c k i → gI w' c k i = gI w c k i) ∧ w'.2 = w.2
theorem UB_rf {g : Nat} {w : Mm} : UB g w w := ⟨fun _ _ _ _ => rfl, rfl⟩
theorem UB_tr {g : Nat} {w w1 w2 : Mm} (h : UB g w w1) (h1 : UB g w1 w2) : UB g w w2 := ⟨fun c k i q => (h1.1 c k i q).trans (h.1 c k i q), h1.2.trans h.2⟩
theorem UB_p {g c k i : Nat} {v : Int32} {w w1 : Mm} (h : UB g w w1) (q : ownB g c k i) : UB g w (pI w1 c k i v) := by
  refine UB_tr h ⟨fun c' k' i' q' => ?_, rfl⟩
  rw [gI_pI, if_neg]
  rintro ⟨rfl, rfl, rfl⟩
  exact q' q
-- SEARCH IN A ROW
def plc (x : Nat) : List Nat → Nat → Option Nat
  | [], _ => none
  | a :: t, i => if a = x then some i else plc x t (i + 1)
def place (l : List Nat) (x : Nat) : Int32 := match plc x l 0 with
  | some j => nI j
  | none => -1
theorem plc_none {x : Nat} : ∀ {l : List Nat} {i : Nat}, plc x l i = none ↔ x ∉ l
  | [], i => by simp [plc]
  | a :: t, i => by
    unfold plc
    by_cases h : a = x
    · simp [h]
    · rw [if_neg h, plc_none]
      simp only [List.mem_cons, not_or]
      exact ⟨fun q => ⟨fun e => h e.symm, q⟩, fun q => q.2⟩
theorem plc_some {x j : Nat} : ∀ {l : List Nat} {i : Nat}, plc x l i = some j → i ≤ j ∧ j < i + l.length ∧ l[j - i]? = some x
  | [], i => by simp [plc]
  | a :: t, i => by
    unfold plc
    by_cases h : a = x
    · rw [if_pos h]
      intro e
      cases e
      simp [h]
    · rw [if_neg h]
      intro e
      obtain ⟨h1, h2, h3⟩ := plc_some e
      refine ⟨by omega, by simp only [List.length_cons]; omega, ?_⟩
      have e1 : j - i = (j - (i + 1)) + 1 := by omega
      rw [e1, List.getElem?_cons_succ, h3]
theorem rw_at {f : Nat → Int32} {l : List Nat} {i x : Nat} {t : List Nat} (h : RW f l) (e : l.drop i = x :: t) : f i = nI x ∧ i < l.length ∧ l.drop (i + 1) = t := by
  have h0 : l[i]? = some x := by
    have := congrArg List.head? e
    rwa [List.head?_drop] at this
  refine ⟨h i x h0, ?_, ?_⟩
  · obtain ⟨q, -⟩ := List.getElem?_eq_some_iff.mp h0
    exact q
  · have := congrArg List.tail e
    rwa [List.tail_drop] at this
theorem drop_nil {l : List Nat} {i : Nat} (e : l.drop i = []) : l.length ≤ i := List.drop_eq_nil_iff.mp e
theorem p_X3_placeOf_L2 {z x : Nat} {l : List Nat} {w : Mm} (hn : gI w 22 z 3 = nI l.length) (hw : RW (fun p => gI w 23 z p) l) (hl : l.length ≤ 16) (hb : ∀ y ∈ l, y < 2 ^ 31) (hx : x < 2 ^ 31) :
    ∀ (t : List Nat) (i n : Nat), l.drop i = t → i ≤ l.length → t.length < n → f_X3_placeOf_L2 z (nI x) n (nI i) w = match plc x t i with
      | some j => some (0, nI j, w)
      | none => some (1, nI l.length, w)
  | [], i, n + 1, e, hi, hf => by
    have := drop_nil e
    have e : l.length = i := by omega
    rw [f_X3_placeOf_L2]
    repeat (first | (refine brT ?_ ?_; focus ((simp (disch := omega) only [lit_nI, nI_leI, nI_ltI, nI_eq, nI_clamp, nI_add, nI_sub, vB_nI, Nat.add_sub_cancel, Nat.reduceSub, Nat.reduceLT, Nat.reduceLeDiff, Nat.reduceAdd, gI_pI, p2_pI, Nat.reduceEqDiff, false_and, and_false, true_and, and_true, if_false, if_true, and_self, hn, e] <;> omega); done)) | (refine brF ?_ ?_; focus ((simp (disch := omega) only [lit_nI, nI_leI, nI_ltI, nI_eq, nI_clamp, nI_add, nI_sub, vB_nI, Nat.add_sub_cancel, Nat.reduceSub, Nat.reduceLT, Nat.reduceLeDiff, Nat.reduceAdd, gI_pI, p2_pI, Nat.reduceEqDiff, false_and, and_false, true_and, and_true, if_false, if_true, and_self, hn, e] <;> omega); done)) | (refine gdT ?_ ?_; focus ((simp (disch := omega) only [lit_nI, nI_leI, nI_ltI, nI_eq, nI_clamp, nI_add, nI_sub, vB_nI, Nat.add_sub_cancel, Nat.reduceSub, Nat.reduceLT, Nat.reduceLeDiff, Nat.reduceAdd, gI_pI, p2_pI, Nat.reduceEqDiff, false_and, and_false, true_and, and_true, if_false, if_true, and_self, hn, e] <;> omega); done)) | with_reducible refine sqT ?_)
    simp [plc, e]
  | a :: t, i, n + 1, e, hi, hf => by
    obtain ⟨h1, h2, h3⟩ := rw_at hw e
    have ha : a < 2 ^ 31 := hb a (List.mem_of_mem_drop (i := i) (by rw [e]; exact List.mem_cons_self))
    have ih := p_X3_placeOf_L2 hn hw hl hb hx t (i + 1) n h3 (by omega) (by simp only [List.length_cons] at hf; omega)
    rw [f_X3_placeOf_L2]
    by_cases h : a = x
    · subst h
      repeat (first | (refine brT ?_ ?_; focus ((simp (disch := omega) only [lit_nI, nI_leI, nI_ltI, nI_eq, nI_clamp, nI_add, nI_sub, vB_nI, Nat.add_sub_cancel, Nat.reduceSub, Nat.reduceLT, Nat.reduceLeDiff, Nat.reduceAdd, gI_pI, p2_pI, Nat.reduceEqDiff, false_and, and_false, true_and, and_true, if_false, if_true, and_self, hn, h1] <;> omega); done)) | (refine brF ?_ ?_; focus ((simp (disch := omega) only [lit_nI, nI_leI, nI_ltI, nI_eq, nI_clamp, nI_add, nI_sub, vB_nI, Nat.add_sub_cancel, Nat.reduceSub, Nat.reduceLT, Nat.reduceLeDiff, Nat.reduceAdd, gI_pI, p2_pI, Nat.reduceEqDiff, false_and, and_false, true_and, and_true, if_false, if_true, and_self, hn, h1] <;> omega); done)) | (refine gdT ?_ ?_; focus ((simp (disch := omega) only [lit_nI, nI_leI, nI_ltI, nI_eq, nI_clamp, nI_add, nI_sub, vB_nI, Nat.add_sub_cancel, Nat.reduceSub, Nat.reduceLT, Nat.reduceLeDiff, Nat.reduceAdd, gI_pI, p2_pI, Nat.reduceEqDiff, false_and, and_false, true_and, and_true, if_false, if_true, and_self, hn, h1] <;> omega); done)) | with_reducible refine sqT ?_)
      simp [plc]
    · repeat (first | (refine brT ?_ ?_; focus ((simp (disch := omega) only [lit_nI, nI_leI, nI_ltI, nI_eq, nI_clamp, nI_add, nI_sub, vB_nI, Nat.add_sub_cancel, Nat.reduceSub, Nat.reduceLT, Nat.reduceLeDiff, Nat.reduceAdd, gI_pI, p2_pI, Nat.reduceEqDiff, false_and, and_false, true_and, and_true, if_false, if_true, and_self, hn, h1] <;> omega); done)) | (refine brF ?_ ?_; focus ((simp (disch := omega) only [lit_nI, nI_leI, nI_ltI, nI_eq, nI_clamp, nI_add, nI_sub, vB_nI, Nat.add_sub_cancel, Nat.reduceSub, Nat.reduceLT, Nat.reduceLeDiff, Nat.reduceAdd, gI_pI, p2_pI, Nat.reduceEqDiff, false_and, and_false, true_and, and_true, if_false, if_true, and_self, hn, h1] <;> omega); done)) | (refine gdT ?_ ?_; focus ((simp (disch := omega) only [lit_nI, nI_leI, nI_ltI, nI_eq, nI_clamp, nI_add, nI_sub, vB_nI, Nat.add_sub_cancel, Nat.reduceSub, Nat.reduceLT, Nat.reduceLeDiff, Nat.reduceAdd, gI_pI, p2_pI, Nat.reduceEqDiff, false_and, and_false, true_and, and_true, if_false, if_true, and_self, hn, h1] <;> omega); done)) | with_reducible refine sqT ?_)
      rw [nI_1, ih]
      unfold plc
      rw [if_neg h]
      cases t <;> rfl
theorem p_X3_placeOf {z x : Nat} {l : List Nat} {w : Mm} (hn : gI w 22 z 3 = nI l.length) (hw : RW (fun p => gI w 23 z p) l) (hl : l.length ≤ 16) (hb : ∀ y ∈ l, y < 2 ^ 31) (hx : x < 2 ^ 31) : f_X3_placeOf z (nI x) w = some (place l x, w) := by
  have h := p_X3_placeOf_L2 hn hw hl hb hx l 0 LF rfl (Nat.zero_le _) (by unfold LF; omega)
  unfold f_X3_placeOf place
  revert h
  cases plc x l 0 with
  | none => intro h; exact bd2T h (brF (by decide) rfl)
  | some j => intro h; exact bd2T h (brT rfl rfl)
theorem p_X14_at {k h i : Nat} {w : Mm} : f_X14_at k (nI h) (nI i) w = some (nI (16 * h + i), w) := by
  unfold f_X14_at
  rw [lit_nI, nI_mul, nI_add]
theorem p_X14_placeIn_L2 {k h x : Nat} {l : List Nat} {w : Mm} (hh : h < 8) (hn : gI w 57 k h = nI l.length) (hw : RW (fun p => gI w 56 k (16 * h + p)) l) (hl : l.length ≤ 16) (hb : ∀ y ∈ l, y < 2 ^ 31) (hx : x < 2 ^ 31) :
    ∀ (t : List Nat) (i n : Nat), l.drop i = t → i ≤ l.length → t.length < n → f_X14_placeIn_L2 k (nI x) (nI h) n (nI i) w = match plc x t i with
      | some j => some (0, nI j, w)
      | none => some (1, nI l.length, w)
  | [], i, n + 1, e, hi, hf => by
    have := drop_nil e
    have e : l.length = i := by omega
    rw [f_X14_placeIn_L2]
    repeat (first | (refine brT ?_ ?_; focus ((simp (disch := omega) only [lit_nI, nI_leI, nI_ltI, nI_eq, nI_clamp, nI_add, nI_sub, vB_nI, Nat.add_sub_cancel, Nat.reduceSub, Nat.reduceLT, Nat.reduceLeDiff, Nat.reduceAdd, gI_pI, p2_pI, Nat.reduceEqDiff, false_and, and_false, true_and, and_true, if_false, if_true, and_self, hn, e] <;> omega); done)) | (refine brF ?_ ?_; focus ((simp (disch := omega) only [lit_nI, nI_leI, nI_ltI, nI_eq, nI_clamp, nI_add, nI_sub, vB_nI, Nat.add_sub_cancel, Nat.reduceSub, Nat.reduceLT, Nat.reduceLeDiff, Nat.reduceAdd, gI_pI, p2_pI, Nat.reduceEqDiff, false_and, and_false, true_and, and_true, if_false, if_true, and_self, hn, e] <;> omega); done)) | (refine gdT ?_ ?_; focus ((simp (disch := omega) only [lit_nI, nI_leI, nI_ltI, nI_eq, nI_clamp, nI_add, nI_sub, vB_nI, Nat.add_sub_cancel, Nat.reduceSub, Nat.reduceLT, Nat.reduceLeDiff, Nat.reduceAdd, gI_pI, p2_pI, Nat.reduceEqDiff, false_and, and_false, true_and, and_true, if_false, if_true, and_self, hn, e] <;> omega); done)) | with_reducible refine sqT ?_)
    simp [plc, e]
  | a :: t, i, n + 1, e, hi, hf => by
    obtain ⟨h1, h2, h3⟩ := rw_at hw e
    have ha : a < 2 ^ 31 := hb a (List.mem_of_mem_drop (i := i) (by rw [e]; exact List.mem_cons_self))
    have ih := p_X14_placeIn_L2 hh hn hw hl hb hx t (i + 1) n h3 (by omega) (by simp only [List.length_cons] at hf; omega)
    rw [f_X14_placeIn_L2]
    by_cases h : a = x
    · subst h
      repeat (first | (refine brT ?_ ?_; focus ((simp (disch := omega) only [lit_nI, nI_leI, nI_ltI, nI_eq, nI_clamp, nI_add, nI_sub, vB_nI, Nat.add_sub_cancel, Nat.reduceSub, Nat.reduceLT, Nat.reduceLeDiff, Nat.reduceAdd, gI_pI, p2_pI, Nat.reduceEqDiff, false_and, and_false, true_and, and_true, if_false, if_true, and_self, hn] <;> omega); done)) | (refine brF ?_ ?_; focus ((simp (disch := omega) only [lit_nI, nI_leI, nI_ltI, nI_eq, nI_clamp, nI_add, nI_sub, vB_nI, Nat.add_sub_cancel, Nat.reduceSub, Nat.reduceLT, Nat.reduceLeDiff, Nat.reduceAdd, gI_pI, p2_pI, Nat.reduceEqDiff, false_and, and_false, true_and, and_true, if_false, if_true, and_self, hn] <;> omega); done)) | (refine gdT ?_ ?_; focus ((simp (disch := omega) only [lit_nI, nI_leI, nI_ltI, nI_eq, nI_clamp, nI_add, nI_sub, vB_nI, Nat.add_sub_cancel, Nat.reduceSub, Nat.reduceLT, Nat.reduceLeDiff, Nat.reduceAdd, gI_pI, p2_pI, Nat.reduceEqDiff, false_and, and_false, true_and, and_true, if_false, if_true, and_self, hn] <;> omega); done)) | with_reducible refine sqT ?_)
      refine bd1T p_X14_at ?_
      repeat (first | (refine brT ?_ ?_; focus ((simp (disch := omega) only [lit_nI, nI_leI, nI_ltI, nI_eq, nI_clamp, nI_add, nI_sub, vB_nI, Nat.add_sub_cancel, Nat.reduceSub, Nat.reduceLT, Nat.reduceLeDiff, Nat.reduceAdd, gI_pI, p2_pI, Nat.reduceEqDiff, false_and, and_false, true_and, and_true, if_false, if_true, and_self, hn, h1] <;> omega); done)) | (refine brF ?_ ?_; focus ((simp (disch := omega) only [lit_nI, nI_leI, nI_ltI, nI_eq, nI_clamp, nI_add, nI_sub, vB_nI, Nat.add_sub_cancel, Nat.reduceSub, Nat.reduceLT, Nat.reduceLeDiff, Nat.reduceAdd, gI_pI, p2_pI, Nat.reduceEqDiff, false_and, and_false, true_and, and_true, if_false, if_true, and_self, hn, h1] <;> omega); done)) | (refine gdT ?_ ?_; focus ((simp (disch := omega) only [lit_nI, nI_leI, nI_ltI, nI_eq, nI_clamp, nI_add, nI_sub, vB_nI, Nat.add_sub_cancel, Nat.reduceSub, Nat.reduceLT, Nat.reduceLeDiff, Nat.reduceAdd, gI_pI, p2_pI, Nat.reduceEqDiff, false_and, and_false, true_and, and_true, if_false, if_true, and_self, hn, h1] <;> omega); done)) | with_reducible refine sqT ?_)
      simp [plc]
    · repeat (first | (refine brT ?_ ?_; focus ((simp (disch := omega) only [lit_nI, nI_leI, nI_ltI, nI_eq, nI_clamp, nI_add, nI_sub, vB_nI, Nat.add_sub_cancel, Nat.reduceSub, Nat.reduceLT, Nat.reduceLeDiff, Nat.reduceAdd, gI_pI, p2_pI, Nat.reduceEqDiff, false_and, and_false, true_and, and_true, if_false, if_true, and_self, hn] <;> omega); done)) | (refine brF ?_ ?_; focus ((simp (disch := omega) only [lit_nI, nI_leI, nI_ltI, nI_eq, nI_clamp, nI_add, nI_sub, vB_nI, Nat.add_sub_cancel, Nat.reduceSub, Nat.reduceLT, Nat.reduceLeDiff, Nat.reduceAdd, gI_pI, p2_pI, Nat.reduceEqDiff, false_and, and_false, true_and, and_true, if_false, if_true, and_self, hn] <;> omega); done)) | (refine gdT ?_ ?_; focus ((simp (disch := omega) only [lit_nI, nI_leI, nI_ltI, nI_eq, nI_clamp, nI_add, nI_sub, vB_nI, Nat.add_sub_cancel, Nat.reduceSub, Nat.reduceLT, Nat.reduceLeDiff, Nat.reduceAdd, gI_pI, p2_pI, Nat.reduceEqDiff, false_and, and_false, true_and, and_true, if_false, if_true, and_self, hn] <;> omega); done)) | with_reducible refine sqT ?_)
      refine bd1T p_X14_at ?_
      repeat (first | (refine brT ?_ ?_; focus ((simp (disch := omega) only [lit_nI, nI_leI, nI_ltI, nI_eq, nI_clamp, nI_add, nI_sub, vB_nI, Nat.add_sub_cancel, Nat.reduceSub, Nat.reduceLT, Nat.reduceLeDiff, Nat.reduceAdd, gI_pI, p2_pI, Nat.reduceEqDiff, false_and, and_false, true_and, and_true, if_false, if_true, and_self, hn, h1] <;> omega); done)) | (refine brF ?_ ?_; focus ((simp (disch := omega) only [lit_nI, nI_leI, nI_ltI, nI_eq, nI_clamp, nI_add, nI_sub, vB_nI, Nat.add_sub_cancel, Nat.reduceSub, Nat.reduceLT, Nat.reduceLeDiff, Nat.reduceAdd, gI_pI, p2_pI, Nat.reduceEqDiff, false_and, and_false, true_and, and_true, if_false, if_true, and_self, hn, h1] <;> omega); done)) | (refine gdT ?_ ?_; focus ((simp (disch := omega) only [lit_nI, nI_leI, nI_ltI, nI_eq, nI_clamp, nI_add, nI_sub, vB_nI, Nat.add_sub_cancel, Nat.reduceSub, Nat.reduceLT, Nat.reduceLeDiff, Nat.reduceAdd, gI_pI, p2_pI, Nat.reduceEqDiff, false_and, and_false, true_and, and_true, if_false, if_true, and_self, hn, h1] <;> omega); done)) | with_reducible refine sqT ?_)
      rw [nI_1, ih]
      unfold plc
      rw [if_neg h]
      cases t <;> rfl
theorem p_X14_placeIn {k h x : Nat} {l : List Nat} {w : Mm} (hh : h < 8) (hn : gI w 57 k h = nI l.length) (hw : RW (fun p => gI w 56 k (16 * h + p)) l) (hl : l.length ≤ 16) (hb : ∀ y ∈ l, y < 2 ^ 31) (hx : x < 2 ^ 31) : f_X14_placeIn k (nI x) (nI h) w = some (place l x, w) := by
  have e := p_X14_placeIn_L2 hh hn hw hl hb hx l 0 LF rfl (Nat.zero_le _) (by unfold LF; omega)
  unfold f_X14_placeIn place
  revert e
  cases plc x l 0 with
  | none => intro h; exact bd2T h (brF (by decide) rfl)
  | some j => intro h; exact bd2T h (brT rfl rfl)
