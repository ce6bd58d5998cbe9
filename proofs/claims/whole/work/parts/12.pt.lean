-- THE PURE PART: sums and tests, as steps of the class and as code of the reference
def bth (op : Nat) (a b : Int32) : Int32 := if op = 36 then a + b else if op = 37 then a - b else if op = 38 then a * b else if op = 39 then (if b = 0 then 0 else a / b) else if op = 28 then jmmin a b else jmmax a b
def cmB (op : Nat) (a b : Int32) : Bool := if op = 40 then decide (a < b) else if op = 41 then decide (b < a) else if op = 42 then decide (a = b) else if op = 43 then decide (a ≤ b) else decide (b ≤ a)
def mop (op : Nat) : Int32 := if op = 36 then 34 else if op = 37 then 35 else if op = 38 then 36 else if op = 39 then 37 else if op = 28 then 21 else if op = 29 then 22 else if op = 40 then 38 else if op = 41 then 39 else if op = 42 then 42 else if op = 43 then 43 else 44
def isAr (op : Nat) : Prop := op = 36 ∨ op = 37 ∨ op = 38 ∨ op = 39 ∨ op = 28 ∨ op = 29
def isCm (op : Nat) : Prop := op = 40 ∨ op = 41 ∨ op = 42 ∨ op = 43 ∨ op = 44
abbrev Ps : Type := Nat × Int32 × Int32
def EXc (H R : Nat) (Q : List Ps → List Int32 → (Gs → Int32) → Prop) : Prop :=
  (∀ v b, Q [(4, v, b)] [32, v] (fun _ => v)) ∧
  (∀ a b, Q [(17, a, b)] [10] (fun S => sg S 0 0)) ∧ (∀ a b, Q [(18, a, b)] [11] (fun S => sg S 0 3)) ∧ (∀ a b, Q [(19, a, b)] [12] (fun S => sg S 0 2)) ∧
  (∀ h b, h < H → Q [(20, nI h, b)] [13, nI h] (fun S => sg S 2 h)) ∧ (∀ h b, h < H → Q [(21, nI h, b)] [14, nI h] (fun S => sg S 3 h)) ∧ (∀ r b, r < R → Q [(22, nI (8 + r), b)] [15, nI r] (fun S => sg S 5 r)) ∧
  (∀ c m f a b, Q c m f → Q (c ++ [(5, a, b)]) (m ++ [33]) (fun S => -(f S))) ∧
  (∀ op c m f c' m' f' a b, isAr op → Q c m f → Q c' m' f' → Q (c ++ c' ++ [(op, a, b)]) (m ++ m' ++ [mop op]) (fun S => bth op (f S) (f' S)))
/-- a sum: its steps, its code, its value -/
def EX (H R : Nat) (c : List Ps) (m : List Int32) (f : Gs → Int32) : Prop := ∀ Q, EXc H R Q → Q c m f
def TXc (H R : Nat) (Q : List Ps → List Int32 → (Gs → Bool) → Prop) : Prop :=
  (∀ x h, h < H → (x < H ∨ (8 ≤ x ∧ x < 8 + R)) → Q [(24, nI x, nI h)] [17, nI x, nI h] (fun S => decide (x ∈ sr S h))) ∧
  (∀ c m f a b, Q c m f → Q (c ++ [(25, a, b)]) (m ++ [18]) (fun S => !(f S))) ∧
  (∀ c m f c' m' f' a b, Q c m f → Q c' m' f' → Q (c ++ c' ++ [(26, a, b)]) (m ++ m' ++ [19]) (fun S => f S && f' S)) ∧
  (∀ c m f c' m' f' a b, Q c m f → Q c' m' f' → Q (c ++ c' ++ [(27, a, b)]) (m ++ m' ++ [20]) (fun S => f S || f' S)) ∧
  (∀ op c m f c' m' f' a b, isCm op → EX H R c m f → EX H R c' m' f' → Q (c ++ c' ++ [(op, a, b)]) (m ++ m' ++ [mop op]) (fun S => cmB op (f S) (f' S)))
def TX (H R : Nat) (c : List Ps) (m : List Int32) (f : Gs → Bool) : Prop := ∀ Q, TXc H R Q → Q c m f
-- the class's pile
def STA (s : List Int32) (w : Mm) : Prop := gI w 17 0 2 = nI s.length ∧ ∀ j v, s[j]? = some v → gI w 18 0 j = v
theorem a_push {s : List Int32} {v : Int32} {w : Mm} (h : STA s w) (hl : s.length < 400) : f_X2_push v w = some (pI (pI w 18 0 s.length v) 17 0 2 (nI (s.length + 1))) ∧ STA (s ++ [v]) (pI (pI w 18 0 s.length v) 17 0 2 (nI (s.length + 1))) := by
  obtain ⟨h1, h2⟩ := h
  refine ⟨?_, ?_, fun j x e => ?_⟩
  · unfold f_X2_push
    rw [h1]
    refine brF (nI_pos (by omega)) (brF (by (simp (disch := omega) only [lit_nI, nI_leI, nI_ltI, nI_eq, nI_clamp, nI_add, nI_sub, vB_nI, Nat.add_sub_cancel, Nat.reduceSub, Nat.reduceLT, Nat.reduceLeDiff, Nat.reduceAdd, gI_pI, p2_pI, Nat.reduceEqDiff, false_and, and_false, true_and, and_true, if_false, if_true, and_self] <;> omega)) (gdT ((vB_nI (by omega)).mpr hl) ?_))
    rw [nI_clamp (by omega)]
    refine sqT ?_
    have e : gI (pI w 18 0 s.length v) 17 0 2 = nI s.length := by simp [gI_pI, h1]
    rw [e, nI_1]
    rfl
  · simp [gI_pI]
  · rcases app_some e with ⟨e1, e2⟩ | ⟨e1, e2⟩
    · have := h2 j x e2
      have hne : ¬ j = s.length := by omega
      simpa [gI_pI, hne] using this
    · subst e1; subst e2; simp [gI_pI]
theorem a_pop {s : List Int32} {v : Int32} {w : Mm} (h : STA (s ++ [v]) w) (hl : s.length < 400) : f_X2_pop w = some (v, pI w 17 0 2 (nI s.length)) ∧ STA s (pI w 17 0 2 (nI s.length)) := by
  obtain ⟨h1, h2⟩ := h
  rw [List.length_append, List.length_singleton] at h1
  refine ⟨?_, by simp [gI_pI], fun j x e => ?_⟩
  · unfold f_X2_pop
    rw [h1]
    refine brF (nI_nle (by omega) (by omega)) (brT (by (simp (disch := omega) only [lit_nI, nI_leI, nI_ltI, nI_eq, nI_clamp, nI_add, nI_sub, vB_nI, Nat.add_sub_cancel, Nat.reduceSub, Nat.reduceLT, Nat.reduceLeDiff, Nat.reduceAdd, gI_pI, p2_pI, Nat.reduceEqDiff, false_and, and_false, true_and, and_true, if_false, if_true, and_self] <;> omega)) ?_)
    rw [nI_pred]
    refine sqT ?_
    have e : gI (pI w 17 0 2 (nI s.length)) 17 0 2 = nI s.length := by simp [gI_pI]
    rw [e]
    refine gdT ((vB_nI (by omega)).mpr hl) ?_
    rw [nI_clamp (by omega)]
    have := h2 s.length v (by simp)
    have e2 : gI (pI w 17 0 2 (nI s.length)) 18 0 s.length = v := by simp [gI_pI, this]
    rw [e2]
  · have h3 := (List.getElem?_eq_some_iff.mp e).1
    have := h2 j x (by rw [List.getElem?_append_left h3]; exact e)
    simpa [gI_pI] using this
def CSEG (z i : Nat) (cs : List Ps) (w : Mm) : Prop := ∀ j k a b, cs[j]? = some (k, a, b) → gR w 28 z (i + j) = k ∧ gI w 29 z (i + j) = a ∧ gI w 30 z (i + j) = b
theorem cseg_UA {z i g : Nat} {cs : List Ps} {w w' : Mm} (u : UA g w w') (h : CSEG z i cs w) : CSEG z i cs w' := fun j k a b e => by
  rw [gR_2 u.2, u.1 29 z _ (by unfold ownA; omega), u.1 30 z _ (by unfold ownA; omega)]
  exact h j k a b e
theorem cseg_l {z i : Nat} {cs cs' : List Ps} {w : Mm} (h : CSEG z i (cs ++ cs') w) : CSEG z i cs w := fun j k a b e =>
  h j k a b (by rw [List.getElem?_append_left (List.getElem?_eq_some_iff.mp e).1]; exact e)
theorem cseg_r {z i : Nat} {cs cs' : List Ps} {w : Mm} (h : CSEG z i (cs ++ cs') w) : CSEG z (i + cs.length) cs' w := fun j k a b e => by
  have := h (cs.length + j) k a b (by rw [List.getElem?_append_right (by omega), Nat.add_sub_cancel_left]; exact e)
  rwa [Nat.add_assoc]
theorem a_L7 {z g i N n k : Nat} {a b : Int32} {w w' : Mm} (hs : CSEG z i [(k, a, b)] w) (hN : gI w 25 z 7 = nI N) (hi : i < N) (h400 : N ≤ 400) (h : f_X2_step g k a b w = some w') : f_X2_letDayPass_L7 z g (n + 1) (nI i) w = f_X2_letDayPass_L7 z g n (nI (i + 1)) w' := by
  obtain ⟨h1, h2, h3⟩ := hs 0 k a b rfl
  simp only [Nat.add_zero] at h1 h2 h3
  have hv : vB (nI i) 400 = true := (vB_nI (by omega)).mpr (by omega)
  rw [f_X2_letDayPass_L7, hN]
  refine brF (by (simp (disch := omega) only [lit_nI, nI_leI, nI_ltI, nI_eq, nI_clamp, nI_add, nI_sub, vB_nI, Nat.add_sub_cancel, Nat.reduceSub, Nat.reduceLT, Nat.reduceLeDiff, Nat.reduceAdd, gI_pI, p2_pI, Nat.reduceEqDiff, false_and, and_false, true_and, and_true, if_false, if_true, and_self] <;> omega)) (brF (by (simp (disch := omega) only [lit_nI, nI_leI, nI_ltI, nI_eq, nI_clamp, nI_add, nI_sub, vB_nI, Nat.add_sub_cancel, Nat.reduceSub, Nat.reduceLT, Nat.reduceLeDiff, Nat.reduceAdd, gI_pI, p2_pI, Nat.reduceEqDiff, false_and, and_false, true_and, and_true, if_false, if_true, and_self] <;> omega)) (gdT hv (gdT hv (gdT hv ?_))))
  rw [nI_clamp (by omega), h1, h2, h3]
  refine bd0T h (sqT ?_)
  rw [nI_1]
/-- what steps do: a number on the pile -/
def EVA (H R : Nat) (cs : List Ps) (f : Gs → Int32) : Prop := ∀ g z i N S s w, g < 2 → CSEG z i cs w → gI w 25 z 7 = nI N → i + cs.length ≤ N → N ≤ 400 → s.length + cs.length ≤ 400 → SH H R S → RA g H R S w → STA s w →
  ∃ w', (∀ n, f_X2_letDayPass_L7 z g (n + cs.length) (nI i) w = f_X2_letDayPass_L7 z g n (nI (i + cs.length)) w') ∧ RA g H R S w' ∧ STA (s ++ [f S]) w' ∧ UA g w w'
theorem ua_pile {g : Nat} {w : Mm} {n : Nat} {v x : Int32} : UA g w (pI (pI w 18 0 n v) 17 0 2 x) := UA_p (UA_p UA_rf (by unfold ownA; omega)) (by unfold ownA; omega)
theorem ua_h {g : Nat} {w : Mm} {x : Int32} : UA g w (pI w 17 0 2 x) := UA_p UA_rf (by unfold ownA; omega)
/-- a step that pushes what it reads -/
theorem eva_leaf {H R k : Nat} {a b : Int32} {f : Gs → Int32} (h : ∀ g S w r, g < 2 → SH H R S → RA g H R S w → bd0 (f_X2_push (f S) w) (fun w' => some w') = r → f_X2_step g k a b w = r) : EVA H R [(k, a, b)] f := by
  intro g z i N S s w hg hs hN hi h400 hl hS hA hst
  simp only [List.length_singleton] at hi hl
  obtain ⟨p1, p2⟩ := a_push (v := f S) hst (by omega)
  refine ⟨_, fun n => a_L7 hs hN (by omega) h400 (h g S w _ hg hS hA (bd0T p1 rfl)), ra_o (ra_o hA hS.1 hS.2.1 (by omega)) hS.1 hS.2.1 (by omega), p2, ua_pile⟩
/-- a step behind others that takes the last number -/
theorem eva_un {H R k : Nat} {a b : Int32} {c : List Ps} {f f' : Gs → Int32} (hc : EVA H R c f) (hc1 : 1 ≤ c.length) (h : ∀ g S w w1 r, f_X2_pop w = some (f S, w1) → bd0 (f_X2_push (f' S) w1) (fun w' => some w') = r → f_X2_step g k a b w = r) : EVA H R (c ++ [(k, a, b)]) f' := by
  intro g z i N S s w hg hs hN hi h400 hl hS hA hst
  simp only [List.length_append, List.length_singleton] at hi hl
  obtain ⟨w1, a1, a2, a3, a4⟩ := hc g z i N S s w hg (cseg_l hs) hN (by omega) h400 (by omega) hS hA hst
  have hs1 := cseg_r (cseg_UA a4 hs)
  obtain ⟨b1, b2⟩ := a_pop a3 (by omega)
  obtain ⟨p1, p2⟩ := a_push (v := f' S) b2 (by omega)
  have u1 := UA_tr a4 (UA_tr (ua_h (g := g) (w := w1) (x := nI s.length)) (ua_pile (g := g) (n := s.length) (v := f' S) (x := nI (s.length + 1))))
  refine ⟨_, fun n => ?_, ra_o (ra_o (ra_o a2 hS.1 hS.2.1 (by omega)) hS.1 hS.2.1 (by omega)) hS.1 hS.2.1 (by omega), p2, u1⟩
  have hN1 : gI w1 25 z 7 = nI N := by rw [a4.1 _ _ _ (by unfold ownA; omega)]; exact hN
  have e := a1 (n + 1)
  rw [List.length_append, List.length_singleton, show n + (c.length + 1) = n + 1 + c.length by omega, e, a_L7 hs1 hN1 (by omega) h400 (h g S w1 _ _ b1 (bd0T p1 rfl))]
  rw [Nat.add_assoc]
/-- a step behind others that joins the last two numbers -/
theorem eva_bin {H R k : Nat} {a b : Int32} {c c' : List Ps} {f f' f'' : Gs → Int32} (hc : EVA H R c f) (hc1 : 1 ≤ c.length) (hc' : EVA H R c' f') (hc1' : 1 ≤ c'.length) (h : ∀ g S w w1 w2 r, f_X2_pop w = some (f' S, w1) → f_X2_pop w1 = some (f S, w2) → bd0 (f_X2_push (f'' S) w2) (fun w' => some w') = r → f_X2_step g k a b w = r) : EVA H R (c ++ c' ++ [(k, a, b)]) f'' := by
  intro g z i N S s w hg hs hN hi h400 hl hS hA hst
  simp only [List.length_append, List.length_singleton] at hi hl
  obtain ⟨w1, a1, a2, a3, a4⟩ := hc g z i N S s w hg (cseg_l (cseg_l hs)) hN (by omega) h400 (by omega) hS hA hst
  have hN1 : gI w1 25 z 7 = nI N := by rw [a4.1 _ _ _ (by unfold ownA; omega)]; exact hN
  obtain ⟨w2, b1, b2, b3, b4⟩ := hc' g z (i + c.length) N S (s ++ [f S]) w1 hg (cseg_r (cseg_l (cseg_UA a4 hs))) hN1 (by omega) h400 (by rw [List.length_append, List.length_singleton]; omega) hS a2 a3
  have u2 := UA_tr a4 b4
  have hN2 : gI w2 25 z 7 = nI N := by rw [u2.1 _ _ _ (by unfold ownA; omega)]; exact hN
  have hs2 := cseg_r (cseg_UA u2 hs)
  obtain ⟨q1, q2⟩ := a_pop b3 (by rw [List.length_append, List.length_singleton]; omega)
  obtain ⟨q3, q4⟩ := a_pop q2 (by omega)
  obtain ⟨p1, p2⟩ := a_push (v := f'' S) q4 (by omega)
  refine ⟨_, fun n => ?_, ra_o (ra_o (ra_o (ra_o b2 hS.1 hS.2.1 (by omega)) hS.1 hS.2.1 (by omega)) hS.1 hS.2.1 (by omega)) hS.1 hS.2.1 (by omega), p2, UA_tr (UA_tr (UA_tr u2 ua_h) ua_h) ua_pile⟩
  have e := a1 (n + 1 + c'.length)
  have e' := b1 (n + 1)
  rw [List.length_append] at hs2
  rw [List.length_append, List.length_append, List.length_singleton, show n + (c.length + c'.length + 1) = n + 1 + c'.length + c.length by omega, e, e', a_L7 (i := i + c.length + c'.length) (by rw [Nat.add_assoc]; exact hs2) hN2 (by omega) h400 (h g S w2 _ _ _ q1 q3 (bd0T p1 rfl))]
  rw [show i + c.length + c'.length + 1 = i + (c.length + c'.length + 1) by omega]
theorem a_joined {op : Nat} {l r : Int32} {w : Mm} (h : isAr op) : f_X2_joined op l r w = some (bth op l r, w) := by
  rcases h with rfl | rfl | rfl | rfl | rfl | rfl
  · unfold f_X2_joined; exact gdT rfl (brF (by decide) (brF (by decide) (brF (by decide) (brT (by decide) rfl))))
  · unfold f_X2_joined; exact gdT rfl (brT (by decide) rfl)
  · unfold f_X2_joined; exact gdT rfl (brF (by decide) (brF (by decide) (brF (by decide) (brF (by decide) (brT (by decide) rfl)))))
  · unfold f_X2_joined
    refine gdT rfl (brF (by decide) (brF (by decide) (brF (by decide) (brF (by decide) (brF (by decide) (brT (by decide) ?_))))))
    show _ = some ((if r = 0 then 0 else l / r), w)
    by_cases e : r = 0
    · rw [if_pos e]; exact brT e rfl
    · rw [if_neg e]; exact brF e (gdT (decide_eq_true e) rfl)
  · unfold f_X2_joined; exact gdT rfl (brF (by decide) (brT (by decide) rfl))
  · unfold f_X2_joined; exact gdT rfl (brF (by decide) (brF (by decide) (brT (by decide) rfl)))
theorem a_one0 {w : Mm} : f_X2_oneIf 0 w = some (0, w) := rfl
theorem a_one1 {w : Mm} : f_X2_oneIf 1 w = some (1, w) := rfl
theorem bI_t {p : Prop} [Decidable p] (h : p) : bI (decide p) = 1 := by rw [decide_eq_true h]; rfl
theorem bI_f {p : Prop} [Decidable p] (h : ¬ p) : bI (decide p) = 0 := by rw [decide_eq_false h]; rfl
theorem a_cmp {op : Nat} {l r : Int32} {w : Mm} (h : isCm op) : f_X2_joined op l r w = some (bI (cmB op l r), w) := by
  rcases h with rfl | rfl | rfl | rfl | rfl
  · unfold f_X2_joined
    refine gdT rfl (brF (by decide) (brF (by decide) (brF (by decide) (brF (by decide) (brF (by decide) (brF (by decide) (brT (by decide) ?_)))))))
    show _ = some (bI (decide (l < r)), w)
    by_cases e : r ≤ l
    · rw [bI_f (Int32.not_lt.mpr e)]; exact brT e (bd1T a_one0 rfl)
    · rw [bI_t (Int32.not_le.mp e)]; exact brF e (bd1T a_one1 rfl)
  · unfold f_X2_joined
    refine gdT rfl (brF (by decide) (brF (by decide) (brF (by decide) (brF (by decide) (brF (by decide) (brF (by decide) (brF (by decide) (brT (by decide) ?_))))))))
    show _ = some (bI (decide (r < l)), w)
    by_cases e : l ≤ r
    · rw [bI_f (Int32.not_lt.mpr e)]; exact brT e (bd1T a_one0 rfl)
    · rw [bI_t (Int32.not_le.mp e)]; exact brF e (bd1T a_one1 rfl)
  · unfold f_X2_joined
    refine gdT rfl (brF (by decide) (brF (by decide) (brF (by decide) (brF (by decide) (brF (by decide) (brF (by decide) (brF (by decide) (brF (by decide) (brT (by decide) ?_)))))))))
    show _ = some (bI (decide (l = r)), w)
    by_cases e : l = r
    · rw [bI_t e]; exact brT e (bd1T a_one1 rfl)
    · rw [bI_f e]; exact brF e (bd1T a_one0 rfl)
  · unfold f_X2_joined
    refine gdT rfl (brF (by decide) (brF (by decide) (brF (by decide) (brF (by decide) (brF (by decide) (brF (by decide) (brF (by decide) (brF (by decide) (brF (by decide) (brT (by decide) ?_))))))))))
    show _ = some (bI (decide (l ≤ r)), w)
    by_cases e : r < l
    · rw [bI_f (Int32.not_le.mpr e)]; exact brT e (bd1T a_one0 rfl)
    · rw [bI_t (Int32.not_lt.mp e)]; exact brF e (bd1T a_one1 rfl)
  · unfold f_X2_joined
    refine gdT rfl (brF (by decide) (brF (by decide) (brF (by decide) (brF (by decide) (brF (by decide) (brF (by decide) (brF (by decide) (brF (by decide) (brF (by decide) (brF (by decide) (brT (by decide) ?_)))))))))))
    show _ = some (bI (decide (r ≤ l)), w)
    by_cases e : l < r
    · rw [bI_f (Int32.not_le.mpr e)]; exact brT e (bd1T a_one0 rfl)
    · rw [bI_t (Int32.not_lt.mp e)]; exact brF e (bd1T a_one1 rfl)
theorem a_bool {op : Nat} {l r : Bool} {w : Mm} (h : op = 26 ∨ op = 27) : f_X2_joined op (bI l) (bI r) w = some (bI (if op = 26 then l && r else l || r), w) := by
  rcases h with rfl | rfl
  · unfold f_X2_joined
    refine gdT rfl (brF (by decide) (brF (by decide) (brF (by decide) (brF (by decide) (brF (by decide) (brF (by decide) (brF (by decide) (brF (by decide) (brF (by decide) (brF (by decide) (brF (by decide) (brT (by decide) ?_))))))))))))
    cases l <;> cases r <;> rfl
  · unfold f_X2_joined
    refine gdT rfl (brF (by decide) (brF (by decide) (brF (by decide) (brF (by decide) (brF (by decide) (brF (by decide) (brF (by decide) (brF (by decide) (brF (by decide) (brF (by decide) (brF (by decide) (brF (by decide) (brT (by decide) ?_)))))))))))))
    cases l <;> cases r <;> rfl
theorem a_stepJ {op g : Nat} {a b l r v : Int32} {w w1 w2 : Mm} {x : Option Mm} (h : isAr op ∨ isCm op ∨ op = 26 ∨ op = 27) (h1 : f_X2_pop w = some (r, w1)) (h2 : f_X2_pop w1 = some (l, w2)) (hj : f_X2_joined op l r w2 = some (v, w2)) (hx : bd0 (f_X2_push v w2) (fun w' => some w') = x) : f_X2_step g op a b w = x := by
  have hop : op = 36 ∨ op = 37 ∨ op = 38 ∨ op = 39 ∨ op = 28 ∨ op = 29 ∨ op = 40 ∨ op = 41 ∨ op = 42 ∨ op = 43 ∨ op = 44 ∨ op = 26 ∨ op = 27 := by
    unfold isAr isCm at h; omega
  have hjn : bd0 (f_X2_join op w) (fun w33 => some w33) = x := by
    unfold f_X2_join
    rw [← hx]
    cases hp : f_X2_push v w2 with
    | none =>
      show bd0 (bd1 (f_X2_pop w) _) _ = none
      rw [h1]
      show bd0 (bd1 (f_X2_pop w1) _) _ = none
      rw [h2]
      show bd0 (bd1 (f_X2_joined op l r w2) _) _ = none
      rw [hj]
      show bd0 (bd0 (f_X2_push v w2) _) _ = none
      rw [hp]
      rfl
    | some w3 => exact bd0T (bd1T h1 (bd1T h2 (bd1T hj (bd0T hp rfl)))) rfl
  unfold f_X2_step
  rcases hop with rfl | rfl | rfl | rfl | rfl | rfl | rfl | rfl | rfl | rfl | rfl | rfl | rfl <;>
  exact gdT rfl (brF (by decide) (brF (by decide) (brF (by decide) (brF (by decide) (brF (by decide) (brF (by decide) (brF (by decide) (brF (by decide) (brF (by decide) (brF (by decide) (brF (by decide) (brF (by decide) hjn))))))))))))
theorem eva_ex {H R : Nat} {c : List Ps} {m : List Int32} {f : Gs → Int32} (h : EX H R c m f) : EVA H R c f ∧ 1 ≤ c.length := by
  refine h (fun c m f => EVA H R c f ∧ 1 ≤ c.length) ⟨fun v b => ⟨?_, Nat.le_refl _⟩, fun a b => ⟨?_, Nat.le_refl _⟩, fun a b => ⟨?_, Nat.le_refl _⟩, fun a b => ⟨?_, Nat.le_refl _⟩, fun h b hh => ⟨?_, Nat.le_refl _⟩, fun h b hh => ⟨?_, Nat.le_refl _⟩, fun r b hr => ⟨?_, Nat.le_refl _⟩, fun c m f a b hc => ⟨?_, by simp only [List.length_append, List.length_singleton]; omega⟩, fun op c m f c' m' f' a b ho hc hc' => ⟨?_, by simp only [List.length_append, List.length_singleton]; omega⟩⟩
  · refine eva_leaf fun g S w r hg hS hA hr => ?_
    unfold f_X2_step
    exact gdT rfl (brF (by decide) (brF (by decide) (brF (by decide) (brT (by decide) hr))))
  · refine eva_leaf fun g S w r hg hS hA hr => ?_
    unfold f_X2_step
    rw [hA.2.1.1]
    exact gdT rfl (brF (by decide) (brF (by decide) (brF (by decide) (brF (by decide) (brT (by decide) hr)))))
  · refine eva_leaf fun g S w r hg hS hA hr => ?_
    unfold f_X2_step
    rw [hA.2.1.2.2.2.1]
    exact gdT rfl (brF (by decide) (brF (by decide) (brF (by decide) (brF (by decide) (brF (by decide) (brT (by decide) hr))))))
  · refine eva_leaf fun g S w r hg hS hA hr => ?_
    unfold f_X2_step
    rw [hA.2.1.2.2.1]
    exact gdT rfl (brF (by decide) (brF (by decide) (brF (by decide) (brF (by decide) (brF (by decide) (brF (by decide) (brT (by decide) hr)))))))
  · refine eva_leaf fun g S w r hg hS hA hr => ?_
    have e : f_X1_heardAt g (nI h) w = some (sg S 2 h, w) := by
      have hH := hS.1
      unfold f_X1_heardAt
      refine bd1T (p_X1_hedge hA hH hh) (gdT (by simp only [decide_eq_true_eq]; omega) ?_)
      rw [(hA.2.2.1 h hh).2.1]
    unfold f_X2_step
    exact gdT rfl (brF (by decide) (brF (by decide) (brF (by decide) (brF (by decide) (brF (by decide) (brF (by decide) (brF (by decide) (brT (by decide) (bd1T e hr)))))))))
  · refine eva_leaf fun g S w r hg hS hA hr => ?_
    have e : f_X1_latestAt g (nI h) w = some (sg S 3 h, w) := by
      have hH := hS.1
      unfold f_X1_latestAt
      refine bd1T (p_X1_hedge hA hH hh) (gdT (by simp only [decide_eq_true_eq]; omega) ?_)
      rw [(hA.2.2.1 h hh).2.2.1]
    unfold f_X2_step
    exact gdT rfl (brF (by decide) (brF (by decide) (brF (by decide) (brF (by decide) (brF (by decide) (brF (by decide) (brF (by decide) (brF (by decide) (brT (by decide) (bd1T e hr))))))))))
  · refine eva_leaf fun g S w x hg hS hA hx => ?_
    have e : f_X1_petalsAt g (nI (8 + r) - 8) w = some (sg S 5 r, w) := by
      rw [nI_m8' (by omega), show 8 + r - 8 = r by omega]
      exact a_petalsAt hg hA hS.2.1 hr
    unfold f_X2_step
    exact gdT rfl (brF (by decide) (brF (by decide) (brF (by decide) (brF (by decide) (brF (by decide) (brF (by decide) (brF (by decide) (brF (by decide) (brF (by decide) (brT (by decide) (bd1T e hx)))))))))))
  · refine eva_un hc.1 hc.2 fun g S w w1 r h1 hr => ?_
    unfold f_X2_step
    exact gdT rfl (brF (by decide) (brF (by decide) (brF (by decide) (brF (by decide) (brF (by decide) (brF (by decide) (brF (by decide) (brF (by decide) (brF (by decide) (brF (by decide) (brF (by decide) (brT (by decide) (bd1T h1 hr)))))))))))))
  · exact eva_bin hc.1 hc.2 hc'.1 hc'.2 fun g S w w1 w2 r h1 h2 hr => a_stepJ (Or.inl ho) h1 h2 (a_joined ho) hr
theorem eva_tx {H R : Nat} {c : List Ps} {m : List Int32} {f : Gs → Bool} (h : TX H R c m f) : EVA H R c (fun S => bI (f S)) ∧ 1 ≤ c.length := by
  refine h (fun c m f => EVA H R c (fun S => bI (f S)) ∧ 1 ≤ c.length) ⟨fun x h hh hx => ⟨?_, Nat.le_refl _⟩, fun c m f a b hc => ⟨?_, by simp only [List.length_append, List.length_singleton]; omega⟩, fun c m f c' m' f' a b hc hc' => ⟨?_, by simp only [List.length_append, List.length_singleton]; omega⟩, fun c m f c' m' f' a b hc hc' => ⟨?_, by simp only [List.length_append, List.length_singleton]; omega⟩, fun op c m f c' m' f' a b ho hc hc' => ⟨?_, by simp only [List.length_append, List.length_singleton]; omega⟩⟩
  · refine eva_leaf fun g S w r hg hS hA hr => ?_
    have hH := hS.1
    have hR := hS.2.1
    have e := a_isInRow hg hS hA hh (x := x) (by omega)
    unfold f_X2_step
    refine gdT rfl (brF (by decide) (brF (by decide) (brT (by decide) (bd1T e ?_))))
    by_cases q : x ∈ sr S h
    · rw [if_pos q]
      rw [bI_t q] at hr
      exact bd1T a_one1 hr
    · rw [if_neg q]
      rw [bI_f q] at hr
      exact bd1T a_one0 hr
  · refine eva_un hc.1 hc.2 fun g S w w1 r h1 hr => ?_
    unfold f_X2_step
    refine gdT rfl (brF (by decide) (brT (by decide) (bd1T h1 ?_)))
    have hr : bd0 (f_X2_push (bI (!(f S))) w1) (fun w' => some w') = r := hr
    revert hr
    cases f S
    · intro hr; exact brT rfl (bd1T a_one1 hr)
    · intro hr; exact brF (by decide) (bd1T a_one0 hr)
  · exact eva_bin hc.1 hc.2 hc'.1 hc'.2 fun g S w w1 w2 r h1 h2 hr => a_stepJ (Or.inr (Or.inr (Or.inl rfl))) h1 h2 (a_bool (Or.inl rfl)) hr
  · exact eva_bin hc.1 hc.2 hc'.1 hc'.2 fun g S w w1 w2 r h1 h2 hr => a_stepJ (Or.inr (Or.inr (Or.inr rfl))) h1 h2 (a_bool (Or.inr rfl)) hr
  · obtain ⟨q1, q2⟩ := eva_ex hc
    obtain ⟨q3, q4⟩ := eva_ex hc'
    exact eva_bin q1 q2 q3 q4 fun g S w w1 w2 r h1 h2 hr => a_stepJ (Or.inr (Or.inl ho)) h1 h2 (a_cmp ho) hr
