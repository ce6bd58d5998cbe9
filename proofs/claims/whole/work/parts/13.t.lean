-- THE PURE PART: the reference's parser: names, numbers, what it writes
theorem b_numL {T : List Nat} {w : Mm} {a S L : Nat} (hT : TM T w) (h35 : gI w 35 0 a = nI S) (h36 : gI w 36 0 a = nI L) (ha : a < 401) (hL : L ≤ 6) (hS : S + L ≤ T.length) (hd : ∀ c ∈ (T.drop S).take L, 48 ≤ c) : ∀ r i v n, i + r = L → r < n → f_X15_numberAt_L4 (nI a) n (nI i) (nI v) w = some (nI (nV v ((T.drop (S + i)).take r)), w)
  | 0, i, v, n + 1, hi, hn => by
    rw [f_X15_numberAt_L4, nI_clamp (by omega), h36]
    refine gdT ((vB_nI (by omega)).mpr ha) (brT (by (simp (disch := omega) only [lit_nI, nI_leI, nI_ltI, nI_eq, nI_clamp, nI_add, nI_sub, vB_nI, Nat.add_sub_cancel, Nat.reduceSub, Nat.reduceLT, Nat.reduceLeDiff, Nat.reduceAdd, gI_pI, p2_pI, Nat.reduceEqDiff, false_and, and_false, true_and, and_true, if_false, if_true, and_self] <;> omega)) ?_)
    rw [List.take_zero]; rfl
  | r + 1, i, v, n + 1, hi, hn => by
    have hl := hT.2.1
    cases e : T.drop (S + i) with
    | nil => have := drop_nil e; omega
    | cons c t =>
      obtain ⟨e1, e2, e3⟩ := dr_cons e
      have ih := b_numL hT h35 h36 ha hL hS hd r (i + 1) (v * 10 + (c - 48)) n (by omega) (by omega)
      have hc : 48 ≤ c := by
        refine hd c ?_
        refine List.mem_iff_getElem?.mpr ⟨i, ?_⟩
        rw [List.getElem?_take, if_pos (by omega), List.getElem?_drop]
        exact e1
      rw [f_X15_numberAt_L4, nI_clamp (by omega), h36, h35, nI_add]
      refine gdT ((vB_nI (by omega)).mpr ha) (brF (by (simp (disch := omega) only [lit_nI, nI_leI, nI_ltI, nI_eq, nI_clamp, nI_add, nI_sub, vB_nI, Nat.add_sub_cancel, Nat.reduceSub, Nat.reduceLT, Nat.reduceLeDiff, Nat.reduceAdd, gI_pI, p2_pI, Nat.reduceEqDiff, false_and, and_false, true_and, and_true, if_false, if_true, and_self] <;> omega)) (gdT ((vB_nI (by omega)).mpr ha) (gdT ((vB_nI (by omega)).mpr (by omega)) ?_)))
      rw [nI_clamp (by omega), (hT.2.2 _ _ e1).1, show (10 : Int32) = nI 10 from rfl, nI_mul, nI_add, show (48 : Int32) = nI 48 from rfl, nI_sub (by omega), nI_1]
      refine sqT (sqT ?_)
      rw [show 10 * v + c - 48 = v * 10 + (c - 48) by omega, List.take_succ_cons]
      show _ = some (nI (nV (v * 10 + (c - 48)) (t.take r)), w)
      rw [ih, show S + (i + 1) = S + i + 1 by omega, e3]
/-- the value of the number that is token a -/
def nva (T : List Nat) (st ln : Nat → Nat) (a : Nat) : Int32 := nI (nV 0 ((T.drop (st a)).take (ln a)))
/-- what the reference writes for a step -/
def mc (nv : Nat → Int32) (s : Ps) : List Int32 := if s.1 = 4 then [32, nv s.2.1.toNatClampNeg] else if s.1 = 17 ∨ s.1 = 18 ∨ s.1 = 19 ∨ s.1 = 25 ∨ s.1 = 26 ∨ s.1 = 27 then [mk s.1] else if s.1 = 20 ∨ s.1 = 21 ∨ s.1 = 22 then [mk s.1, s.2.1] else if s.1 = 24 then [17, s.2.1, s.2.2] else if s.1 = 5 then [33] else [mop s.1]
def mcs (nv : Nat → Int32) (o : List Ps) : List Int32 := o.flatMap (mc nv)
/-- where it wrote names -/
def op1 (m : Nat) (s : Ps) : List Nat := if s.1 = 20 ∨ s.1 = 21 ∨ s.1 = 22 then [m + 1] else if s.1 = 24 then [m + 1, m + 2] else []
def opn (nv : Nat → Int32) : Nat → List Ps → List Nat
  | _, [] => []
  | m, s :: o => op1 m s ++ opn nv (m + (mc nv s).length) o
theorem mcs_app {nv : Nat → Int32} {o o' : List Ps} : mcs nv (o ++ o') = mcs nv o ++ mcs nv o' := by unfold mcs; rw [List.flatMap_append]
theorem opn_app {nv : Nat → Int32} : ∀ (o o' : List Ps) (m : Nat), opn nv m (o ++ o') = opn nv m o ++ opn nv (m + (mcs nv o).length) o'
  | [], o', m => by simp [opn, mcs]
  | s :: o, o', m => by
    rw [List.cons_append, opn, opn, opn_app o o', List.append_assoc]
    have e : (mcs nv (s :: o)).length = (mc nv s).length + (mcs nv o).length := by unfold mcs; rw [List.flatMap_cons, List.length_append]
    rw [e, Nat.add_assoc]
def OSEG (p i : Nat) (l : List Nat) (w : Mm) : Prop := ∀ j v, l[j]? = some v → gI w 54 p (i + j) = nI v
theorem mseg_app {p i : Nat} {a b : List Int32} {w : Mm} (h : MSEG p i a w) (g : MSEG p (i + a.length) b w) : MSEG p i (a ++ b) w := fun j v e => by
  by_cases q : j < a.length
  · rw [List.getElem?_append_left q] at e; exact h j v e
  · rw [List.getElem?_append_right (by omega)] at e
    have := g (j - a.length) v e
    rwa [show i + a.length + (j - a.length) = i + j by omega] at this
theorem oseg_app {p i : Nat} {a b : List Nat} {w : Mm} (h : OSEG p i a w) (g : OSEG p (i + a.length) b w) : OSEG p i (a ++ b) w := fun j v e => by
  by_cases q : j < a.length
  · rw [List.getElem?_append_left q] at e; exact h j v e
  · rw [List.getElem?_append_right (by omega)] at e
    have := g (j - a.length) v e
    rwa [show i + a.length + (j - a.length) = i + j by omega] at this
theorem mseg_fm {p i m q : Nat} {a : List Int32} {w w' : Mm} (h : MSEG p i a w) (u : FM p m q w w') (hm : i + a.length ≤ m) : MSEG p i a w' := fun j v e => by
  have hj := (List.getElem?_eq_some_iff.mp e).1
  rw [u.1 _ _ _ (by omega) (by omega) (by omega) (by omega) (by omega)]; exact h j v e
theorem oseg_fm {p i m q : Nat} {a : List Nat} {w w' : Mm} (h : OSEG p i a w) (u : FM p m q w w') (hm : i + a.length ≤ q) : OSEG p i a w' := fun j v e => by
  have hj := (List.getElem?_eq_some_iff.mp e).1
  rw [u.1 _ _ _ (by omega) (by omega) (by omega) (by omega) (by omega)]; exact h j v e
theorem mseg_1 {p i : Nat} {v : Int32} {w : Mm} (h : gI w 53 p i = v) : MSEG p i [v] w := fun j x e => by
  cases j with
  | zero => cases e; exact h
  | succ j => simp at e
theorem oseg_1 {p i v : Nat} {w : Mm} (h : gI w 54 p i = nI v) : OSEG p i [v] w := fun j x e => by
  cases j with
  | zero => cases e; exact h
  | succ j => simp at e
/-- what a method of the reference's parser leaves -/
def RM (T : List Nat) (tk st ln : Nat → Nat) (N p d m q e : Nat) (w : Mm) (res : Rz) (out : Int32 × Mm) : Prop := match res with
  | .inl b => out.1 = 0 ∧ gI out.2 32 0 9 = nI b ∧ FM p m q w out.2
  | .inr (a, o) => out.1 = 1 ∧ MSt T tk st ln N p a d (m + (mcs (nva T st ln) o).length) (q + (opn (nva T st ln) m o).length) out.2 ∧ MSEG p m (mcs (nva T st ln) o) out.2 ∧ OSEG p q (opn (nva T st ln) m o) out.2 ∧ m + (mcs (nva T st ln) o).length + e ≤ 2 * a ∧ q + (opn (nva T st ln) m o).length ≤ a ∧ FM p m q w out.2
section RPARSE
variable {T : List Nat} {tk st ln : Nat → Nat} {N p a d m q e : Nat} {w : Mm}
theorem b_number (h : MSt T tk st ln N p a d m q w) (h4 : tk a = 4) : f_X15_numberAt (nI a) w = some (nva T st ln a, w) := by
  obtain ⟨_, _, _, _, ⟨h8, h8'⟩, h9, h10, h11⟩ := h
  obtain ⟨g1, g2, g3, g4, g5⟩ := h8' a (by omega) h4
  unfold f_X15_numberAt
  refine bd1T (b_numL h8 g1 g2 (by omega) g3 g4 g5 (ln a) 0 0 LF (by omega) (by unfold LF; omega)) ?_
  rfl
theorem b_name (h : MSt T tk st ln N p a d m q w) (hk : ∀ j, j < N → KK (tk j)) (r : Nat) (hm : m < 800) (hq : q < 400) (ha : tk a = 3 → a + 2 ≤ N) (hr : tk a = 3 → rol tk a = r) : ∃ w', f_X15_isName (nI r) w = some (if tk a = 3 then 1 else 0, w') ∧ (tk a = 3 → MSt T tk st ln N p (a + 1) d (m + 1) (q + 1) w') ∧ (tk a ≠ 3 → gI w' 32 0 9 = nI a) ∧ gI w' 53 p m = nI a ∧ gI w' 54 p q = nI m ∧ FM p m q w w' := by
  have h0 := h
  obtain ⟨⟨h1, h2, h3, h4⟩, h5, h6, h7, h8, h9, h10, h11⟩ := h
  have hS : MSt T tk st ln N p a d m (q + 1) (pI (pI w 54 p q (nI m)) 44 p 15 (nI (q + 1))) := by
    refine ⟨⟨?_, ?_, ?_, ?_⟩, fun j hj => ?_, fun j hj => ?_, mfx_2 rfl h7, mn_cg h8 ?_ fun c j hc => ?_, h9, h10, h11⟩
    · rw [gI_pI, if_neg (by omega), gI_pI, if_neg (by omega)]; exact h1
    · rw [gI_pI, if_neg (by omega), gI_pI, if_neg (by omega)]; exact h2
    · rw [gI_pI, if_neg (by omega), gI_pI, if_neg (by omega)]; exact h3
    · rw [gI_pI, if_pos ⟨rfl, rfl, rfl⟩]
    · rw [gI_pI, if_neg (by omega), gI_pI, if_neg (by omega)]; exact h5 j hj
    · rw [gI_pI, if_neg (by omega), gI_pI, if_neg (by omega)]; exact h6 j hj
    · rw [gI_pI, if_neg (by omega), gI_pI, if_neg (by omega)]
    · rw [gI_pI, if_neg (by omega), gI_pI, if_neg (by omega)]
  have hF : FM p m q w (pI (pI w 54 p q (nI m)) 44 p 15 (nI (q + 1))) := ⟨fun c k i q1 q2 q3 q4 q5 => by rw [gI_pI, if_neg (by omega), gI_pI, if_neg (by omega)], rfl⟩
  have h54 : gI (pI (pI w 54 p q (nI m)) 44 p 15 (nI (q + 1))) 54 p q = nI m := by rw [gI_pI, if_neg (by omega), gI_pI, if_pos ⟨rfl, rfl, rfl⟩]
  obtain ⟨w1, u1, u2, u3, u4⟩ := b_put hS (nI a) hm
  obtain ⟨w2, v1, v2, v3, v4⟩ := b_eatAs u2 hk 3 40 r (by decide) (by decide) ha hr
  refine ⟨w2, ?_, v2, v3, ?_, ?_, fm_tr (Nat.le_refl _) (Nat.le_succ _) hF (fm_tr (Nat.le_succ _) (Nat.le_refl _) u4 v4)⟩
  · have g44 := h7.2 44 (by omega) (by omega)
    have g54 := h7.2 54 (by omega) (by omega)
    unfold f_X15_isName
    rw [h7.1]
    refine gdT vok44 (sqT (gdT g44 (gdT vok44 (sqT (gdT g44 (gdT vok44 (sqT (gdT g44 ?_))))))))
    rw [Nat.add_sub_cancel, h3, h4]
    refine gdT ((vB_nI (by omega)).mpr hq) (gdT g54 ?_)
    rw [nI_clamp (by omega)]
    refine sqT ?_
    have e1 : gR (pI w 54 p q (nI m)) 32 0 12 = p + 1 := h7.1
    have e2 : gI (pI w 54 p q (nI m)) 44 p 15 = nI q := by rw [gI_pI, if_neg (by omega)]; exact h4
    rw [e1]
    refine gdT vok44 (sqT (gdT g44 (gdT g44 ?_)))
    rw [Nat.add_sub_cancel, e2, nI_1]
    refine sqT ?_
    rw [hS.1.1, u1]
    show bd1 (f_X15_eatAs 40 (nI r) w1) _ = _
    refine bd1T v1 ?_
    by_cases q : tk a = 3
    · rw [if_pos q]; rfl
    · rw [if_neg q]; rfl
  · rw [v4.1 _ _ _ (by omega) (by omega) (by omega) (by omega) (by omega)]; exact u3
  · rw [v4.1 _ _ _ (by omega) (by omega) (by omega) (by omega) (by omega), u4.1 _ _ _ (by omega) (by omega) (by omega) (by omega) (by omega)]; exact h54
/-- a cell at the end of what is written -/
theorem rm_ok (h : MSt T tk st ln N p a d m q w) (hm : m + e ≤ 2 * a) (hq : q ≤ a) : RM T tk st ln N p d m q e w (.inr (a, [])) (1, w) := ⟨rfl, h, fun j v x => by simp [mcs] at x, fun j v x => by simp [opn] at x, by simpa [mcs] using hm, by simpa [opn] using hq, fm_rf⟩
theorem rm_fl {m' q' d' : Nat} {w1 : Mm} (h : MSt T tk st ln N p a d' m' q' w1) (u : FM p m q w w1) : RM T tk st ln N p d m q e w (.inl a) (0, w1) := ⟨rfl, h.1.1, u⟩
theorem rm_pre {w1 : Mm} {o : List Ps} {res : Rz} {out : Int32 × Mm} {m1 q1 : Nat} (h : RM T tk st ln N p d m1 q1 e w1 res out) (em : m1 = m + (mcs (nva T st ln) o).length) (eq : q1 = q + (opn (nva T st ln) m o).length) (hc : MSEG p m (mcs (nva T st ln) o) w1) (ho : OSEG p q (opn (nva T st ln) m o) w1) (u : FM p m q w w1) : RM T tk st ln N p d m q e w (prz o res) out := by
  subst em eq
  match res, h with
  | .inl b, h => exact ⟨h.1, h.2.1, fm_tr (Nat.le_add_right _ _) (Nat.le_add_right _ _) u h.2.2⟩
  | .inr (a, o'), h =>
    obtain ⟨g1, g2, g3, g4, g5, g6, g7⟩ := h
    have e1 : (mcs (nva T st ln) (o ++ o')).length = (mcs (nva T st ln) o).length + (mcs (nva T st ln) o').length := by rw [mcs_app, List.length_append]
    have e2 : (opn (nva T st ln) m (o ++ o')).length = (opn (nva T st ln) m o).length + (opn (nva T st ln) (m + (mcs (nva T st ln) o).length) o').length := by rw [opn_app, List.length_append]
    refine ⟨g1, ?_, ?_, ?_, ?_, ?_, fm_tr (Nat.le_add_right _ _) (Nat.le_add_right _ _) u g7⟩
    · rw [e1, e2, ← Nat.add_assoc, ← Nat.add_assoc]; exact g2
    · rw [mcs_app]; exact mseg_app (mseg_fm hc g7 (Nat.le_refl _)) g3
    · rw [opn_app]; exact oseg_app (oseg_fm ho g7 (Nat.le_refl _)) g4
    · rw [e1, ← Nat.add_assoc]; exact g5
    · rw [e2, ← Nat.add_assoc]; exact g6
theorem rm_mono {w1 : Mm} {res : Rz} {out : Int32 × Mm} (u : FM p m q w w1) (h : RM T tk st ln N p d m q e w1 res out) : RM T tk st ln N p d m q e w res out := by
  have := rm_pre (o := []) h (by simp [mcs]) (by simp [opn]) (fun j v e => by simp [mcs] at e) (fun j v e => by simp [opn] at e) u
  rwa [prz_nil] at this
end RPARSE
