-- THE PURE PART: sums and tests of the reference
def STB (s : List Int32) (w : Mm) : Prop := ∀ j v, s[j]? = some v → gI w 39 0 j = v
def M39 (w w' : Mm) : Prop := (∀ c k i, c ≠ 39 → gI w' c k i = gI w c k i) ∧ w'.2 = w.2
def MSEG (p i : Nat) (ms : List Int32) (w : Mm) : Prop := ∀ j v, ms[j]? = some v → gI w 53 p (i + j) = v
theorem m39_rf {w : Mm} : M39 w w := ⟨fun _ _ _ _ => rfl, rfl⟩
theorem m39_tr {w w1 w2 : Mm} (h : M39 w w1) (g : M39 w1 w2) : M39 w w2 := ⟨fun c k i q => (g.1 c k i q).trans (h.1 c k i q), g.2.trans h.2⟩
theorem m39_p {w : Mm} {j : Nat} {v : Int32} : M39 w (pI w 39 0 j v) := ⟨fun c k i q => by rw [gI_pI, if_neg]; exact fun h => q h.1, rfl⟩
theorem rb_m39 {k H R : Nat} {S : Gs} {w w' : Mm} (h : RB k H R S w) (u : M39 w w') : RB k H R S w' := rb_cg h u.2 fun c k' i q => u.1 c k' i (by omega)
theorem mseg_m39 {p i : Nat} {ms : List Int32} {w w' : Mm} (h : MSEG p i ms w) (u : M39 w w') : MSEG p i ms w' := fun j v e => by rw [u.1 _ _ _ (by omega)]; exact h j v e
theorem mseg_l {p i : Nat} {a b : List Int32} {w : Mm} (h : MSEG p i (a ++ b) w) : MSEG p i a w := fun j v e =>
  h j v (by rw [List.getElem?_append_left (List.getElem?_eq_some_iff.mp e).1]; exact e)
theorem mseg_r {p i : Nat} {a b : List Int32} {w : Mm} (h : MSEG p i (a ++ b) w) : MSEG p (i + a.length) b w := fun j v e => by
  have := h (a.length + j) v (by rw [List.getElem?_append_right (by omega), Nat.add_sub_cancel_left]; exact e)
  rwa [Nat.add_assoc]
theorem stb_l {s s' : List Int32} {w : Mm} (h : STB (s ++ s') w) : STB s w := fun j v e => h j v (by rw [List.getElem?_append_left (List.getElem?_eq_some_iff.mp e).1]; exact e)
theorem stb_push {s : List Int32} {v : Int32} {w : Mm} (h : STB s w) : STB (s ++ [v]) (pI w 39 0 s.length v) := fun j x e => by
  rcases app_some e with ⟨e1, e2⟩ | ⟨e1, e2⟩
  · rw [gI_pI, if_neg (by omega)]; exact h j x e2
  · subst e1; subst e2; simp [gI_pI]
theorem stb_at {s : List Int32} {v : Int32} {w : Mm} (h : STB (s ++ [v]) w) : gI w 39 0 s.length = v := h _ _ (by simp)
theorem nI_pm {t : Nat} : nI (t + 1) + (-1) = nI t := by
  rw [← Int32.sub_eq_add_neg]; exact nI_pred t
/-- what code does: a number on the stack, in c steps -/
def EVB (H R c : Nat) (ms : List Int32) (f : Gs → Int32) : Prop := ∀ k i E S s w, MSEG (gR w 32 0 11 - 1) i ms w → shD w 53 (gR w 32 0 11 - 1) = true → i + ms.length ≤ E → E ≤ 800 → s.length + c ≤ 400 → SH H R S → RB k H R S w → STB s w →
  ∃ w', (∀ n, f_X14_reckon_L5 k (nI E) (n + c) (nI i) (nI s.length) w = f_X14_reckon_L5 k (nI E) n (nI (i + ms.length)) (nI (s.length + 1)) w') ∧ STB (s ++ [f S]) w' ∧ M39 w w'
theorem evb_leaf {H R : Nat} {ms : List Int32} {f : Gs → Int32} (h : ∀ k i E S t w n, MSEG (gR w 32 0 11 - 1) i ms w → shD w 53 (gR w 32 0 11 - 1) = true → i + ms.length ≤ E → E ≤ 800 → t < 400 → SH H R S → RB k H R S w → f_X14_reckon_L5 k (nI E) (n + 1) (nI i) (nI t) w = f_X14_reckon_L5 k (nI E) n (nI (i + ms.length)) (nI (t + 1)) (pI w 39 0 t (f S))) : EVB H R 1 ms f := by
  intro k i E S s w hs h53 hi hE hl hS hB hst
  exact ⟨_, fun n => h k i E S s.length w n hs h53 hi hE (by omega) hS hB, stb_push hst, m39_p⟩
theorem evb_un {H R c : Nat} {x : Int32} {ms : List Int32} {f f' : Gs → Int32} (hc : EVB H R c ms f) (h : ∀ k i E S t w n, gI w 53 (gR w 32 0 11 - 1) i = x → shD w 53 (gR w 32 0 11 - 1) = true → i < E → E ≤ 800 → t < 400 → RB k H R S w → gI w 39 0 t = f S → f_X14_reckon_L5 k (nI E) (n + 1) (nI i) (nI (t + 1)) w = f_X14_reckon_L5 k (nI E) n (nI (i + 1)) (nI (t + 1)) (pI w 39 0 t (f' S))) (hc1 : 1 ≤ c) : EVB H R (c + 1) (ms ++ [x]) f' := by
  intro k i E S s w hs h53 hi hE hl hS hB hst
  simp only [List.length_append, List.length_singleton] at hi
  obtain ⟨w1, a1, a2, a3⟩ := hc k i E S s w (mseg_l hs) h53 (by omega) hE (by omega) hS hB hst
  have hs1 := mseg_r (mseg_m39 hs a3) 0 x rfl
  have eR : gR w1 = gR w := gR_2 a3.2
  have h := h k (i + ms.length) E S s.length w1
  rw [eR] at h
  refine ⟨pI w1 39 0 s.length (f' S), fun n => ?_, ?_, m39_tr a3 m39_p⟩
  · have e := a1 (n + 1)
    rw [show n + (c + 1) = n + 1 + c by omega, e, h n hs1 (by rw [shD_2 a3.2]; exact h53) (by omega) hE (by omega) (rb_m39 hB a3) (stb_at a2), List.length_append, List.length_singleton, Nat.add_assoc]
  · exact stb_push (stb_l a2)
theorem evb_bin {H R c c' : Nat} {x : Int32} {ms ms' : List Int32} {f f' f'' : Gs → Int32} (hc : EVB H R c ms f) (hc1 : 1 ≤ c) (hc' : EVB H R c' ms' f') (hc1' : 1 ≤ c') (h : ∀ k i E S t w n, gI w 53 (gR w 32 0 11 - 1) i = x → shD w 53 (gR w 32 0 11 - 1) = true → i < E → E ≤ 800 → t + 1 < 400 → RB k H R S w → gI w 39 0 t = f S → gI w 39 0 (t + 1) = f' S → f_X14_reckon_L5 k (nI E) (n + 1) (nI i) (nI (t + 2)) w = f_X14_reckon_L5 k (nI E) n (nI (i + 1)) (nI (t + 1)) (pI w 39 0 t (f'' S))) : EVB H R (c + c' + 1) (ms ++ ms' ++ [x]) f'' := by
  intro k i E S s w hs h53 hi hE hl hS hB hst
  simp only [List.length_append, List.length_singleton] at hi
  obtain ⟨w1, a1, a2, a3⟩ := hc k i E S s w (mseg_l (mseg_l hs)) h53 (by omega) hE (by omega) hS hB hst
  have eR : gR w1 = gR w := gR_2 a3.2
  have h53' : shD w1 53 (gR w 32 0 11 - 1) = true := by rw [shD_2 a3.2]; exact h53
  have hb := hc' k (i + ms.length) E S (s ++ [f S]) w1
  rw [eR] at hb
  obtain ⟨w2, b1, b2, b3⟩ := hb (mseg_m39 (mseg_r (mseg_l hs)) a3) h53' (by omega) hE (by rw [List.length_append, List.length_singleton]; omega) hS (rb_m39 hB a3) a2
  have m2 := m39_tr a3 b3
  have hs2 := mseg_r (mseg_m39 hs m2) 0 x rfl
  have eR2 : gR w2 = gR w := gR_2 m2.2
  have hh := h k (i + (ms ++ ms').length) E S s.length w2
  rw [eR2] at hh
  have t0 : gI w2 39 0 s.length = f S := stb_at (stb_l b2)
  have t1 : gI w2 39 0 (s.length + 1) = f' S := by
    have := stb_at b2
    rwa [List.length_append, List.length_singleton] at this
  refine ⟨pI w2 39 0 s.length (f'' S), fun n => ?_, stb_push (stb_l (stb_l b2)), m39_tr m2 m39_p⟩
  have e := a1 (n + 1 + c')
  have e' := b1 (n + 1)
  rw [List.length_append, List.length_singleton] at e'
  rw [List.length_append] at hh
  rw [show n + (c + c' + 1) = n + 1 + c' + c by omega, e, e', show i + ms.length + ms'.length = i + (ms.length + ms'.length) by omega, show s.length + 1 + 1 = s.length + 2 by omega, hh n (by rw [← List.length_append]; exact hs2) (by rw [shD_2 m2.2]; exact h53) (by omega) hE (by omega) (rb_m39 hB m2) t0 t1]
  simp only [List.length_append, List.length_singleton]
  rw [show i + (ms.length + ms'.length) + 1 = i + (ms.length + ms'.length + 1) by omega]
theorem b_both {op : Nat} {l r : Int32} {w : Mm} (h : isAr op) : f_X15_both (mop op) l r w = some (bth op l r, w) := by
  rcases h with rfl | rfl | rfl | rfl | rfl | rfl
  · unfold f_X15_both; exact brF (by decide) (brF (by decide) (brF (by decide) (brT (by decide) rfl)))
  · unfold f_X15_both; exact brF (by decide) (brF (by decide) (brF (by decide) (brF (by decide) (brT (by decide) rfl))))
  · unfold f_X15_both; exact brF (by decide) (brF (by decide) (brF (by decide) (brF (by decide) (brF (by decide) (brT (by decide) rfl)))))
  · unfold f_X15_both
    refine brF (by decide) (brF (by decide) (brF (by decide) (brF (by decide) (brF (by decide) (brF (by decide) (brT (by decide) ?_))))))
    show _ = some ((if r = 0 then 0 else l / r), w)
    by_cases e : r = 0
    · rw [if_pos e]; exact brT e rfl
    · rw [if_neg e]; exact brF e (gdT (decide_eq_true e) rfl)
  · unfold f_X15_both; exact brF (by decide) (brT (by decide) rfl)
  · unfold f_X15_both; exact brF (by decide) (brF (by decide) (brT (by decide) rfl))
theorem b_cmp {op : Nat} {l r : Int32} {w : Mm} (h : isCm op) : f_X15_both (mop op) l r w = some (bI (cmB op l r), w) := by
  rcases h with rfl | rfl | rfl | rfl | rfl
  · unfold f_X15_both
    refine brF (by decide) (brF (by decide) (brF (by decide) (brF (by decide) (brF (by decide) (brF (by decide) (brF (by decide) (brT (by decide) ?_)))))))
    show _ = some (bI (decide (l < r)), w)
    by_cases e : r ≤ l
    · rw [bI_f (Int32.not_lt.mpr e)]; exact brT e rfl
    · rw [bI_t (Int32.not_le.mp e)]; exact brF e rfl
  · unfold f_X15_both
    refine brF (by decide) (brF (by decide) (brF (by decide) (brF (by decide) (brF (by decide) (brF (by decide) (brF (by decide) (brF (by decide) (brT (by decide) ?_))))))))
    show _ = some (bI (decide (r < l)), w)
    by_cases e : l ≤ r
    · rw [bI_f (Int32.not_lt.mpr e)]; exact brT e rfl
    · rw [bI_t (Int32.not_le.mp e)]; exact brF e rfl
  · unfold f_X15_both
    refine brF (by decide) (brF (by decide) (brF (by decide) (brF (by decide) (brF (by decide) (brF (by decide) (brF (by decide) (brF (by decide) (brF (by decide) (brT (by decide) ?_)))))))))
    show _ = some (bI (decide (l = r)), w)
    by_cases e : l = r
    · rw [bI_t e]; exact brT e rfl
    · rw [bI_f e]; exact brF e rfl
  · unfold f_X15_both
    refine brF (by decide) (brF (by decide) (brF (by decide) (brF (by decide) (brF (by decide) (brF (by decide) (brF (by decide) (brF (by decide) (brF (by decide) (brF (by decide) (brT (by decide) ?_))))))))))
    show _ = some (bI (decide (l ≤ r)), w)
    by_cases e : r < l
    · rw [bI_f (Int32.not_le.mpr e)]; exact brT e rfl
    · rw [bI_t (Int32.not_lt.mp e)]; exact brF e rfl
  · unfold f_X15_both
    refine brF (by decide) (brF (by decide) (brF (by decide) (brF (by decide) (brF (by decide) (brF (by decide) (brF (by decide) (brF (by decide) (brF (by decide) (brF (by decide) (brF (by decide) (brT (by decide) ?_)))))))))))
    show _ = some (bI (decide (r ≤ l)), w)
    by_cases e : l < r
    · rw [bI_f (Int32.not_le.mpr e)]; exact brT e rfl
    · rw [bI_t (Int32.not_lt.mp e)]; exact brF e rfl
theorem b_and {l r : Bool} {w : Mm} : f_X15_both 19 (bI l) (bI r) w = some (bI (l && r), w) := by
  unfold f_X15_both
  refine brT (by decide) ?_
  cases l <;> cases r <;> rfl
theorem b_or {l r : Bool} {w : Mm} : f_X15_both 20 (bI l) (bI r) w = some (bI (l || r), w) := by
  unfold f_X15_both
  refine brF (by decide) (brF (by decide) (brF (by decide) (brF (by decide) (brF (by decide) (brF (by decide) (brF (by decide) (brF (by decide) (brF (by decide) (brF (by decide) (brF (by decide) (brF (by decide) ?_)))))))))))
  cases l <;> cases r <;> rfl
set_option maxRecDepth 100000 in
/-- a joining code -/
theorem b_stepJ {k i E t n H R : Nat} {S : Gs} {w : Mm} {x l r v : Int32} (hx : x = 34 ∨ x = 35 ∨ x = 36 ∨ x = 37 ∨ x = 21 ∨ x = 22 ∨ x = 38 ∨ x = 39 ∨ x = 42 ∨ x = 43 ∨ x = 44 ∨ x = 19 ∨ x = 20) (h : gI w 53 (gR w 32 0 11 - 1) i = x) (h53 : shD w 53 (gR w 32 0 11 - 1) = true) (hi : i < E) (hE : E ≤ 800) (ht : t + 1 < 400) (hB : RB k H R S w) (h0 : gI w 39 0 t = l) (h1 : gI w 39 0 (t + 1) = r) (hb : f_X15_both x l r w = some (v, w)) :
    f_X14_reckon_L5 k (nI E) (n + 1) (nI i) (nI (t + 2)) w = f_X14_reckon_L5 k (nI E) n (nI (i + 1)) (nI (t + 1)) (pI w 39 0 t v) := by
  obtain ⟨⟨p1, p2, p3, p4, p5, p6, p7, p8⟩, -⟩ := hB
  have hvi : vB (nI i) 800 = true := (vB_nI (by omega)).mpr (by omega)
  have e1 : nI (t + 2) + (-1) = nI (t + 1) := nI_pm
  have e2 : nI (t + 1) - 1 = nI t := nI_pred t
  rw [f_X14_reckon_L5]
  refine brF (by (simp (disch := omega) only [lit_nI, nI_leI, nI_ltI, nI_eq, nI_clamp, nI_add, nI_sub, vB_nI, Nat.add_sub_cancel, Nat.reduceSub, Nat.reduceLT, Nat.reduceLeDiff, Nat.reduceAdd, gI_pI, p2_pI, Nat.reduceEqDiff, false_and, and_false, true_and, and_true, if_false, if_true, and_self] <;> omega)) (gdT p1 (sqT (gdT p2 (gdT hvi (gdT h53 ?_)))))
  rw [nI_clamp (by omega), h]
  refine sqT (sqT ?_)
  rw [nI_1]
  have fin : (sq (nI (t + 2) + (-1)) fun x128 => gd (vB (x128 - 1) 400) (gd (vB x128 400) (bd1 (f_X15_both x (gI w 39 0 (x128 - 1).toNatClampNeg) (gI w 39 0 x128.toNatClampNeg) w) (fun r131 w132 => gd (vB (x128 - 1) 400) (sq (pI w132 39 0 (x128 - 1).toNatClampNeg r131) (fun w134 => f_X14_reckon_L5 k (nI E) n (nI (i + 1)) x128 w134)))))) = f_X14_reckon_L5 k (nI E) n (nI (i + 1)) (nI (t + 1)) (pI w 39 0 t v) := by
    refine sqT ?_
    rw [e1, e2]
    refine gdT ((vB_nI (by omega)).mpr (by omega)) (gdT ((vB_nI (by omega)).mpr (by omega)) ?_)
    rw [nI_clamp (by omega), nI_clamp (by omega), h0, h1]
    exact bd1T hb (gdT ((vB_nI (by omega)).mpr (by omega)) (sqT rfl))
  rcases hx with rfl | rfl | rfl | rfl | rfl | rfl | rfl | rfl | rfl | rfl | rfl | rfl | rfl <;> (repeat (first | (with_reducible refine brT ?_ ?_; focus (decide; done)) | (with_reducible refine brF ?_ ?_; focus (decide; done)))) <;> exact fin
