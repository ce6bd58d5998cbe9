-- THE PURE PART: sums and tests of the reference, each kind
theorem b_leafR {k i E t n H R : Nat} {S : Gs} {w : Mm} {x v : Int32} (hx : x = 10 ∨ x = 11 ∨ x = 12) (h : gI w 53 (gR w 32 0 11 - 1) i = x) (h53 : shD w 53 (gR w 32 0 11 - 1) = true) (hi : i < E) (hE : E ≤ 800) (ht : t < 400) (hB : RB k H R S w) (hb : f_X14_told k x 0 w = some (v, w)) :
    f_X14_reckon_L5 k (nI E) (n + 1) (nI i) (nI t) w = f_X14_reckon_L5 k (nI E) n (nI (i + 1)) (nI (t + 1)) (pI w 39 0 t v) := by
  obtain ⟨⟨p1, p2, p3, p4, p5, p6, p7, p8⟩, -⟩ := hB
  have hvi : vB (nI i) 800 = true := (vB_nI (by omega)).mpr (by omega)
  have hvt : vB (nI t) 400 = true := (vB_nI (by omega)).mpr (by omega)
  rw [f_X14_reckon_L5]
  refine brF (by (simp (disch := omega) only [lit_nI, nI_leI, nI_ltI, nI_eq, nI_clamp, nI_add, nI_sub, vB_nI, Nat.add_sub_cancel, Nat.reduceSub, Nat.reduceLT, Nat.reduceLeDiff, Nat.reduceAdd, gI_pI, p2_pI, Nat.reduceEqDiff, false_and, and_false, true_and, and_true, if_false, if_true, and_self] <;> omega)) (gdT p1 (sqT (gdT p2 (gdT hvi (gdT h53 ?_)))))
  rw [nI_clamp (by omega), h]
  refine sqT (sqT ?_)
  rw [nI_1]
  rcases hx with rfl | rfl | rfl
  all_goals
    repeat (first | (with_reducible refine brT ?_ ?_; focus (decide; done)) | (with_reducible refine brF ?_ ?_; focus (decide; done)))
    refine bd1T hb (gdT hvt (sqT ?_))
    repeat (first | (with_reducible refine brT ?_ ?_; focus (decide; done)) | (with_reducible refine brF ?_ ?_; focus (decide; done)))
    refine sqT (sqT ?_)
    rw [Int32.add_zero, nI_1, nI_clamp (by omega)]
theorem b_leafN {k i E t n H R : Nat} {S : Gs} {w : Mm} {x y v : Int32} (hx : x = 13 ∨ x = 14 ∨ x = 15) (h : gI w 53 (gR w 32 0 11 - 1) i = x) (hy : gI w 53 (gR w 32 0 11 - 1) (i + 1) = y) (h53 : shD w 53 (gR w 32 0 11 - 1) = true) (hi : i + 1 < E) (hE : E ≤ 800) (ht : t < 400) (hB : RB k H R S w) (hb : f_X14_told k x y w = some (v, w)) :
    f_X14_reckon_L5 k (nI E) (n + 1) (nI i) (nI t) w = f_X14_reckon_L5 k (nI E) n (nI (i + 2)) (nI (t + 1)) (pI w 39 0 t v) := by
  obtain ⟨⟨p1, p2, p3, p4, p5, p6, p7, p8⟩, -⟩ := hB
  have hvi : vB (nI i) 800 = true := (vB_nI (by omega)).mpr (by omega)
  have hvi1 : vB (nI (i + 1)) 800 = true := (vB_nI (by omega)).mpr (by omega)
  have hvt : vB (nI t) 400 = true := (vB_nI (by omega)).mpr (by omega)
  rw [f_X14_reckon_L5]
  refine brF (by (simp (disch := omega) only [lit_nI, nI_leI, nI_ltI, nI_eq, nI_clamp, nI_add, nI_sub, vB_nI, Nat.add_sub_cancel, Nat.reduceSub, Nat.reduceLT, Nat.reduceLeDiff, Nat.reduceAdd, gI_pI, p2_pI, Nat.reduceEqDiff, false_and, and_false, true_and, and_true, if_false, if_true, and_self] <;> omega)) (gdT p1 (sqT (gdT p2 (gdT hvi (gdT h53 ?_)))))
  rw [nI_clamp (by omega), h]
  refine sqT (sqT ?_)
  rw [nI_1]
  rcases hx with rfl | rfl | rfl
  all_goals
    repeat (first | (with_reducible refine brT ?_ ?_; focus (decide; done)) | (with_reducible refine brF ?_ ?_; focus (decide; done)))
    refine gdT p1 (sqT (gdT p2 (gdT hvi1 (gdT h53 ?_))))
    rw [nI_clamp (n := i + 1) (by omega), hy]
    refine bd1T hb (gdT hvt (sqT ?_))
    repeat (first | (with_reducible refine brT ?_ ?_; focus (decide; done)) | (with_reducible refine brF ?_ ?_; focus (decide; done)))
    refine sqT (sqT ?_)
    rw [nI_1, nI_1, nI_clamp (by omega)]
theorem b_leafP {k i E t n H R : Nat} {S : Gs} {w : Mm} {v : Int32} (h : gI w 53 (gR w 32 0 11 - 1) i = 32) (hy : gI w 53 (gR w 32 0 11 - 1) (i + 1) = v) (h53 : shD w 53 (gR w 32 0 11 - 1) = true) (hi : i + 1 < E) (hE : E ≤ 800) (ht : t < 400) (hB : RB k H R S w) :
    f_X14_reckon_L5 k (nI E) (n + 1) (nI i) (nI t) w = f_X14_reckon_L5 k (nI E) n (nI (i + 2)) (nI (t + 1)) (pI w 39 0 t v) := by
  obtain ⟨⟨p1, p2, p3, p4, p5, p6, p7, p8⟩, -⟩ := hB
  have hvi : vB (nI i) 800 = true := (vB_nI (by omega)).mpr (by omega)
  have hvi1 : vB (nI (i + 1)) 800 = true := (vB_nI (by omega)).mpr (by omega)
  have hvt : vB (nI t) 400 = true := (vB_nI (by omega)).mpr (by omega)
  rw [f_X14_reckon_L5]
  refine brF (by (simp (disch := omega) only [lit_nI, nI_leI, nI_ltI, nI_eq, nI_clamp, nI_add, nI_sub, vB_nI, Nat.add_sub_cancel, Nat.reduceSub, Nat.reduceLT, Nat.reduceLeDiff, Nat.reduceAdd, gI_pI, p2_pI, Nat.reduceEqDiff, false_and, and_false, true_and, and_true, if_false, if_true, and_self] <;> omega)) (gdT p1 (sqT (gdT p2 (gdT hvi (gdT h53 ?_)))))
  rw [nI_clamp (by omega), h]
  refine sqT (sqT ?_)
  rw [nI_1]
  repeat (first | (with_reducible refine brT ?_ ?_; focus (decide; done)) | (with_reducible refine brF ?_ ?_; focus (decide; done)))
  refine gdT p1 (sqT (gdT p2 (gdT hvi1 (gdT h53 (gdT hvt ?_)))))
  rw [nI_clamp (n := i + 1) (by omega), hy, nI_clamp (by omega)]
  refine sqT ?_
  repeat (first | (with_reducible refine brT ?_ ?_; focus (decide; done)) | (with_reducible refine brF ?_ ?_; focus (decide; done)))
  refine sqT (sqT ?_)
  rw [nI_1, nI_1]
theorem b_leafH {k i E t n H R x h : Nat} {S : Gs} {w : Mm} (hc : gI w 53 (gR w 32 0 11 - 1) i = 17) (hy : gI w 53 (gR w 32 0 11 - 1) (i + 1) = nI x) (hz : gI w 53 (gR w 32 0 11 - 1) (i + 2) = nI h) (h53 : shD w 53 (gR w 32 0 11 - 1) = true) (hi : i + 2 < E) (hE : E ≤ 800) (ht : t < 400) (hS : SH H R S) (hB : RB k H R S w) (hh : h < H) (hx : x < 16) :
    f_X14_reckon_L5 k (nI E) (n + 1) (nI i) (nI t) w = f_X14_reckon_L5 k (nI E) n (nI (i + 3)) (nI (t + 1)) (pI w 39 0 t (bI (decide (x ∈ sr S h)))) := by
  obtain ⟨⟨p1, p2, p3, p4, p5, p6, p7, p8⟩, -⟩ := id hB
  have hlen := sh_len hS hh
  have hvi : vB (nI i) 800 = true := (vB_nI (by omega)).mpr (by omega)
  have hvi1 : vB (nI (i + 1)) 800 = true := (vB_nI (by omega)).mpr (by omega)
  have hvi2 : vB (nI (i + 2)) 800 = true := (vB_nI (by omega)).mpr (by omega)
  have hvt : vB (nI t) 400 = true := (vB_nI (by omega)).mpr (by omega)
  rw [f_X14_reckon_L5]
  refine brF (by (simp (disch := omega) only [lit_nI, nI_leI, nI_ltI, nI_eq, nI_clamp, nI_add, nI_sub, vB_nI, Nat.add_sub_cancel, Nat.reduceSub, Nat.reduceLT, Nat.reduceLeDiff, Nat.reduceAdd, gI_pI, p2_pI, Nat.reduceEqDiff, false_and, and_false, true_and, and_true, if_false, if_true, and_self] <;> omega)) (gdT p1 (sqT (gdT p2 (gdT hvi (gdT h53 ?_)))))
  rw [nI_clamp (by omega), hc]
  refine sqT (sqT ?_)
  rw [nI_1]
  repeat (first | (with_reducible refine brT ?_ ?_; focus (decide; done)) | (with_reducible refine brF ?_ ?_; focus (decide; done)))
  rw [nI_1]
  refine gdT p1 (sqT (gdT p2 (gdT hvi1 (gdT h53 (gdT p1 (sqT (gdT p2 (gdT hvi2 (gdT h53 ?_)))))))))
  rw [nI_clamp (n := i + 1) (by omega), hy, nI_clamp (n := i + 1 + 1) (by omega), hz]
  refine bd1T (p_X14_place hS hB hh hx) ?_
  have e3 : nI (i + 1) + 2 = nI (i + 3) := by rw [lit_nI, nI_add]
  by_cases m : x ∈ sr S h
  · rw [bI_t m]
    refine brF (by rw [place_m1 (by omega)]; exact fun q => q m) (gdT hvt (sqT (sqT (sqT ?_))))
    rw [nI_clamp (by omega), e3, nI_1]
  · rw [bI_f m]
    refine brT (by rw [place_m1 (by omega)]; exact m) (gdT hvt (sqT (sqT (sqT ?_))))
    rw [nI_clamp (by omega), e3, nI_1]
theorem b_unM {k i E t n H R : Nat} {S : Gs} {w : Mm} {v : Int32} (h : gI w 53 (gR w 32 0 11 - 1) i = 33) (h53 : shD w 53 (gR w 32 0 11 - 1) = true) (hi : i < E) (hE : E ≤ 800) (ht : t < 400) (hB : RB k H R S w) (h0 : gI w 39 0 t = v) :
    f_X14_reckon_L5 k (nI E) (n + 1) (nI i) (nI (t + 1)) w = f_X14_reckon_L5 k (nI E) n (nI (i + 1)) (nI (t + 1)) (pI w 39 0 t (-v)) := by
  obtain ⟨⟨p1, p2, p3, p4, p5, p6, p7, p8⟩, -⟩ := hB
  have hvi : vB (nI i) 800 = true := (vB_nI (by omega)).mpr (by omega)
  have hvt : vB (nI t) 400 = true := (vB_nI (by omega)).mpr (by omega)
  have e2 : nI (t + 1) - 1 = nI t := nI_pred t
  rw [f_X14_reckon_L5, e2]
  refine brF (by (simp (disch := omega) only [lit_nI, nI_leI, nI_ltI, nI_eq, nI_clamp, nI_add, nI_sub, vB_nI, Nat.add_sub_cancel, Nat.reduceSub, Nat.reduceLT, Nat.reduceLeDiff, Nat.reduceAdd, gI_pI, p2_pI, Nat.reduceEqDiff, false_and, and_false, true_and, and_true, if_false, if_true, and_self] <;> omega)) (gdT p1 (sqT (gdT p2 (gdT hvi (gdT h53 ?_)))))
  rw [nI_clamp (by omega), h]
  refine sqT (sqT ?_)
  rw [nI_1]
  repeat (first | (with_reducible refine brT ?_ ?_; focus (decide; done)) | (with_reducible refine brF ?_ ?_; focus (decide; done)))
  refine gdT hvt (gdT hvt ?_)
  rw [nI_clamp (n := t) (by omega), h0]
  exact sqT rfl
theorem b_unN {k i E t n H R : Nat} {S : Gs} {w : Mm} {v : Bool} (h : gI w 53 (gR w 32 0 11 - 1) i = 18) (h53 : shD w 53 (gR w 32 0 11 - 1) = true) (hi : i < E) (hE : E ≤ 800) (ht : t < 400) (hB : RB k H R S w) (h0 : gI w 39 0 t = bI v) :
    f_X14_reckon_L5 k (nI E) (n + 1) (nI i) (nI (t + 1)) w = f_X14_reckon_L5 k (nI E) n (nI (i + 1)) (nI (t + 1)) (pI w 39 0 t (bI (!v))) := by
  obtain ⟨⟨p1, p2, p3, p4, p5, p6, p7, p8⟩, -⟩ := hB
  have hvi : vB (nI i) 800 = true := (vB_nI (by omega)).mpr (by omega)
  have hvt : vB (nI t) 400 = true := (vB_nI (by omega)).mpr (by omega)
  have e2 : nI (t + 1) - 1 = nI t := nI_pred t
  rw [f_X14_reckon_L5, e2]
  refine brF (by (simp (disch := omega) only [lit_nI, nI_leI, nI_ltI, nI_eq, nI_clamp, nI_add, nI_sub, vB_nI, Nat.add_sub_cancel, Nat.reduceSub, Nat.reduceLT, Nat.reduceLeDiff, Nat.reduceAdd, gI_pI, p2_pI, Nat.reduceEqDiff, false_and, and_false, true_and, and_true, if_false, if_true, and_self] <;> omega)) (gdT p1 (sqT (gdT p2 (gdT hvi (gdT h53 ?_)))))
  rw [nI_clamp (by omega), h]
  refine sqT (sqT ?_)
  rw [nI_1]
  repeat (first | (with_reducible refine brT ?_ ?_; focus (decide; done)) | (with_reducible refine brF ?_ ?_; focus (decide; done)))
  refine gdT hvt (gdT hvt ?_)
  rw [nI_clamp (n := t) (by omega), h0, show (1 : Int32) - bI v = bI (!v) by cases v <;> rfl]
  exact sqT rfl
theorem mop_in {op : Nat} (h : isAr op ∨ isCm op) : mop op = 34 ∨ mop op = 35 ∨ mop op = 36 ∨ mop op = 37 ∨ mop op = 21 ∨ mop op = 22 ∨ mop op = 38 ∨ mop op = 39 ∨ mop op = 42 ∨ mop op = 43 ∨ mop op = 44 ∨ mop op = 19 ∨ mop op = 20 := by
  have hop : op = 36 ∨ op = 37 ∨ op = 38 ∨ op = 39 ∨ op = 28 ∨ op = 29 ∨ op = 40 ∨ op = 41 ∨ op = 42 ∨ op = 43 ∨ op = 44 := by
    unfold isAr isCm at h; omega
  rcases hop with rfl | rfl | rfl | rfl | rfl | rfl | rfl | rfl | rfl | rfl | rfl <;> decide
theorem evb_ex {H R : Nat} {c : List Ps} {m : List Int32} {f : Gs → Int32} (h : EX H R c m f) : EVB H R c.length m f ∧ 1 ≤ c.length := by
  refine h (fun c m f => EVB H R c.length m f ∧ 1 ≤ c.length) ⟨fun v b => ⟨?_, Nat.le_refl _⟩, fun a b => ⟨?_, Nat.le_refl _⟩, fun a b => ⟨?_, Nat.le_refl _⟩, fun a b => ⟨?_, Nat.le_refl _⟩, fun h b hh => ⟨?_, Nat.le_refl _⟩, fun h b hh => ⟨?_, Nat.le_refl _⟩, fun r b hr => ⟨?_, Nat.le_refl _⟩, fun c m f a b hc => ⟨?_, by simp only [List.length_append, List.length_singleton]; omega⟩, fun op c m f c' m' f' a b ho hc hc' => ⟨?_, by simp only [List.length_append, List.length_singleton]; omega⟩⟩
  · exact evb_leaf fun k i E S t w n hs h53 hi hE ht hS hB => b_leafP (hs 0 _ rfl) (hs 1 _ rfl) h53 (by simp at hi; omega) hE ht hB
  · refine evb_leaf fun k i E S t w n hs h53 hi hE ht hS hB => b_leafR (Or.inl rfl) (hs 0 _ rfl) h53 (by simp at hi; omega) hE ht hB ?_
    unfold f_X14_told
    rw [hB.2.1.1]
    exact brT rfl rfl
  · refine evb_leaf fun k i E S t w n hs h53 hi hE ht hS hB => b_leafR (Or.inr (Or.inl rfl)) (hs 0 _ rfl) h53 (by simp at hi; omega) hE ht hB ?_
    unfold f_X14_told
    rw [hB.2.1.2.2.2]
    exact brF (by decide) (brT rfl rfl)
  · refine evb_leaf fun k i E S t w n hs h53 hi hE ht hS hB => b_leafR (Or.inr (Or.inr rfl)) (hs 0 _ rfl) h53 (by simp at hi; omega) hE ht hB ?_
    unfold f_X14_told
    rw [hB.2.1.2.2.1]
    exact brF (by decide) (brF (by decide) (brT rfl rfl))
  · refine evb_leaf fun k i E S t w n hs h53 hi hE ht hS hB => b_leafN (Or.inl rfl) (hs 0 _ rfl) (hs 1 _ rfl) h53 (by simp at hi; omega) hE ht hB ?_
    have hH := hS.1
    unfold f_X14_told
    refine brF (by decide) (brF (by decide) (brF (by decide) (brT rfl (gdT ((vB_nI (by omega)).mpr (by omega)) ?_))))
    rw [nI_clamp (by omega), (hB.2.2.1 h hh).1]
  · refine evb_leaf fun k i E S t w n hs h53 hi hE ht hS hB => b_leafN (Or.inr (Or.inl rfl)) (hs 0 _ rfl) (hs 1 _ rfl) h53 (by simp at hi; omega) hE ht hB ?_
    have hH := hS.1
    unfold f_X14_told
    refine brF (by decide) (brF (by decide) (brF (by decide) (brF (by decide) (brT rfl (gdT ((vB_nI (by omega)).mpr (by omega)) ?_)))))
    rw [nI_clamp (by omega), (hB.2.2.1 h hh).2.1]
  · refine evb_leaf fun k i E S t w n hs h53 hi hE ht hS hB => b_leafN (Or.inr (Or.inr rfl)) (hs 0 _ rfl) (hs 1 _ rfl) h53 (by simp at hi; omega) hE ht hB ?_
    have hR := hS.2.1
    unfold f_X14_told
    refine brF (by decide) (brF (by decide) (brF (by decide) (brF (by decide) (brF (by decide) (gdT ((vB_nI (by omega)).mpr (by omega)) ?_)))))
    rw [nI_clamp (by omega), (hB.2.2.2 r hr).1]
  · rw [List.length_append]
    exact evb_un hc.1 (fun k i E S t w n h h53 hi hE ht hB h0 => b_unM h h53 hi hE ht hB h0) hc.2
  · rw [List.length_append, List.length_append]
    exact evb_bin hc.1 hc.2 hc'.1 hc'.2 fun k i E S t w n h h53 hi hE ht hB h0 h1 => b_stepJ (mop_in (Or.inl ho)) h h53 hi hE ht hB h0 h1 (b_both ho)
theorem evb_tx {H R : Nat} {c : List Ps} {m : List Int32} {f : Gs → Bool} (h : TX H R c m f) : EVB H R c.length m (fun S => bI (f S)) ∧ 1 ≤ c.length := by
  refine h (fun c m f => EVB H R c.length m (fun S => bI (f S)) ∧ 1 ≤ c.length) ⟨fun x h hh hx => ⟨?_, Nat.le_refl _⟩, fun c m f a b hc => ⟨?_, by simp only [List.length_append, List.length_singleton]; omega⟩, fun c m f c' m' f' a b hc hc' => ⟨?_, by simp only [List.length_append, List.length_singleton]; omega⟩, fun c m f c' m' f' a b hc hc' => ⟨?_, by simp only [List.length_append, List.length_singleton]; omega⟩, fun op c m f c' m' f' a b ho hc hc' => ⟨?_, by simp only [List.length_append, List.length_singleton]; omega⟩⟩
  · exact evb_leaf fun k i E S t w n hs h53 hi hE ht hS hB => b_leafH (hs 0 _ rfl) (hs 1 _ rfl) (hs 2 _ rfl) h53 (by simp at hi; omega) hE ht hS hB hh (by have := hS.1; have := hS.2.1; omega)
  · rw [List.length_append]
    exact evb_un hc.1 (fun k i E S t w n h h53 hi hE ht hB h0 => b_unN h h53 hi hE ht hB h0) hc.2
  · rw [List.length_append, List.length_append]
    exact evb_bin hc.1 hc.2 hc'.1 hc'.2 fun k i E S t w n h h53 hi hE ht hB h0 h1 => b_stepJ (by decide) h h53 hi hE ht hB h0 h1 b_and
  · rw [List.length_append, List.length_append]
    exact evb_bin hc.1 hc.2 hc'.1 hc'.2 fun k i E S t w n h h53 hi hE ht hB h0 h1 => b_stepJ (by decide) h h53 hi hE ht hB h0 h1 b_or
  · obtain ⟨q1, q2⟩ := evb_ex hc
    obtain ⟨q3, q4⟩ := evb_ex hc'
    rw [List.length_append, List.length_append]
    exact evb_bin q1 q2 q3 q4 fun k i E S t w n h h53 hi hE ht hB h0 h1 => b_stepJ (mop_in (Or.inr ho)) h h53 hi hE ht hB h0 h1 (b_cmp ho)
