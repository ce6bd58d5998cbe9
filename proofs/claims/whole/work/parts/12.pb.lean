-- THE PURE PART: the pictures under puts; rows
theorem ra_cg {g H R : Nat} {S : Gs} {w w' : Mm} (h : RA g H R S w) (hH : H ≤ 8) (hR : R ≤ 8) (q : ∀ c k i, (c = 19 ∧ k = g) ∨ ((c = 22 ∨ c = 23 ∨ c = 24) ∧ 8 * g ≤ k ∧ k < 8 * g + 8) → gI w' c k i = gI w c k i) : RA g H R S w' := by
  obtain ⟨a, b, c, d⟩ := h
  have q19 : ∀ i, gI w' 19 g i = gI w 19 g i := fun i => q _ _ _ (Or.inl ⟨rfl, rfl⟩)
  refine ⟨by rw [q19, q19]; exact a, by rw [q19, q19, q19, q19, q19]; exact b, fun x hx => ?_, fun x hx => ?_⟩
  · have e : ∀ i, gI w' 22 (8 * g + x) i = gI w 22 (8 * g + x) i := fun i => q _ _ _ (Or.inr ⟨Or.inl rfl, by omega, by omega⟩)
    have e' : ∀ i, gI w' 23 (8 * g + x) i = gI w 23 (8 * g + x) i := fun i => q _ _ _ (Or.inr ⟨Or.inr (Or.inl rfl), by omega, by omega⟩)
    simp only [e, e']
    exact c x hx
  · have e : ∀ i, gI w' 24 (8 * g + x) i = gI w 24 (8 * g + x) i := fun i => q _ _ _ (Or.inr ⟨Or.inr (Or.inr rfl), by omega, by omega⟩)
    simp only [e]
    exact d x hx
theorem ra_o {g H R : Nat} {S : Gs} {w : Mm} {c k i : Nat} {v : Int32} (h : RA g H R S w) (hH : H ≤ 8) (hR : R ≤ 8) (hc : c ≠ 19 ∧ c ≠ 22 ∧ c ≠ 23 ∧ c ≠ 24) : RA g H R S (pI w c k i v) :=
  ra_cg h hH hR fun c' k' i' q => by rw [gI_pI, if_neg]; omega
theorem ra_s {g H R j : Nat} {S : Gs} {w : Mm} {v : Int32} (h : RA g H R S w) (hj : j < 5) : RA g H R (pg S 0 j v) (pI w 19 g (4 + j) v) := by
  obtain ⟨a, b, c, d⟩ := h
  refine ⟨?_, ?_, fun q hq => by simpa [gI_pI, sg_pg, sr_pg] using c q hq, fun q hq => by simpa [gI_pI, sg_pg, sr_pg] using d q hq⟩
  · have hj : j = 0 ∨ j = 1 ∨ j = 2 ∨ j = 3 ∨ j = 4 := by omega
    rcases hj with rfl | rfl | rfl | rfl | rfl <;> simpa [gI_pI, sg_pg] using a
  · obtain ⟨b1, b2, b3, b4, b5⟩ := b
    have hj : j = 0 ∨ j = 1 ∨ j = 2 ∨ j = 3 ∨ j = 4 := by omega
    rcases hj with rfl | rfl | rfl | rfl | rfl <;> simp [gI_pI, sg_pg, b1, b2, b3, b4, b5]
theorem ra_h {g H R j h0 : Nat} {S : Gs} {w : Mm} {v : Int32} (h : RA g H R S w) (hj : j < 3) : RA g H R (pg S (1 + j) h0 v) (pI w 22 (8 * g + h0) j v) := by
  obtain ⟨a, b, c, d⟩ := h
  have hz : ¬ (0 = 1 + j) := by omega
  refine ⟨by simpa [gI_pI] using a, by simpa [gI_pI, sg_pg, hz] using b, fun q hq => ?_, fun q hq => ?_⟩
  · obtain ⟨c1, c2, c3, c4, c5⟩ := c q hq
    have hj : j = 0 ∨ j = 1 ∨ j = 2 := by omega
    rcases hj with rfl | rfl | rfl <;> by_cases e : q = h0 <;> simp [gI_pI, sg_pg, sr_pg, e, c1, c2, c3, c4, c5] <;> (try subst e) <;> simp [c1, c2, c3, c4, c5]
  · have hj : j = 0 ∨ j = 1 ∨ j = 2 := by omega
    rcases hj with rfl | rfl | rfl <;> simpa [gI_pI, sg_pg, sr_pg] using d q hq
theorem ra_r {g H R j r0 : Nat} {S : Gs} {w : Mm} {v : Int32} (h : RA g H R S w) (hj : j < 4) : RA g H R (pg S (4 + j) r0 v) (pI w 24 (8 * g + r0) j v) := by
  obtain ⟨a, b, c, d⟩ := h
  have hz : ¬ (0 = 4 + j) := by omega
  have hj : j = 0 ∨ j = 1 ∨ j = 2 ∨ j = 3 := by omega
  refine ⟨by simpa [gI_pI] using a, by simpa [gI_pI, sg_pg, hz] using b, fun q hq => ?_, fun q hq => ?_⟩
  · rcases hj with rfl | rfl | rfl | rfl <;> simpa [gI_pI, sg_pg, sr_pg] using c q hq
  · obtain ⟨c1, c2, c3, c4⟩ := d q hq
    rcases hj with rfl | rfl | rfl | rfl <;> by_cases e : q = r0 <;> simp [gI_pI, sg_pg, sr_pg, e, c1, c2, c3, c4] <;> (try subst e) <;> simp [c1, c2, c3, c4]
theorem ra_w {g H R h0 : Nat} {S : Gs} {w w' : Mm} {l : List Nat} (h : RA g H R S w) (hH : H ≤ 8) (h0H : h0 < H) (hR : R ≤ 8) (q : ∀ c k i, ¬ (c = 22 ∧ k = 8 * g + h0 ∧ i = 3) → ¬ (c = 23 ∧ k = 8 * g + h0) → gI w' c k i = gI w c k i) (hl : gI w' 22 (8 * g + h0) 3 = nI l.length) (hr : RW (fun p => gI w' 23 (8 * g + h0) p) l) : RA g H R (pr S h0 l) w' := by
  obtain ⟨a, b, c, d⟩ := h
  have q19 : ∀ i, gI w' 19 g i = gI w 19 g i := fun i => q _ _ _ (by omega) (by omega)
  refine ⟨by rw [q19, q19]; exact a, by rw [q19, q19, q19, q19, q19]; exact b, fun x hx => ?_, fun x hx => ?_⟩
  · obtain ⟨c1, c2, c3, c4, c5⟩ := c x hx
    rw [q 22 (8 * g + x) 0 (by omega) (by omega), q 22 (8 * g + x) 1 (by omega) (by omega), q 22 (8 * g + x) 2 (by omega) (by omega)]
    refine ⟨c1, c2, c3, ?_⟩
    by_cases e : x = h0
    · subst e
      rw [sr_pr, if_pos rfl]
      exact ⟨hl, hr⟩
    · rw [sr_pr, if_neg e]
      have e' : ∀ i, gI w' 23 (8 * g + x) i = gI w 23 (8 * g + x) i := fun i => q _ _ _ (by omega) (by omega)
      rw [q 22 (8 * g + x) 3 (by omega) (by omega)]
      simp only [e']
      exact ⟨c4, c5⟩
  · have e : ∀ i, gI w' 24 (8 * g + x) i = gI w 24 (8 * g + x) i := fun i => q _ _ _ (by omega) (by omega)
    simp only [e]
    exact d x hx
-- the reference's
theorem pb_cg {H R : Nat} {S S' : Gs} {w w' : Mm} (h : PB H R S w) (q2 : w'.2 = w.2) (q : ∀ c k i, 44 ≤ c → c ≤ 46 → gI w' c k i = gI w c k i) (e1 : ∀ x, sg S' 1 x = sg S 1 x) (e4 : ∀ x, sg S' 4 x = sg S 4 x) : PB H R S' w' := by
  obtain ⟨a1, a2, a3, a4, a5, a6, a7, a8⟩ := h
  unfold PB
  rw [gR_2 q2, shD_2 q2, shD_2 q2, shD_2 q2, q _ _ _ (by omega) (by omega), q _ _ _ (by omega) (by omega)]
  refine ⟨a1, a2, a3, a4, a5, a6, fun x hx => ?_, fun x hx => ?_⟩
  · rw [q _ _ _ (by omega) (by omega), e1]; exact a7 x hx
  · rw [q _ _ _ (by omega) (by omega), e4]; exact a8 x hx
theorem rb_cg {k H R : Nat} {S : Gs} {w w' : Mm} (h : RB k H R S w) (q2 : w'.2 = w.2) (q : ∀ c k' i, (44 ≤ c ∧ c ≤ 46) ∨ (55 ≤ c ∧ c ≤ 62 ∧ k' = k) → gI w' c k' i = gI w c k' i) : RB k H R S w' := by
  obtain ⟨a, b, c, d⟩ := h
  have e : ∀ c, 55 ≤ c → c ≤ 62 → ∀ i, gI w' c k i = gI w c k i := fun c h1 h2 i => q _ _ _ (Or.inr ⟨h1, h2, rfl⟩)
  refine ⟨pb_cg a q2 (fun c k i h1 h2 => q _ _ _ (Or.inl ⟨h1, h2⟩)) (fun _ => rfl) (fun _ => rfl), ?_, fun x hx => ?_, fun x hx => ?_⟩
  · simp only [e 55 (by omega) (by omega)]; exact b
  · simp only [e 56 (by omega) (by omega), e 57 (by omega) (by omega), e 58 (by omega) (by omega), e 59 (by omega) (by omega)]; exact c x hx
  · simp only [e 60 (by omega) (by omega), e 61 (by omega) (by omega), e 62 (by omega) (by omega)]; exact d x hx
theorem rb_o {s H R : Nat} {S : Gs} {w : Mm} {c k i : Nat} {v : Int32} (h : RB s H R S w) (hc : c < 44 ∨ (46 < c ∧ c < 55) ∨ 62 < c) : RB s H R S (pI w c k i v) :=
  rb_cg h rfl fun c' k' i' q => by rw [gI_pI, if_neg]; omega
theorem rb_s {s H R j : Nat} {S : Gs} {w : Mm} {v : Int32} (h : RB s H R S w) (hj : j < 4) : RB s H R (pg S 0 j v) (pI w 55 s j v) := by
  obtain ⟨a, ⟨b1, b2, b3, b4⟩, c, d⟩ := h
  refine ⟨pb_cg a rfl (fun c k i h1 h2 => by rw [gI_pI, if_neg]; omega) (fun x => by simp [sg_pg]) (fun x => by simp [sg_pg]), ?_, fun q hq => by simpa [gI_pI, sg_pg, sr_pg] using c q hq, fun q hq => by simpa [gI_pI, sg_pg, sr_pg] using d q hq⟩
  have hj : j = 0 ∨ j = 1 ∨ j = 2 ∨ j = 3 := by omega
  rcases hj with rfl | rfl | rfl | rfl <;> simp [gI_pI, sg_pg, b1, b2, b3, b4]
/-- departures: the reference has no such field -/
theorem rb_d {s H R : Nat} {S : Gs} {w : Mm} {v : Int32} (h : RB s H R S w) : RB s H R (pg S 0 4 v) w := by
  obtain ⟨a, b, c, d⟩ := h
  exact ⟨pb_cg a rfl (fun c k i h1 h2 => rfl) (fun x => by simp [sg_pg]) (fun x => by simp [sg_pg]), by simpa [sg_pg] using b, fun q hq => by simpa [sg_pg, sr_pg] using c q hq, fun q hq => by simpa [sg_pg, sr_pg] using d q hq⟩
theorem rb_h {s H R j h0 : Nat} {S : Gs} {w : Mm} {v : Int32} (h : RB s H R S w) (hj : j < 2) : RB s H R (pg S (2 + j) h0 v) (pI w (58 + j) s h0 v) := by
  obtain ⟨a, b, c, d⟩ := h
  have hj : j = 0 ∨ j = 1 := by omega
  refine ⟨pb_cg a rfl (fun c k i h1 h2 => by rw [gI_pI, if_neg]; omega) (fun x => by rcases hj with rfl | rfl <;> simp [sg_pg]) (fun x => by rcases hj with rfl | rfl <;> simp [sg_pg]), by rcases hj with rfl | rfl <;> simpa [gI_pI, sg_pg] using b, fun q hq => ?_, fun q hq => ?_⟩
  · obtain ⟨c1, c2, c3, c4⟩ := c q hq
    rcases hj with rfl | rfl <;> by_cases e : q = h0 <;> simp [gI_pI, sg_pg, sr_pg, e, c1, c2, c3, c4] <;> (try subst e) <;> simp [c1, c2, c3, c4]
  · rcases hj with rfl | rfl <;> simpa [gI_pI, sg_pg, sr_pg] using d q hq
theorem rb_r {s H R j r0 : Nat} {S : Gs} {w : Mm} {v : Int32} (h : RB s H R S w) (hj : j < 3) : RB s H R (pg S (5 + j) r0 v) (pI w (60 + j) s r0 v) := by
  obtain ⟨a, b, c, d⟩ := h
  have hj : j = 0 ∨ j = 1 ∨ j = 2 := by omega
  refine ⟨pb_cg a rfl (fun c k i h1 h2 => by rw [gI_pI, if_neg]; omega) (fun x => by rcases hj with rfl | rfl | rfl <;> simp [sg_pg]) (fun x => by rcases hj with rfl | rfl | rfl <;> simp [sg_pg]), by rcases hj with rfl | rfl | rfl <;> simpa [gI_pI, sg_pg] using b, fun q hq => ?_, fun q hq => ?_⟩
  · rcases hj with rfl | rfl | rfl <;> simpa [gI_pI, sg_pg, sr_pg] using c q hq
  · obtain ⟨c1, c2, c3⟩ := d q hq
    rcases hj with rfl | rfl | rfl <;> by_cases e : q = r0 <;> simp [gI_pI, sg_pg, sr_pg, e, c1, c2, c3] <;> (try subst e) <;> simp [c1, c2, c3]
theorem rb_w {s H R h0 : Nat} {S : Gs} {w w' : Mm} {l : List Nat} (h : RB s H R S w) (q2 : w'.2 = w.2) (hl16 : ∀ x, x < H → (sr S x).length ≤ 16) (q : ∀ c k i, ¬ (c = 57 ∧ k = s ∧ i = h0) → ¬ (c = 56 ∧ k = s ∧ 16 * h0 ≤ i ∧ i < 16 * h0 + 16) → gI w' c k i = gI w c k i) (hl : gI w' 57 s h0 = nI l.length) (hr : RW (fun p => gI w' 56 s (16 * h0 + p)) l) : RB s H R (pr S h0 l) w' := by
  obtain ⟨a, b, c, d⟩ := h
  have q55 : ∀ i, gI w' 55 s i = gI w 55 s i := fun i => q _ _ _ (by omega) (by omega)
  refine ⟨pb_cg a q2 (fun c k i h1 h2 => q _ _ _ (by omega) (by omega)) (fun x => rfl) (fun x => rfl), by simp only [q55]; exact b, fun x hx => ?_, fun x hx => ?_⟩
  · obtain ⟨c1, c2, c3, c4⟩ := c x hx
    rw [q 58 s x (by omega) (by omega), q 59 s x (by omega) (by omega)]
    refine ⟨c1, c2, ?_⟩
    by_cases e : x = h0
    · subst e
      rw [sr_pr, if_pos rfl]
      exact ⟨hl, hr⟩
    · rw [sr_pr, if_neg e, q 57 s x (by omega) (by omega)]
      refine ⟨c3, fun p y hp => ?_⟩
      have hp' := c4 p y hp
      have : p < (sr S x).length := (List.getElem?_eq_some_iff.mp hp).1
      have := hl16 x hx
      show gI w' 56 s (16 * x + p) = nI y
      rw [q 56 s (16 * x + p) (by omega) (by omega)]
      exact hp'
  · have e : ∀ c, 60 ≤ c → c ≤ 62 → gI w' c s x = gI w c s x := fun c h1 h2 => q _ _ _ (by omega) (by omega)
    rw [e 60 (by omega) (by omega), e 61 (by omega) (by omega), e 62 (by omega) (by omega)]
    exact d x hx
-- ROWS: an end, a place taken out
theorem rw_app {f f' : Nat → Int32} {l : List Nat} {x : Nat} (h : RW f l) (e : ∀ p, p < l.length → f' p = f p) (e1 : f' l.length = nI x) : RW f' (l ++ [x]) := by
  intro p y hp
  rcases Nat.lt_trichotomy p l.length with q | q | q
  · rw [e p q]
    rw [List.getElem?_append_left q] at hp
    exact h p y hp
  · subst q
    rw [e1]
    rw [List.getElem?_append_right (Nat.le_refl _)] at hp
    simp at hp
    rw [hp]
  · rw [List.getElem?_eq_none (by simp; omega)] at hp
    cases hp
theorem rw_del {f f' : Nat → Int32} {l : List Nat} {j : Nat} (h : RW f l) (hj : j < l.length) (e : ∀ p, p + 1 < l.length → f' p = if j ≤ p then f (p + 1) else f p) : RW f' (l.eraseIdx j) := by
  intro p y hp
  rw [List.getElem?_eraseIdx] at hp
  split at hp
  · rename_i q
    rw [e p (by omega), if_neg (by omega)]
    exact h p y hp
  · rename_i q
    have := (List.getElem?_eq_some_iff.mp hp).1
    rw [e p (by omega), if_pos (by omega)]
    exact h (p + 1) y hp
theorem p_X3_add {z n x : Nat} {w : Mm} (hn : gI w 22 z 3 = nI n) (h : n < 16) : f_X3_add z (nI x) w = some (pI (pI w 23 z n (nI x)) 22 z 3 (nI (n + 1))) := by
  unfold f_X3_add
  repeat (first | (refine brT ?_ ?_; focus ((simp (disch := omega) only [lit_nI, nI_leI, nI_ltI, nI_eq, nI_clamp, nI_add, nI_sub, vB_nI, Nat.add_sub_cancel, Nat.reduceSub, Nat.reduceLT, Nat.reduceLeDiff, Nat.reduceAdd, gI_pI, p2_pI, Nat.reduceEqDiff, false_and, and_false, true_and, and_true, if_false, if_true, and_self, hn] <;> omega); done)) | (refine brF ?_ ?_; focus ((simp (disch := omega) only [lit_nI, nI_leI, nI_ltI, nI_eq, nI_clamp, nI_add, nI_sub, vB_nI, Nat.add_sub_cancel, Nat.reduceSub, Nat.reduceLT, Nat.reduceLeDiff, Nat.reduceAdd, gI_pI, p2_pI, Nat.reduceEqDiff, false_and, and_false, true_and, and_true, if_false, if_true, and_self, hn] <;> omega); done)) | (refine gdT ?_ ?_; focus ((simp (disch := omega) only [lit_nI, nI_leI, nI_ltI, nI_eq, nI_clamp, nI_add, nI_sub, vB_nI, Nat.add_sub_cancel, Nat.reduceSub, Nat.reduceLT, Nat.reduceLeDiff, Nat.reduceAdd, gI_pI, p2_pI, Nat.reduceEqDiff, false_and, and_false, true_and, and_true, if_false, if_true, and_self, hn] <;> omega); done)) | with_reducible refine sqT ?_)
  simp (disch := omega) only [hn, gI_pI, nI_clamp, nI_1, Nat.reduceEqDiff, false_and, if_false]
theorem p_X3_removeAt_L15 {z m : Nat} (hm : m < 16) : ∀ (d u n : Nat) (w : Mm), gI w 22 z 3 = nI (m + 1) → u + d = m → d < n → ∃ w', f_X3_removeAt_L15 z n (nI u) w = some w' ∧ (∀ c k i, ¬ (c = 23 ∧ k = z) → gI w' c k i = gI w c k i) ∧ w'.2 = w.2 ∧ ∀ p, gI w' 23 z p = if u ≤ p ∧ p < m then gI w 23 z (p + 1) else gI w 23 z p
  | 0, u, n + 1, w, hn, hd, hf => by
    refine ⟨w, ?_, fun _ _ _ _ => rfl, rfl, fun p => by rw [if_neg]; omega⟩
    rw [f_X3_removeAt_L15]
    have e : nI (m + 1) - 1 = nI m := nI_pred m
    repeat (first | (refine brT ?_ ?_; focus ((simp (disch := omega) only [lit_nI, nI_leI, nI_ltI, nI_eq, nI_clamp, nI_add, nI_sub, vB_nI, Nat.add_sub_cancel, Nat.reduceSub, Nat.reduceLT, Nat.reduceLeDiff, Nat.reduceAdd, gI_pI, p2_pI, Nat.reduceEqDiff, false_and, and_false, true_and, and_true, if_false, if_true, and_self, hn, e] <;> omega); done)) | (refine brF ?_ ?_; focus ((simp (disch := omega) only [lit_nI, nI_leI, nI_ltI, nI_eq, nI_clamp, nI_add, nI_sub, vB_nI, Nat.add_sub_cancel, Nat.reduceSub, Nat.reduceLT, Nat.reduceLeDiff, Nat.reduceAdd, gI_pI, p2_pI, Nat.reduceEqDiff, false_and, and_false, true_and, and_true, if_false, if_true, and_self, hn, e] <;> omega); done)) | (refine gdT ?_ ?_; focus ((simp (disch := omega) only [lit_nI, nI_leI, nI_ltI, nI_eq, nI_clamp, nI_add, nI_sub, vB_nI, Nat.add_sub_cancel, Nat.reduceSub, Nat.reduceLT, Nat.reduceLeDiff, Nat.reduceAdd, gI_pI, p2_pI, Nat.reduceEqDiff, false_and, and_false, true_and, and_true, if_false, if_true, and_self, hn, e] <;> omega); done)) | with_reducible refine sqT ?_)
    rfl
  | d + 1, u, n + 1, w, hn, hd, hf => by
    have e : nI (m + 1) - 1 = nI m := nI_pred m
    have e2 : (16 : Int32) - 1 = nI 15 := by decide
    obtain ⟨w', h1, h2, h3, h4⟩ := p_X3_removeAt_L15 (z := z) hm d (u + 1) n (pI w 23 z u (gI w 23 z (u + 1))) (by rw [gI_pI, if_neg (by omega)]; exact hn) (by omega) (by omega)
    refine ⟨w', ?_, fun c k i q => ?_, h3, fun p => ?_⟩
    · rw [f_X3_removeAt_L15]
      repeat (first | (refine brT ?_ ?_; focus ((simp (disch := omega) only [lit_nI, nI_leI, nI_ltI, nI_eq, nI_clamp, nI_add, nI_sub, vB_nI, Nat.add_sub_cancel, Nat.reduceSub, Nat.reduceLT, Nat.reduceLeDiff, Nat.reduceAdd, gI_pI, p2_pI, Nat.reduceEqDiff, false_and, and_false, true_and, and_true, if_false, if_true, and_self, hn, e, e2] <;> omega); done)) | (refine brF ?_ ?_; focus ((simp (disch := omega) only [lit_nI, nI_leI, nI_ltI, nI_eq, nI_clamp, nI_add, nI_sub, vB_nI, Nat.add_sub_cancel, Nat.reduceSub, Nat.reduceLT, Nat.reduceLeDiff, Nat.reduceAdd, gI_pI, p2_pI, Nat.reduceEqDiff, false_and, and_false, true_and, and_true, if_false, if_true, and_self, hn, e, e2] <;> omega); done)) | (refine gdT ?_ ?_; focus ((simp (disch := omega) only [lit_nI, nI_leI, nI_ltI, nI_eq, nI_clamp, nI_add, nI_sub, vB_nI, Nat.add_sub_cancel, Nat.reduceSub, Nat.reduceLT, Nat.reduceLeDiff, Nat.reduceAdd, gI_pI, p2_pI, Nat.reduceEqDiff, false_and, and_false, true_and, and_true, if_false, if_true, and_self, hn, e, e2] <;> omega); done)) | with_reducible refine sqT ?_)
      rw [nI_1, nI_clamp (by omega), nI_clamp (by omega)]
      exact h1
    · rw [h2 c k i q, gI_pI, if_neg (by omega)]
    · rw [h4 p, gI_pI, gI_pI]
      by_cases q : p = u
      · subst q
        rw [if_neg (by omega), if_pos (by simp), if_pos (by omega)]
      · by_cases q2 : u + 1 ≤ p ∧ p < m
        · rw [if_pos q2, if_neg (by omega), if_pos (by omega)]
        · rw [if_neg q2, if_neg (by omega), if_neg (by omega)]
theorem p_X3_removeAt {z j : Nat} {l : List Nat} {w : Mm} (hn : gI w 22 z 3 = nI l.length) (hw : RW (fun p => gI w 23 z p) l) (hl : l.length ≤ 16) (hj : j < l.length) : ∃ w', f_X3_removeAt z (nI j) w = some w' ∧ (∀ c k i, ¬ (c = 22 ∧ k = z ∧ i = 3) → ¬ (c = 23 ∧ k = z) → gI w' c k i = gI w c k i) ∧ w'.2 = w.2 ∧ gI w' 22 z 3 = nI (l.eraseIdx j).length ∧ RW (fun p => gI w' 23 z p) (l.eraseIdx j) := by
  have hm : l.length = (l.length - 1) + 1 := by omega
  rw [hm] at hn
  obtain ⟨w', h1, h2, h3, h4⟩ := p_X3_removeAt_L15 (z := z) (m := l.length - 1) (by omega) (l.length - 1 - j) j LF w hn (by omega) (by unfold LF; omega)
  have e : gI w' 22 z 3 - 1 = nI (l.length - 1) := by rw [h2 _ _ _ (by omega), hn]; exact nI_pred _
  refine ⟨pI w' 22 z 3 (nI (l.length - 1)), ?_, fun c k i q q2 => ?_, h3, ?_, ?_⟩
  · unfold f_X3_removeAt
    repeat (first | (refine brT ?_ ?_; focus ((simp (disch := omega) only [lit_nI, nI_leI, nI_ltI, nI_eq, nI_clamp, nI_add, nI_sub, vB_nI, Nat.add_sub_cancel, Nat.reduceSub, Nat.reduceLT, Nat.reduceLeDiff, Nat.reduceAdd, gI_pI, p2_pI, Nat.reduceEqDiff, false_and, and_false, true_and, and_true, if_false, if_true, and_self, hn] <;> omega); done)) | (refine brF ?_ ?_; focus ((simp (disch := omega) only [lit_nI, nI_leI, nI_ltI, nI_eq, nI_clamp, nI_add, nI_sub, vB_nI, Nat.add_sub_cancel, Nat.reduceSub, Nat.reduceLT, Nat.reduceLeDiff, Nat.reduceAdd, gI_pI, p2_pI, Nat.reduceEqDiff, false_and, and_false, true_and, and_true, if_false, if_true, and_self, hn] <;> omega); done)) | (refine gdT ?_ ?_; focus ((simp (disch := omega) only [lit_nI, nI_leI, nI_ltI, nI_eq, nI_clamp, nI_add, nI_sub, vB_nI, Nat.add_sub_cancel, Nat.reduceSub, Nat.reduceLT, Nat.reduceLeDiff, Nat.reduceAdd, gI_pI, p2_pI, Nat.reduceEqDiff, false_and, and_false, true_and, and_true, if_false, if_true, and_self, hn] <;> omega); done)) | with_reducible refine sqT ?_)
    refine bd0T h1 ?_
    repeat (first | (refine brT ?_ ?_; focus ((simp (disch := omega) only [lit_nI, nI_leI, nI_ltI, nI_eq, nI_clamp, nI_add, nI_sub, vB_nI, Nat.add_sub_cancel, Nat.reduceSub, Nat.reduceLT, Nat.reduceLeDiff, Nat.reduceAdd, gI_pI, p2_pI, Nat.reduceEqDiff, false_and, and_false, true_and, and_true, if_false, if_true, and_self, hn] <;> omega); done)) | (refine brF ?_ ?_; focus ((simp (disch := omega) only [lit_nI, nI_leI, nI_ltI, nI_eq, nI_clamp, nI_add, nI_sub, vB_nI, Nat.add_sub_cancel, Nat.reduceSub, Nat.reduceLT, Nat.reduceLeDiff, Nat.reduceAdd, gI_pI, p2_pI, Nat.reduceEqDiff, false_and, and_false, true_and, and_true, if_false, if_true, and_self, hn] <;> omega); done)) | (refine gdT ?_ ?_; focus ((simp (disch := omega) only [lit_nI, nI_leI, nI_ltI, nI_eq, nI_clamp, nI_add, nI_sub, vB_nI, Nat.add_sub_cancel, Nat.reduceSub, Nat.reduceLT, Nat.reduceLeDiff, Nat.reduceAdd, gI_pI, p2_pI, Nat.reduceEqDiff, false_and, and_false, true_and, and_true, if_false, if_true, and_self, hn] <;> omega); done)) | with_reducible refine sqT ?_)
    rw [e]
  · rw [gI_pI, if_neg q, h2 _ _ _ q2]
  · rw [gI_pI, if_pos ⟨rfl, rfl, rfl⟩, List.length_eraseIdx_of_lt hj]
  · refine rw_del hw hj fun p hp => ?_
    rw [gI_pI, if_neg (by omega), h4]
    by_cases q : j ≤ p
    · rw [if_pos (by omega), if_pos q]
    · rw [if_neg (by omega), if_neg q]
