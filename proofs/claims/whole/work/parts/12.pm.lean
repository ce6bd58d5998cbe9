-- THE PURE PART: telling; a copy of the garden
theorem ub32 {s : Nat} {w w' : Mm} (u : UB s w w') : gI w' 32 0 0 = gI w 32 0 0 := u.1 _ _ _ (by unfold ownB; omega)
theorem lcase (a : Int32) : (1 ≤ a.toInt ∧ a.toInt ≤ 99) ∨ (a < 1 ∨ 99 < a) := by
  have e1 := i_1
  have e2 : (99 : Int32).toInt = 99 := by decide
  rw [Int32.lt_iff_toInt_lt, Int32.lt_iff_toInt_lt, e1, e2]
  omega
theorem l_ge {a : Int32} (h : 1 ≤ a.toInt) : 1 ≤ a := by rw [Int32.le_iff_toInt_le, i_1]; exact h
theorem l_le {a : Int32} (h : a.toInt ≤ 99) : a ≤ 99 := by rw [Int32.le_iff_toInt_le, show (99 : Int32).toInt = 99 by decide]; exact h
theorem a_nL {a : Int32} {w : Mm} (h : 1 ≤ a.toInt ∧ a.toInt ≤ 99) : f_X12_needLoudness a w = some (.inr (), w) := by
  unfold f_X12_needLoudness
  exact brF (Int32.not_lt.mpr (l_ge h.1)) (brT (l_le h.2) rfl)
theorem a_nLi {a : Int32} {w : Mm} (h : a < 1 ∨ 99 < a) : f_X12_needLoudness a w = some (.inl 2, w) := by
  unfold f_X12_needLoudness
  by_cases q : a < 1
  · exact brT q rfl
  · exact brF q (brF (Int32.not_le.mpr (h.resolve_left q)) rfl)
theorem b_news {k H R h : Nat} {S : Gs} {w : Mm} {l : Int32} (hB : RB k H R S w) (hH : H ≤ 8) (hh : h < H) (hl : 1 ≤ l.toInt ∧ l.toInt ≤ 99) : f_X15_isNews (nI h) l w = some (1, pI (pI w 32 0 0 0) 32 0 0 0) := by
  unfold f_X15_isNews
  refine bd1T (b_isH hB hH hh) (bd1T b_kn1 (brF (by decide) (bd1T (b_isIn (l_ge hl.1) (l_le hl.2)) (brF (by decide) (sqT (brT ?_ rfl))))))
  simp [gI_pI]
theorem b_news1 {k H R : Nat} {S : Gs} {w : Mm} {a l : Int32} (hB : RB k H R S w) (hH : H ≤ 8) (hi : a < 0 ∨ nI H ≤ a) : f_X15_isNews a l w = some (0, pI w 32 0 0 1) := by
  unfold f_X15_isNews
  exact bd1T (b_isHi hB hH hi) (bd1T b_kn0 (brT rfl rfl))
theorem b_news2 {k H R h : Nat} {S : Gs} {w : Mm} {l : Int32} (hB : RB k H R S w) (hH : H ≤ 8) (hh : h < H) (hl : l < 1 ∨ 99 < l) : f_X15_isNews (nI h) l w = some (0, pI (pI w 32 0 0 0) 32 0 0 2) := by
  unfold f_X15_isNews
  refine bd1T (b_isH hB hH hh) (bd1T b_kn1 (brF (by decide) (bd1T (b_isIn0 hl) (brT rfl (sqT (brF ?_ rfl))))))
  simp [gI_pI]
theorem z_tell {P : Nat → Nat → Mm → Prop} {b t : Nat} {w : Mm} {a l : Int32} (hP : Stb P) (hI : Iv P b t w) (ht : t + 1 ≤ 512) : CZ (f_L_tell a l w) (f_X15_tell a l) (Iv P b (t + 1)) := by
  obtain ⟨H, R, S, hA, hB, hO, ht0, hb, hp⟩ := id hI
  have hR := hO.1.1.2.1
  have hH := hO.1.1.1
  rcases hcase a (H := H) hH with ⟨y, hy, rfl⟩ | hi
  · rcases lcase l with hl | hl
    · obtain ⟨w1, k1, a1, a2, a3, a4, a5⟩ := p_X6_carry (by omega) (by omega) hO hA hy hl
      refine cz_mv (w1 := w1) (S' := sNews S y l) (v := nI (nT (nEnd S y l))) hP ht hb hp ?_ (eqr_UA a5) a2 (ok_mono (ok_news a4) (by omega)) fun z hz => ?_
      · unfold f_L_tell f_X12_tell
        exact bwT (bxT (a_hN hA hH hy) (bxT (a_nL hl) (bd1T a1 rfl))) (gdT rfl rfl)
      · have hB1 : RB 0 H R S (pZ (pL w1 63 0 0 (nI (nT (nEnd S y l))).toInt64) z) := (rb_UA a5 hB : RB 0 H R S w1)
        have hB2 := rb_o (c := 32) (k := 0) (i := 0) (v := 0) (rb_o (c := 32) (k := 0) (i := 0) (v := 0) hB1 (by omega)) (by omega)
        obtain ⟨w2, k2, b1, b2, b3, b4⟩ := p_X14_news (by omega) hO hB2 hy hl
        refine ⟨w2, ?_, ?_, b2, fun c k i q => ?_, eqr_tr (eqr_tr (eqr_pI (by omega)) (eqr_pI (by omega))) (eqr_UB b4), b4.2⟩
        · unfold f_X15_tell
          exact bd1T (b_news hB1 hH hy hl) (brF (by decide) (bd1T b1 rfl))
        · rw [ub32 b4]; simp [gI_pI]
        · rw [b4.1 _ _ _ (by unfold ownB; omega), gI_pI, if_neg (by omega), gI_pI, if_neg (by omega)]
    · refine cz_thr hP hI ht (c := 2) (by decide) ?_ fun z hz => ?_
      · unfold f_L_tell f_X12_tell
        exact bwE (bxT (a_hN hA hH hy) (bxE (a_nLi hl) rfl)) (brF (by decide) (brT rfl rfl))
      · refine ⟨0, _, ?_, by simp [gI_pI], Or.inr ⟨0, rfl⟩⟩
        unfold f_X15_tell
        exact bd1T (b_news2 (show RB 0 H R S (pZ w z) from hB) hH hy hl) (brT rfl rfl)
  · refine cz_thr hP hI ht (c := 1) (by decide) ?_ fun z hz => ?_
    · unfold f_L_tell f_X12_tell
      exact bwE (bxE (a_hNi hA hi) rfl) (brT rfl rfl)
    · refine ⟨0, _, ?_, by simp [gI_pI], Or.inl rfl⟩
      unfold f_X15_tell
      exact bd1T (b_news1 (show RB 0 H R S (pZ w z) from hB) hH hi) (brT rfl rfl)
-- a copy
theorem p_X3_copy_L34 {z0 z1 : Nat} (hz : z0 ≠ z1) : ∀ (d i n : Nat) (w : Mm), i + d = 16 → d < n → ∃ w', f_X3_copy_L34 z0 z1 n (nI i) w = some w' ∧ w'.2 = w.2 ∧ (∀ c k j, ¬ (c = 23 ∧ k = z0) → gI w' c k j = gI w c k j) ∧ (∀ p, p < 16 → gI w' 23 z0 p = if i ≤ p then gI w 23 z1 p else gI w 23 z0 p)
  | 0, i, n + 1, w, hi, hf => by
    have hi : i = 16 := by omega
    subst hi
    refine ⟨w, ?_, rfl, fun _ _ _ _ => rfl, fun p hp => by rw [if_neg]; omega⟩
    rw [f_X3_copy_L34]
    exact brT (by decide) rfl
  | d + 1, i, n + 1, w, hi, hf => by
    obtain ⟨w', h1, h2, h3, h4⟩ := p_X3_copy_L34 hz d (i + 1) n (pI w 23 z0 i (gI w 23 z1 i)) (by omega) (by omega)
    refine ⟨w', ?_, h2, fun c k j q => ?_, fun p hp => ?_⟩
    · rw [f_X3_copy_L34]
      refine brF (by (simp (disch := omega) only [lit_nI, nI_leI, nI_ltI, nI_eq, nI_clamp, nI_add, nI_sub, vB_nI, Nat.add_sub_cancel, Nat.reduceSub, Nat.reduceLT, Nat.reduceLeDiff, Nat.reduceAdd, gI_pI, p2_pI, Nat.reduceEqDiff, false_and, and_false, true_and, and_true, if_false, if_true, and_self] <;> omega)) (brF (by (simp (disch := omega) only [lit_nI, nI_leI, nI_ltI, nI_eq, nI_clamp, nI_add, nI_sub, vB_nI, Nat.add_sub_cancel, Nat.reduceSub, Nat.reduceLT, Nat.reduceLeDiff, Nat.reduceAdd, gI_pI, p2_pI, Nat.reduceEqDiff, false_and, and_false, true_and, and_true, if_false, if_true, and_self] <;> omega)) (gdT ((vB_nI (by omega)).mpr (by omega)) (gdT ((vB_nI (by omega)).mpr (by omega)) (sqT (sqT ?_)))))
      rw [nI_clamp (by omega), nI_1]
      exact h1
    · rw [h3 c k j q, gI_pI, if_neg (by omega)]
    · rw [h4 p hp]
      by_cases e : p = i
      · subst e; rw [if_neg (by omega), if_pos (by omega)]; simp [gI_pI]
      · by_cases e2 : i + 1 ≤ p
        · rw [if_pos e2, if_pos (by omega), gI_pI, if_neg (by omega)]
        · rw [if_neg e2, if_neg (by omega), gI_pI, if_neg (by omega)]
theorem p_X3_copy {z0 z1 : Nat} {w : Mm} (hz : z0 ≠ z1) : ∃ w', f_X3_copy z0 z1 w = some w' ∧ w'.2 = w.2 ∧ (∀ c k j, ¬ ((c = 22 ∨ c = 23) ∧ k = z0) → gI w' c k j = gI w c k j) ∧ (∀ i, i < 4 → gI w' 22 z0 i = gI w 22 z1 i) ∧ (∀ p, p < 16 → gI w' 23 z0 p = gI w 23 z1 p) := by
  obtain ⟨w', h1, h2, h3, h4⟩ := p_X3_copy_L34 (z0 := z0) (z1 := z1) hz 16 0 LF (pI (pI (pI (pI w 22 z0 0 (gI w 22 z1 0)) 22 z0 1 (gI w 22 z1 1)) 22 z0 2 (gI w 22 z1 2)) 22 z0 3 (gI w 22 z1 3)) rfl (by unfold LF; omega)
  refine ⟨w', ?_, h2, fun c k j q => ?_, fun i hi => ?_, fun p hp => ?_⟩
  · unfold f_X3_copy
    refine sqT ?_
    have e1 : gI (pI w 22 z0 0 (gI w 22 z1 0)) 22 z1 1 = gI w 22 z1 1 := by simp [gI_pI]
    rw [e1]
    refine sqT ?_
    have e2 : gI (pI (pI w 22 z0 0 (gI w 22 z1 0)) 22 z0 1 (gI w 22 z1 1)) 22 z1 2 = gI w 22 z1 2 := by simp [gI_pI]
    rw [e2]
    refine sqT ?_
    have e3 : gI (pI (pI (pI w 22 z0 0 (gI w 22 z1 0)) 22 z0 1 (gI w 22 z1 1)) 22 z0 2 (gI w 22 z1 2)) 22 z1 3 = gI w 22 z1 3 := by simp [gI_pI]
    rw [e3]
    exact sqT (bd0T h1 rfl)
  · rw [h3 c k j (by omega)]
    simp only [gI_pI]
    rw [if_neg (by omega), if_neg (by omega), if_neg (by omega), if_neg (by omega)]
  · rw [h3 22 z0 i (by omega)]
    have hi : i = 0 ∨ i = 1 ∨ i = 2 ∨ i = 3 := by omega
    rcases hi with rfl | rfl | rfl | rfl <;> simp [gI_pI]
  · rw [h4 p hp, if_pos (Nat.zero_le _)]
    simp [gI_pI]
theorem p_X9_copy {z0 z1 : Nat} {w : Mm} (hz : z0 ≠ z1) : ∃ w', f_X9_copy z0 z1 w = some w' ∧ w'.2 = w.2 ∧ (∀ c k j, ¬ (c = 24 ∧ k = z0) → gI w' c k j = gI w c k j) ∧ (∀ i, i < 4 → gI w' 24 z0 i = gI w 24 z1 i) := by
  refine ⟨pI (pI (pI (pI w 24 z0 0 (gI w 24 z1 0)) 24 z0 1 (gI w 24 z1 1)) 24 z0 2 (gI w 24 z1 2)) 24 z0 3 (gI w 24 z1 3), ?_, rfl, fun c k j q => ?_, fun i hi => ?_⟩
  · have hz' : ¬ z1 = z0 := fun e => hz e.symm
    unfold f_X9_copy
    refine sqT ?_
    have e1 : gI (pI w 24 z0 0 (gI w 24 z1 0)) 24 z1 1 = gI w 24 z1 1 := by simp [gI_pI]
    rw [e1]
    refine sqT ?_
    have e2 : gI (pI (pI w 24 z0 0 (gI w 24 z1 0)) 24 z0 1 (gI w 24 z1 1)) 24 z1 2 = gI w 24 z1 2 := by simp [gI_pI]
    rw [e2]
    refine sqT ?_
    have e3 : gI (pI (pI (pI w 24 z0 0 (gI w 24 z1 0)) 24 z0 1 (gI w 24 z1 1)) 24 z0 2 (gI w 24 z1 2)) 24 z1 3 = gI w 24 z1 3 := by simp [gI_pI]
    rw [e3]
    rfl
  · simp only [gI_pI]
    rw [if_neg (by omega), if_neg (by omega), if_neg (by omega), if_neg (by omega)]
  · have hi : i = 0 ∨ i = 1 ∨ i = 2 ∨ i = 3 := by omega
    rcases hi with rfl | rfl | rfl | rfl <;> simp [gI_pI]
theorem p_X1_copy_L18 : ∀ (d i n : Nat) (w : Mm), i + d = 8 → d < n → ∃ w', f_X1_copy_L18 1 0 n (nI i) w = some w' ∧ w'.2 = w.2 ∧ (∀ c k j, ¬ ((c = 22 ∨ c = 23) ∧ 8 + i ≤ k ∧ k < 16) → gI w' c k j = gI w c k j) ∧ (∀ h, i ≤ h → h < 8 → (∀ j, j < 4 → gI w' 22 (8 * 1 + h) j = gI w 22 (8 * 0 + h) j) ∧ (∀ p, p < 16 → gI w' 23 (8 * 1 + h) p = gI w 23 (8 * 0 + h) p))
  | 0, i, n + 1, w, hi, hf => by
    have hi : i = 8 := by omega
    subst hi
    refine ⟨w, ?_, rfl, fun _ _ _ _ => rfl, fun h h1 h2 => by omega⟩
    rw [f_X1_copy_L18]
    exact brT (by decide) rfl
  | d + 1, i, n + 1, w, hi, hf => by
    obtain ⟨u, u1, u2, u3, u4, u5⟩ := p_X3_copy (z0 := 8 * 1 + i) (z1 := 8 * 0 + i) (w := w) (by omega)
    obtain ⟨w', h1, h2, h3, h4⟩ := p_X1_copy_L18 d (i + 1) n u (by omega) (by omega)
    refine ⟨w', ?_, h2.trans u2, fun c k j q => ?_, fun h h5 h6 => ?_⟩
    · rw [f_X1_copy_L18]
      refine brF (by (simp (disch := omega) only [lit_nI, nI_leI, nI_ltI, nI_eq, nI_clamp, nI_add, nI_sub, vB_nI, Nat.add_sub_cancel, Nat.reduceSub, Nat.reduceLT, Nat.reduceLeDiff, Nat.reduceAdd, gI_pI, p2_pI, Nat.reduceEqDiff, false_and, and_false, true_and, and_true, if_false, if_true, and_self] <;> omega)) (brF (by (simp (disch := omega) only [lit_nI, nI_leI, nI_ltI, nI_eq, nI_clamp, nI_add, nI_sub, vB_nI, Nat.add_sub_cancel, Nat.reduceSub, Nat.reduceLT, Nat.reduceLeDiff, Nat.reduceAdd, gI_pI, p2_pI, Nat.reduceEqDiff, false_and, and_false, true_and, and_true, if_false, if_true, and_self] <;> omega)) (gdT ((vB_nI (by omega)).mpr (by omega)) (gdT ((vB_nI (by omega)).mpr (by omega)) ?_)))
      rw [nI_clamp (by omega)]
      refine bd0T u1 (sqT ?_)
      rw [nI_1]
      exact h1
    · rw [h3 c k j (by omega), u3 c k j (by omega)]
    · by_cases e : h = i
      · subst e
        refine ⟨fun j hj => ?_, fun p hp => ?_⟩
        · rw [h3 _ _ _ (by omega), u4 j hj]
        · rw [h3 _ _ _ (by omega), u5 p hp]
      · obtain ⟨q1, q2⟩ := h4 h (by omega) h6
        refine ⟨fun j hj => ?_, fun p hp => ?_⟩
        · rw [q1 j hj, u3 _ _ _ (by omega)]
        · rw [q2 p hp, u3 _ _ _ (by omega)]
theorem p_X1_copy_L59 : ∀ (d i n : Nat) (w : Mm), i + d = 8 → d < n → ∃ w', f_X1_copy_L59 1 0 n (nI i) w = some w' ∧ w'.2 = w.2 ∧ (∀ c k j, ¬ (c = 24 ∧ 8 + i ≤ k ∧ k < 16) → gI w' c k j = gI w c k j) ∧ (∀ h, i ≤ h → h < 8 → (∀ j, j < 4 → gI w' 24 (8 * 1 + h) j = gI w 24 (8 * 0 + h) j))
  | 0, i, n + 1, w, hi, hf => by
    have hi : i = 8 := by omega
    subst hi
    refine ⟨w, ?_, rfl, fun _ _ _ _ => rfl, fun h h1 h2 => by omega⟩
    rw [f_X1_copy_L59]
    exact brT (by decide) rfl
  | d + 1, i, n + 1, w, hi, hf => by
    obtain ⟨u, u1, u2, u3, u4⟩ := p_X9_copy (z0 := 8 * 1 + i) (z1 := 8 * 0 + i) (w := w) (by omega)
    obtain ⟨w', h1, h2, h3, h4⟩ := p_X1_copy_L59 d (i + 1) n u (by omega) (by omega)
    refine ⟨w', ?_, h2.trans u2, fun c k j q => ?_, fun h h5 h6 => ?_⟩
    · rw [f_X1_copy_L59]
      refine brF (by (simp (disch := omega) only [lit_nI, nI_leI, nI_ltI, nI_eq, nI_clamp, nI_add, nI_sub, vB_nI, Nat.add_sub_cancel, Nat.reduceSub, Nat.reduceLT, Nat.reduceLeDiff, Nat.reduceAdd, gI_pI, p2_pI, Nat.reduceEqDiff, false_and, and_false, true_and, and_true, if_false, if_true, and_self] <;> omega)) (brF (by (simp (disch := omega) only [lit_nI, nI_leI, nI_ltI, nI_eq, nI_clamp, nI_add, nI_sub, vB_nI, Nat.add_sub_cancel, Nat.reduceSub, Nat.reduceLT, Nat.reduceLeDiff, Nat.reduceAdd, gI_pI, p2_pI, Nat.reduceEqDiff, false_and, and_false, true_and, and_true, if_false, if_true, and_self] <;> omega)) (gdT ((vB_nI (by omega)).mpr (by omega)) (gdT ((vB_nI (by omega)).mpr (by omega)) ?_)))
      rw [nI_clamp (by omega)]
      refine bd0T u1 (sqT ?_)
      rw [nI_1]
      exact h1
    · rw [h3 c k j (by omega), u3 c k j (by omega)]
    · by_cases e : h = i
      · subst e
        intro j hj
        rw [h3 _ _ _ (by omega), u4 j hj]
      · intro j hj
        rw [h4 h (by omega) h6 j hj, u3 _ _ _ (by omega)]
theorem p_X1_copy {H R : Nat} {S : Gs} {w : Mm} (hS : SH H R S) (hA : RA 0 H R S w) : ∃ w', f_X1_copy 1 0 w = some w' ∧ RA 1 H R S w' ∧ UA 1 w w' := by
  have hH := hS.1
  have hR := hS.2.1
  obtain ⟨⟨x1, x2⟩, ⟨b1, b2, b3, b4, b5⟩, c, d⟩ := hA
  obtain ⟨u, u1, u2, u3, u4⟩ := p_X1_copy_L18 8 0 LF (pI (pI w 19 1 2 (nI H)) 19 1 3 (nI R)) rfl (by unfold LF; omega)
  obtain ⟨v, v1, v2, v3, v4⟩ := p_X1_copy_L59 8 0 LF u rfl (by unfold LF; omega)
  have g0 : ∀ i, gI v 19 0 i = gI w 19 0 i := fun i => by rw [v3 _ _ _ (by omega), u3 _ _ _ (by omega)]; simp [gI_pI]
  have g1 : ∀ i, gI v 19 1 i = gI (pI (pI w 19 1 2 (nI H)) 19 1 3 (nI R)) 19 1 i := fun i => by rw [v3 _ _ _ (by omega), u3 _ _ _ (by omega)]
  refine ⟨pI (pI (pI (pI (pI v 19 1 4 (sg S 0 0)) 19 1 5 (sg S 0 1)) 19 1 6 (sg S 0 2)) 19 1 7 (sg S 0 3)) 19 1 8 (sg S 0 4), ?_, ⟨⟨?_, ?_⟩, ?_, fun h hh => ?_, fun r hr => ?_⟩, ⟨fun c k i q => ?_, ?_⟩⟩
  · unfold f_X1_copy
    rw [x1]
    refine sqT ?_
    have e1 : gI (pI w 19 1 2 (nI H)) 19 0 3 = nI R := by simp [gI_pI, x2]
    rw [e1]
    refine sqT (bd0T u1 (bd0T v1 ?_))
    rw [g0, b1]
    refine sqT ?_
    have e2 : gI (pI v 19 1 4 (sg S 0 0)) 19 0 5 = sg S 0 1 := by simp [gI_pI, g0, b2]
    rw [e2]
    refine sqT ?_
    have e3 : gI (pI (pI v 19 1 4 (sg S 0 0)) 19 1 5 (sg S 0 1)) 19 0 6 = sg S 0 2 := by simp [gI_pI, g0, b3]
    rw [e3]
    refine sqT ?_
    have e4 : gI (pI (pI (pI v 19 1 4 (sg S 0 0)) 19 1 5 (sg S 0 1)) 19 1 6 (sg S 0 2)) 19 0 7 = sg S 0 3 := by simp [gI_pI, g0, b4]
    rw [e4]
    refine sqT ?_
    have e5 : gI (pI (pI (pI (pI v 19 1 4 (sg S 0 0)) 19 1 5 (sg S 0 1)) 19 1 6 (sg S 0 2)) 19 1 7 (sg S 0 3)) 19 0 8 = sg S 0 4 := by simp [gI_pI, g0, b5]
    rw [e5]
    rfl
  · simp [gI_pI, g1]
  · simp [gI_pI, g1]
  · simp [gI_pI]
  · obtain ⟨q1, q2⟩ := u4 h (Nat.zero_le _) (by omega)
    obtain ⟨c1, c2, c3, c4, c5⟩ := c h hh
    have hlen := sh_len hS hh
    have e : ∀ cc i, (cc = 22 ∨ cc = 23) → gI (pI (pI (pI (pI (pI v 19 1 4 (sg S 0 0)) 19 1 5 (sg S 0 1)) 19 1 6 (sg S 0 2)) 19 1 7 (sg S 0 3)) 19 1 8 (sg S 0 4)) cc (8 * 1 + h) i = gI u cc (8 * 1 + h) i := by
      intro cc i hc
      simp only [gI_pI]
      rw [if_neg (by omega), if_neg (by omega), if_neg (by omega), if_neg (by omega), if_neg (by omega), v3 _ _ _ (by omega)]
    have e' : ∀ cc i, (cc = 22 ∨ cc = 23) → gI (pI (pI w 19 1 2 (nI H)) 19 1 3 (nI R)) cc (8 * 0 + h) i = gI w cc (8 * 0 + h) i := by
      intro cc i hc
      simp only [gI_pI]
      rw [if_neg (by omega), if_neg (by omega)]
    rw [e _ _ (Or.inl rfl), e _ _ (Or.inl rfl), e _ _ (Or.inl rfl), e _ _ (Or.inl rfl), q1 0 (by omega), q1 1 (by omega), q1 2 (by omega), q1 3 (by omega), e' _ _ (Or.inl rfl), e' _ _ (Or.inl rfl), e' _ _ (Or.inl rfl), e' _ _ (Or.inl rfl)]
    refine ⟨c1, c2, c3, c4, fun p x hp => ?_⟩
    have := (List.getElem?_eq_some_iff.mp hp).1
    show gI (pI (pI (pI (pI (pI v 19 1 4 (sg S 0 0)) 19 1 5 (sg S 0 1)) 19 1 6 (sg S 0 2)) 19 1 7 (sg S 0 3)) 19 1 8 (sg S 0 4)) 23 (8 * 1 + h) p = nI x
    rw [e _ _ (Or.inr rfl), q2 p (by omega), e' _ _ (Or.inr rfl)]
    exact c5 p x hp
  · have q1 := v4 r (Nat.zero_le _) (by omega)
    obtain ⟨d1, d2, d3, d4⟩ := d r hr
    have e : ∀ i, i < 4 → gI (pI (pI (pI (pI (pI v 19 1 4 (sg S 0 0)) 19 1 5 (sg S 0 1)) 19 1 6 (sg S 0 2)) 19 1 7 (sg S 0 3)) 19 1 8 (sg S 0 4)) 24 (8 * 1 + r) i = gI w 24 (8 * 0 + r) i := by
      intro i hi
      simp only [gI_pI]
      rw [if_neg (by omega), if_neg (by omega), if_neg (by omega), if_neg (by omega), if_neg (by omega), q1 i hi, u3 _ _ _ (by omega)]
      simp only [gI_pI]
      rw [if_neg (by omega), if_neg (by omega)]
    rw [e _ (by omega), e _ (by omega), e _ (by omega), e _ (by omega)]
    exact ⟨d1, d2, d3, d4⟩
  · simp only [gI_pI]
    unfold ownA at q
    rw [if_neg (by omega), if_neg (by omega), if_neg (by omega), if_neg (by omega), if_neg (by omega), v3 _ _ _ (by omega), u3 _ _ _ (by omega)]
    simp only [gI_pI]
    rw [if_neg (by omega), if_neg (by omega)]
  · show v.2 = w.2
    rw [v2, u2]
    rfl
theorem gI_pCp {w : Mm} {c0 k0 c k n c' k' i' : Nat} : gI (pCp w c0 k0 c k n) c' k' i' = if c' = c ∧ k' = k ∧ i' < n then gI w c0 k0 i' else gI w c' k' i' := rfl
theorem b_sh {b : Nat} {w w' : Mm} {c k : Nat} (hb : BtB b w) (h : k < cnt c) (e : gS w' = gS w) : shS w' b c k (full c) = true := by
  unfold shS
  rw [e, decide_eq_true_eq]
  exact hb c k h
theorem p_X14_ahead {b H R : Nat} {S : Gs} {w : Mm} (hS : SH H R S) (hb : BtB b w) (hB : RB 0 H R S w) : ∃ w', f_X15_ahead b w = some (some 1, w') ∧ RB 1 H R S w' ∧ UB 1 w w' := by
  have hH := hS.1
  have hR := hS.2.1
  have c128 : (128 : Int32).toNatClampNeg = 128 := by decide
  have c8 : (8 : Int32).toNatClampNeg = 8 := by decide
  have h55 : ∀ w', gS w' = gS w → shS w' b 55 0 8 = true := fun w' e => b_sh (c := 55) hb (by decide) e
  have h56 : ∀ w', gS w' = gS w → shS w' b 56 0 0 = true := fun w' e => b_sh (c := 56) hb (by decide) e
  have h57 : ∀ w', gS w' = gS w → shS w' b 57 0 0 = true := fun w' e => b_sh (c := 57) hb (by decide) e
  have h58 : ∀ w', gS w' = gS w → shS w' b 58 0 0 = true := fun w' e => b_sh (c := 58) hb (by decide) e
  have h59 : ∀ w', gS w' = gS w → shS w' b 59 0 0 = true := fun w' e => b_sh (c := 59) hb (by decide) e
  have h60 : ∀ w', gS w' = gS w → shS w' b 60 0 0 = true := fun w' e => b_sh (c := 60) hb (by decide) e
  have h61 : ∀ w', gS w' = gS w → shS w' b 61 0 0 = true := fun w' e => b_sh (c := 61) hb (by decide) e
  have h62 : ∀ w', gS w' = gS w → shS w' b 62 0 0 = true := fun w' e => b_sh (c := 62) hb (by decide) e
  obtain ⟨pb, ⟨b1, b2, b3, b4⟩, c, d⟩ := hB
  refine ⟨(pCp (pCp (pCp (pCp (pCp (pCp (pCp (pI (pI (pI (pI w 55 1 0 (sg S 0 0)) 55 1 1 (sg S 0 1)) 55 1 2 (sg S 0 2)) 55 1 3 (sg S 0 3)) 56 0 56 1 128) 57 0 57 1 8) 58 0 58 1 8) 59 0 59 1 8) 60 0 60 1 8) 61 0 61 1 8) 62 0 62 1 8), ?_, ?_, ?_⟩
  · unfold f_X15_ahead f_X14_become
    rw [c128, c8, b1]
    refine bd1T (x := some 1) (w := (pCp (pCp (pCp (pCp (pCp (pCp (pCp (pI (pI (pI (pI w 55 1 0 (sg S 0 0)) 55 1 1 (sg S 0 1)) 55 1 2 (sg S 0 2)) 55 1 3 (sg S 0 3)) 56 0 56 1 128) 57 0 57 1 8) 58 0 58 1 8) 59 0 59 1 8) 60 0 60 1 8) 61 0 61 1 8) 62 0 62 1 8)) (gdT (h55 _ rfl) (sqT (gdT (h55 _ rfl) ?_))) rfl
    rw [show gI (pI w 55 1 0 (sg S 0 0)) 55 0 1 = sg S 0 1 by simp [gI_pI, b2]]
    refine sqT (gdT (h55 _ rfl) ?_)
    rw [show gI (pI (pI w 55 1 0 (sg S 0 0)) 55 1 1 (sg S 0 1)) 55 0 2 = sg S 0 2 by simp [gI_pI, b3]]
    refine sqT (gdT (h55 _ rfl) ?_)
    rw [show gI (pI (pI (pI w 55 1 0 (sg S 0 0)) 55 1 1 (sg S 0 1)) 55 1 2 (sg S 0 2)) 55 0 3 = sg S 0 3 by simp [gI_pI, b4]]
    exact sqT (gdT (h55 _ rfl) (gdT (h56 _ rfl) (sqT (gdT (h55 _ rfl) (gdT (h57 _ rfl) (sqT (gdT (h55 _ rfl) (gdT (h58 _ rfl) (sqT (gdT (h55 _ rfl) (gdT (h59 _ rfl) (sqT (gdT (h55 _ rfl) (gdT (h60 _ rfl) (sqT (gdT (h55 _ rfl) (gdT (h61 _ rfl) (sqT (gdT (h55 _ rfl) (gdT (h62 _ rfl) (sqT rfl)))))))))))))))))))))
  · refine ⟨pb_cg pb rfl (fun c k i h1 h2 => ?_) (fun _ => rfl) (fun _ => rfl), ?_, fun h hh => ?_, fun r hr => ?_⟩
    · simp only [gI_pCp, gI_pI]
      rw [if_neg (by omega), if_neg (by omega), if_neg (by omega), if_neg (by omega), if_neg (by omega), if_neg (by omega), if_neg (by omega), if_neg (by omega), if_neg (by omega), if_neg (by omega), if_neg (by omega)]
    · simp [gI_pCp, gI_pI]
    · obtain ⟨c1, c2, c3, c4⟩ := c h hh
      have h8 : h < 8 := by omega
      refine ⟨by simp [gI_pCp, gI_pI, c1, h8], by simp [gI_pCp, gI_pI, c2, h8], by simp [gI_pCp, gI_pI, c3, h8], fun p x hp => ?_⟩
      have h1 := (List.getElem?_eq_some_iff.mp hp).1
      have h2 := sh_len hS hh
      have h3 : 16 * h + p < 128 := by omega
      have := c4 p x hp
      simpa [gI_pCp, gI_pI, h3] using this
    · obtain ⟨d1, d2, d3⟩ := d r hr
      have h8 : r < 8 := by omega
      exact ⟨by simp [gI_pCp, gI_pI, d1, h8], by simp [gI_pCp, gI_pI, d2, h8], by simp [gI_pCp, gI_pI, d3, h8]⟩
  · refine ⟨fun c k i q => ?_, rfl⟩
    unfold ownB at q
    simp only [gI_pCp, gI_pI]
    rw [if_neg (by omega), if_neg (by omega), if_neg (by omega), if_neg (by omega), if_neg (by omega), if_neg (by omega), if_neg (by omega), if_neg (by omega), if_neg (by omega), if_neg (by omega), if_neg (by omega)]
