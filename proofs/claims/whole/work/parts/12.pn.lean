-- THE PURE PART: what would be heard
theorem nf_out {B : Int} {H R : Nat} (hB : B + 784 < 2147483648) : ∀ (n k : Nat) (N : Ns), NI B H R k N → (∀ h, H ≤ h → nF N h = 0) → ∀ h, H ≤ h → nF (nRun n N) h = 0
  | 0, k, N, q, o => o
  | n + 1, k, (S, F, Bk, [], T), q, o => nf_out hB n k _ q o
  | n + 1, k, (S, F, Bk, (m, x, l) :: t, T), q, o => by
    by_cases hx : x < 8
    · obtain ⟨q1, q2, q3⟩ := ni_popH q hx
      have er : nRun (n + 1) (S, F, Bk, (m, x, l) :: t, T) = nRun n (nH x l (S, F, Bk, t, T)) := by
        show nRun n (nS (S, F, Bk, (m, x, l) :: t, T)) = _
        unfold nS nQ
        simp only [if_pos hx]
        rfl
      rw [er]
      refine nf_out hB n (k + 1) _ (ni_h q1 q2 q3) fun h hh => ?_
      unfold nH
      split
      · show (if h = x then l else F h) = 0
        rw [if_neg (by omega)]; exact o h hh
      · exact o h hh
    · obtain ⟨q1, q2, q3, q4, q5⟩ := ni_popR hB q hx
      have er : nRun (n + 1) (S, F, Bk, (m, x, l) :: t, T) = nRun n (sR S (x - 8) m l, F, Bk, t, T) := by
        show nRun n (nS (S, F, Bk, (m, x, l) :: t, T)) = _
        unfold nS nQ
        simp only [if_neg hx]
        rfl
      rw [er]
      exact nf_out hB n (k + 1) _ q1 o
theorem nf_end {B : Int} {H R h : Nat} {S : Gs} {l : Int32} (hB : B + 784 < 2147483648) (hO : OK B H R S) (hh : h < H) (hl : 1 ≤ l.toInt ∧ l.toInt ≤ 99) : ∀ y, H ≤ y → nF (nEnd S h l) y = 0 := by
  refine nf_out hB 128 0 _ (ni_h (ni_ini hO) hh hl) fun y hy => ?_
  unfold nH
  split
  · show (if y = h then l else 0) = 0
    rw [if_neg (by omega)]
  · rfl
theorem p_X12_try {B : Int} {H R h : Nat} {l : Int32} {S : Gs} {w : Mm} (hB : B + 784 < 2147483648) (hO : OK B H R S) (hA : RA 0 H R S w) (hh : h < H) (hl : 1 ≤ l.toInt ∧ l.toInt ≤ 99) :
    ∃ w1 k, f_X12_tryTelling (nI h) l w = some w1 ∧ RA 1 H R (sNews S h l) w1 ∧ QA k (nEnd S h l) w1 ∧ NI B H R k (nEnd S h l) ∧ UA 1 w w1 ∧ RA 0 H R S w1 := by
  obtain ⟨u, a1, a2, a3⟩ := p_X1_copy hO.1.1 hA
  obtain ⟨w1, k, b1, b2, b3, b4, b5⟩ := p_X6_carry (g := 1) (by omega) hB hO a2 hh hl
  refine ⟨w1, k, ?_, b2, b3, b4, UA_tr a3 b5, ra_UA (UA_tr a3 b5) hA hO.1.1.1 hO.1.1.2.1 (by omega)⟩
  unfold f_X12_tryTelling
  exact bd0T a1 (bd1T b1 rfl)
theorem p_X15_try {B : Int} {b H R h : Nat} {l : Int32} {S : Gs} {w : Mm} (hB : B + 784 < 2147483648) (hO : OK B H R S) (hb : BtB b w) (hA : RB 0 H R S w) (hh : h < H) (hl : 1 ≤ l.toInt ∧ l.toInt ≤ 99) :
    ∃ w1 w2 k, f_X15_ahead b w = some (some 1, w1) ∧ f_X14_news 1 (nI h) l w1 = some (nI (nT (nEnd S h l)), w2) ∧ RB 1 H R (sNews S h l) w2 ∧ QB k h (nEnd S h l) w2 ∧ UB 1 w w2 ∧ RB 0 H R S w2 := by
  obtain ⟨u, a1, a2, a3⟩ := p_X14_ahead hO.1.1 hb hA
  obtain ⟨w2, k, b1, b2, b3, b4⟩ := p_X14_news (s := 1) hB hO a2 hh hl
  exact ⟨u, w2, k, a1, b1, b2, b3, UB_tr a3 b4, rb_UB (UB_tr a3 b4) hA (by omega)⟩
def cR (f : Nat → Int32) : Nat → Int32
  | 0 => 0
  | n + 1 => if f n ≤ 0 then cR f n else cR f n + 1
theorem cR_out {f : Nat → Int32} {H : Nat} (h : ∀ y, H ≤ y → f y = 0) : ∀ d, cR f (H + d) = cR f H
  | 0 => rfl
  | d + 1 => by
    show (if f (H + d) ≤ 0 then cR f (H + d) else cR f (H + d) + 1) = _
    rw [h _ (by omega), if_pos (by decide), cR_out h d]
theorem a_reached {k : Nat} {N : Ns} {w : Mm} (hQ : QA k N w) : ∀ (d i n : Nat), i + d = 8 → d < n → f_X6_hedgesReached_L4 n (nI i) (cR (nF N) i) w = some (cR (nF N) 8, w)
  | 0, i, n + 1, e, hn => by
    have e : i = 8 := by omega
    subst e
    rw [f_X6_hedgesReached_L4]
    exact brT (by decide) rfl
  | d + 1, i, n + 1, e, hn => by
    have ih := a_reached hQ d (i + 1) n (by omega) (by omega)
    rw [show cR (nF N) (i + 1) = if nF N i ≤ 0 then cR (nF N) i else cR (nF N) i + 1 from rfl] at ih
    rw [f_X6_hedgesReached_L4]
    refine brF (by (simp (disch := omega) only [lit_nI, nI_leI, nI_ltI, nI_eq, nI_clamp, nI_add, nI_sub, vB_nI, Nat.add_sub_cancel, Nat.reduceSub, Nat.reduceLT, Nat.reduceLeDiff, Nat.reduceAdd, gI_pI, p2_pI, Nat.reduceEqDiff, false_and, and_false, true_and, and_true, if_false, if_true, and_self] <;> omega)) (gdT ((vB_nI (by omega)).mpr (by omega)) ?_)
    rw [nI_clamp (by omega), hQ.2.2.1 i (by omega)]
    by_cases q : nF N i ≤ 0
    · rw [if_pos q] at ih
      refine brT q (sqT ?_)
      rw [nI_1]; exact ih
    · rw [if_neg q] at ih
      refine brF q (sqT (sqT ?_))
      rw [nI_1]; exact ih
theorem b_reached {b k s c H R : Nat} {S : Gs} {N : Ns} {w : Mm} (hB : RB s H R S w) (hH : H ≤ 8) (hQ : QB k c N w) : ∀ (d i n : Nat), i + d = H → d < n → f_X15_reach_L26 b n (nI i) (cR (nF N) i) w = some (cR (nF N) H, w)
  | 0, i, n + 1, e, hn => by
    obtain ⟨⟨p1, p2, p3, p4, p5, p6, p7, p8⟩, -⟩ := id hB
    have e : i = H := by omega
    subst e
    rw [f_X15_reach_L26]
    refine gdT p1 (sqT (gdT p2 ?_))
    rw [p5]
    exact brT (nI_le (Nat.le_refl _) (by omega)) rfl
  | d + 1, i, n + 1, e, hn => by
    obtain ⟨⟨p1, p2, p3, p4, p5, p6, p7, p8⟩, -⟩ := id hB
    have ih := b_reached (b := b) hB hH hQ d (i + 1) n (by omega) (by omega)
    rw [show cR (nF N) (i + 1) = if nF N i ≤ 0 then cR (nF N) i else cR (nF N) i + 1 from rfl] at ih
    rw [f_X15_reach_L26]
    refine gdT p1 (sqT (gdT p2 ?_))
    rw [p5]
    refine brF (nI_ge (by omega) (by omega)) (gdT ((vB_nI (by omega)).mpr (by omega)) ?_)
    rw [nI_clamp (by omega), hQ.2.2 i (by omega)]
    by_cases q : nF N i ≤ 0
    · rw [if_pos q] at ih
      refine brT q (sqT (sqT ?_))
      rw [nI_1, Int32.add_zero]; exact ih
    · rw [if_neg q] at ih
      refine brF q (sqT (sqT ?_))
      rw [nI_1]; exact ih
theorem i99 : 1 ≤ (99 : Int32).toInt ∧ (99 : Int32).toInt ≤ 99 := by decide
theorem z_reach {P : Nat → Nat → Mm → Prop} {b t : Nat} {w : Mm} {a l : Int32} (hP : Stb P) (hI : Iv P b t w) (ht : t + 1 ≤ 512) : CZ (f_L_reach a l w) (f_X15_reach b a l) (Iv P b (t + 1)) := by
  obtain ⟨H, R, S, hA, hB, hO, ht0, hb, hp⟩ := id hI
  have hR := hO.1.1.2.1
  have hH := hO.1.1.1
  rcases hcase a (H := H) hH with ⟨y, hy, rfl⟩ | hi
  · rcases lcase l with hl | hl
    · obtain ⟨w1, k1, a1, a2, a3, a4, a5, a6⟩ := p_X12_try (by omega) hO hA hy hl
      have hc : cR (nF (nEnd S y l)) 8 = cR (nF (nEnd S y l)) H := by
        have := cR_out (nf_end (by omega) hO hy hl) (8 - H)
        rwa [show H + (8 - H) = 8 by omega] at this
      refine cz_mv (w1 := w1) (S' := S) (v := cR (nF (nEnd S y l)) H) hP ht hb hp ?_ (eqr_UA a5) a6 (ok_mono hO (by omega)) fun z hz => ?_
      · unfold f_L_reach f_X12_reach
        refine bwT (bxT (a_hN hA hH hy) (bxT (a_nL hl) (bd0T a1 (bd1T (x := cR (nF (nEnd S y l)) H) (w := w1) ?_ rfl)))) (gdT rfl rfl)
        unfold f_X6_hedgesReached
        rw [← hc]
        exact bd1T (a_reached a3 8 0 LF rfl (by unfold LF; omega)) rfl
      · have hB1 : RB 0 H R S (pZ (pL w1 63 0 0 (cR (nF (nEnd S y l)) H).toInt64) z) := (rb_UA a5 hB : RB 0 H R S w1)
        have hB2 := rb_o (c := 32) (k := 0) (i := 0) (v := 0) (rb_o (c := 32) (k := 0) (i := 0) (v := 0) hB1 (by omega)) (by omega)
        have hE2 := eqr_tr (eqr_tr (eqr_tr (eqr_UA a5) (eqr_pL (w := w1) (k := 0) (i := 0) (v := (cR (nF (nEnd S y l)) H).toInt64))) (eqr_pZ hz)) (eqr_tr (eqr_pI (c := 32) (k := 0) (i := 0) (v := 0) (by omega)) (eqr_pI (c := 32) (k := 0) (i := 0) (v := 0) (by omega)))
        obtain ⟨u, w2, k2, b1, b2, b3, b4, b5, b6⟩ := p_X15_try (by omega) hO (bt_eqr hb hE2).1 hB2 hy hl
        refine ⟨w2, ?_, ?_, b6, fun c k i q => ?_, eqr_tr (eqr_tr (eqr_pI (by omega)) (eqr_pI (by omega))) (eqr_UB b5), b5.2⟩
        · unfold f_X15_reach
          exact bd1T (b_news hB1 hH hy hl) (brF (by decide) (bd1T b1 (gdT rfl (bd1T b2 (bd1T (b_reached b6 hH b4 H 0 LF (by omega) (by unfold LF; omega)) rfl)))))
        · rw [ub32 b5]; simp [gI_pI]
        · rw [b5.1 _ _ _ (by unfold ownB; omega), gI_pI, if_neg (by omega), gI_pI, if_neg (by omega)]
    · refine cz_thr hP hI ht (c := 2) (by decide) ?_ fun z hz => ?_
      · unfold f_L_reach f_X12_reach
        exact bwE (bxT (a_hN hA hH hy) (bxE (a_nLi hl) rfl)) (brF (by decide) (brT rfl rfl))
      · refine ⟨0, _, ?_, by simp [gI_pI], Or.inr ⟨0, rfl⟩⟩
        unfold f_X15_reach
        exact bd1T (b_news2 (show RB 0 H R S (pZ w z) from hB) hH hy hl) (brT rfl rfl)
  · refine cz_thr hP hI ht (c := 1) (by decide) ?_ fun z hz => ?_
    · unfold f_L_reach f_X12_reach
      exact bwE (bxE (a_hNi hA hi) rfl) (brT rfl rfl)
    · refine ⟨0, _, ?_, by simp [gI_pI], Or.inl rfl⟩
      unfold f_X15_reach
      exact bd1T (b_news1 (show RB 0 H R S (pZ w z) from hB) hH hi) (brT rfl rfl)
theorem z_loudnessAt {P : Nat → Nat → Mm → Prop} {b t : Nat} {w : Mm} {a c : Int32} (hP : Stb P) (hI : Iv P b t w) (ht : t + 1 ≤ 512) : CZ (f_L_loudnessAt a c w) (f_X15_loudnessAt b a c) (Iv P b (t + 1)) := by
  obtain ⟨H, R, S, hA, hB, hO, ht0, hb, hp⟩ := id hI
  have hR := hO.1.1.2.1
  have hH := hO.1.1.1
  rcases hcase a (H := H) hH with ⟨y, hy, rfl⟩ | hi
  · rcases hcase c (H := H) hH with ⟨v, hv, rfl⟩ | hi2
    · obtain ⟨w1, k1, a1, a2, a3, a4, a5, a6⟩ := p_X12_try (by omega) hO hA hy i99
      refine cz_mv (w1 := w1) (S' := S) (v := nF (nEnd S y 99) v) hP ht hb hp ?_ (eqr_UA a5) a6 (ok_mono hO (by omega)) fun z hz => ?_
      · unfold f_L_loudnessAt f_X12_loudnessAt
        refine bwT (bxT (a_hN hA hH hy) (bxT (a_hN hA hH hv) (bd0T a1 (bd1T (x := nF (nEnd S y 99) v) (w := w1) ?_ rfl)))) (gdT rfl rfl)
        unfold f_X6_firstLoudnessAt
        refine brF (nI_pos (by omega)) (brT (by (simp (disch := omega) only [lit_nI, nI_leI, nI_ltI, nI_eq, nI_clamp, nI_add, nI_sub, vB_nI, Nat.add_sub_cancel, Nat.reduceSub, Nat.reduceLT, Nat.reduceLeDiff, Nat.reduceAdd, gI_pI, p2_pI, Nat.reduceEqDiff, false_and, and_false, true_and, and_true, if_false, if_true, and_self] <;> omega)) (gdT ((vB_nI (by omega)).mpr (by omega)) ?_))
        rw [nI_clamp (by omega), a3.2.2.1 v (by omega)]
      · have hB1 : RB 0 H R S (pZ (pL w1 63 0 0 (nF (nEnd S y 99) v).toInt64) z) := (rb_UA a5 hB : RB 0 H R S w1)
        have hB2 := rb_o (c := 32) (k := 0) (i := 0) (v := 0) hB1 (by omega)
        have hE2 := eqr_tr (eqr_tr (eqr_tr (eqr_UA a5) (eqr_pL (w := w1) (k := 0) (i := 0) (v := (nF (nEnd S y 99) v).toInt64))) (eqr_pZ hz)) (eqr_pI (c := 32) (k := 0) (i := 0) (v := 0) (by omega))
        obtain ⟨u, w2, k2, b1, b2, b3, b4, b5, b6⟩ := p_X15_try (by omega) hO (bt_eqr hb hE2).1 hB2 hy i99
        refine ⟨w2, ?_, ?_, b6, fun c k i q => ?_, eqr_tr (eqr_pI (by omega)) (eqr_UB b5), b5.2⟩
        · unfold f_X15_loudnessAt
          refine bd1T (b_isH hB1 hH hy) (brF (by decide) (bd1T (b_isH hB1 hH hv) (brF (by decide) (bd1T b_kn1 (brF (by decide) (bd1T b1 (gdT rfl (bd1T b2 (gdT ((vB_nI (by omega)).mpr (by omega)) ?_)))))))))
          rw [nI_clamp (by omega), b4.2.2 v (by omega)]
        · rw [ub32 b5]; simp [gI_pI]
        · rw [b5.1 _ _ _ (by unfold ownB; omega), gI_pI, if_neg (by omega)]
    · refine cz_thr hP hI ht (c := 1) (by decide) ?_ fun z hz => ?_
      · unfold f_L_loudnessAt f_X12_loudnessAt
        exact bwE (bxT (a_hN hA hH hy) (bxE (a_hNi hA hi2) rfl)) (brT rfl rfl)
      · refine ⟨0, pI (pZ w z) 32 0 0 1, ?_, by simp [gI_pI], Or.inl rfl⟩
        unfold f_X15_loudnessAt
        have hB' : RB 0 H R S (pZ w z) := hB
        exact bd1T (b_isH hB' hH hy) (brF (by decide) (bd1T (b_isHi hB' hH hi2) (brT rfl (bd1T b_kn0 (brT rfl rfl)))))
  · refine cz_thr hP hI ht (c := 1) (by decide) ?_ fun z hz => ?_
    · unfold f_L_loudnessAt f_X12_loudnessAt
      exact bwE (bxE (a_hNi hA hi) rfl) (brT rfl rfl)
    · refine ⟨0, pI (pZ w z) 32 0 0 1, ?_, by simp [gI_pI], Or.inl rfl⟩
      unfold f_X15_loudnessAt
      have hB' : RB 0 H R S (pZ w z) := hB
      exact bd1T (b_isHi hB' hH hi) (brT rfl (bd1T b_kn0 (brT rfl rfl)))
theorem z_comesBack {P : Nat → Nat → Mm → Prop} {b t : Nat} {w : Mm} {a : Int32} (hP : Stb P) (hI : Iv P b t w) (ht : t + 1 ≤ 512) : CZ (f_L_comesBack a w) (f_X15_comesBack b a) (Iv P b (t + 1)) := by
  obtain ⟨H, R, S, hA, hB, hO, ht0, hb, hp⟩ := id hI
  have hR := hO.1.1.2.1
  have hH := hO.1.1.1
  rcases hcase a (H := H) hH with ⟨y, hy, rfl⟩ | hi
  · obtain ⟨w1, k1, a1, a2, a3, a4, a5, a6⟩ := p_X12_try (by omega) hO hA hy i99
    refine cz_mv (w1 := w1) (S' := S) (v := bI (nB (nEnd S y 99) y)) hP ht hb hp ?_ (eqr_UA a5) a6 (ok_mono hO (by omega)) fun z hz => ?_
    · have hca : f_X6_cameAgainTo (nI y) w1 = some (bI (nB (nEnd S y 99) y), w1) := by
        unfold f_X6_cameAgainTo
        refine brF (nI_pos (by omega)) (brF (by (simp (disch := omega) only [lit_nI, nI_leI, nI_ltI, nI_eq, nI_clamp, nI_add, nI_sub, vB_nI, Nat.add_sub_cancel, Nat.reduceSub, Nat.reduceLT, Nat.reduceLeDiff, Nat.reduceAdd, gI_pI, p2_pI, Nat.reduceEqDiff, false_and, and_false, true_and, and_true, if_false, if_true, and_self] <;> omega)) (gdT ((vB_nI (by omega)).mpr (by omega)) ?_))
        rw [nI_clamp (by omega), a3.2.2.2 y (by omega)]
        cases nB (nEnd S y 99) y
        · exact brT rfl rfl
        · exact brF (by decide) rfl
      unfold f_L_comesBack f_X12_comesBack
      refine bwT (x := bI (nB (nEnd S y 99) y)) (w := w1) (bxT (a_hN hA hH hy) (bd0T a1 (bd1T hca (gdT (by cases nB (nEnd S y 99) y <;> decide) rfl)))) ?_
      cases nB (nEnd S y 99) y
      · exact brT rfl (gdT rfl rfl)
      · exact brF (by decide) (gdT rfl rfl)
    · have hB1 : RB 0 H R S (pZ (pL w1 63 0 0 (bI (nB (nEnd S y 99) y)).toInt64) z) := (rb_UA a5 hB : RB 0 H R S w1)
      have hB2 := rb_o (c := 32) (k := 0) (i := 0) (v := 0) hB1 (by omega)
      have hE2 := eqr_tr (eqr_tr (eqr_tr (eqr_UA a5) (eqr_pL (w := w1) (k := 0) (i := 0) (v := (bI (nB (nEnd S y 99) y)).toInt64))) (eqr_pZ hz)) (eqr_pI (c := 32) (k := 0) (i := 0) (v := 0) (by omega))
      obtain ⟨u, w2, k2, b1, b2, b3, b4, b5, b6⟩ := p_X15_try (by omega) hO (bt_eqr hb hE2).1 hB2 hy i99
      refine ⟨w2, ?_, ?_, b6, fun c k i q => ?_, eqr_tr (eqr_pI (by omega)) (eqr_UB b5), b5.2⟩
      · unfold f_X15_comesBack
        refine bd1T (b_isH hB1 hH hy) (brF (by decide) (sqT (bd1T b1 (gdT rfl (bd1T b2 ?_)))))
        rw [b4.1.2.2]
        exact gdT (by cases nB (nEnd S y 99) y <;> decide) rfl
      · rw [ub32 b5]; simp [gI_pI]
      · rw [b5.1 _ _ _ (by unfold ownB; omega), gI_pI, if_neg (by omega)]
  · refine cz_thr hP hI ht (c := 1) (by decide) ?_ fun z hz => ?_
    · unfold f_L_comesBack f_X12_comesBack
      exact bwE (bxE (a_hNi hA hi) rfl) (brT rfl rfl)
    · refine ⟨0, pI (pZ w z) 32 0 0 1, ?_, by simp [gI_pI], Or.inl rfl⟩
      unfold f_X15_comesBack
      have hB' : RB 0 H R S (pZ w z) := hB
      exact bd1T (b_isHi hB' hH hi) (brT rfl (bd1T (show f_X15_isNot 1 _ = _ from rfl) (gdT (by decide) rfl)))
