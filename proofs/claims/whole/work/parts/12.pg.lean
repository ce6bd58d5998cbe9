-- THE PURE PART: a news to its end
theorem qa_pop {k T : Nat} {e : Nat × Nat × Int32} {S : Gs} {F : Nat → Int32} {B : Nat → Bool} {t : List (Nat × Nat × Int32)} {w : Mm} (h : QA k (S, F, B, e :: t, T) w) : QA (k + 1) (S, F, B, t, T) w := by
  obtain ⟨a, b, c, d⟩ := h
  refine ⟨a, fun j m x l q => ?_, c, d⟩
  have := b (j + 1) m x l (by simpa [nQ] using q)
  rwa [show k + (j + 1) = k + 1 + j by omega] at this
theorem qb_pop {k b T : Nat} {e : Nat × Nat × Int32} {S : Gs} {F : Nat → Int32} {B : Nat → Bool} {t : List (Nat × Nat × Int32)} {w : Mm} (h : QB k b (S, F, B, e :: t, T) w) : QB (k + 1) b (S, F, B, t, T) w := by
  obtain ⟨a, b, c⟩ := h
  refine ⟨a, fun j m x l q => ?_, c⟩
  have := b (j + 1) m x l (by simpa [nQ] using q)
  rwa [show k + (j + 1) = k + 1 + j by omega] at this
theorem ni_cap {B : Int} {H R k : Nat} {N : Ns} (q : NI B H R k N) : nT N ≤ 120 ∧ nT N = k + (nQ N).length ∧ ∀ h, h < 8 → nF N h ≤ 0 → nT N + 15 ≤ 128 := by
  obtain ⟨s, p, v, nd, t1, t2⟩ := q
  have h8 := hc_le (f := nF N) 8
  refine ⟨by omega, t1, fun h hh e => ?_⟩
  have := hc_le (f := fun j => if j = h then 1 else nF N j) 8
  rw [hc_upd e (by decide) 8 hh] at this
  omega
theorem fr_ua {g : Nat} {a b : Int32} {l : Int32} {w w1 : Mm} (h : f_X1_roseHears g a b l w = some w1) : ∀ c k i, 11 ≤ c → c ≤ 16 → gI w1 c k i = gI w c k i := fun c k i h1 h2 =>
  ((fr_X1_roseHears g a b l w w1 h).1 c (by simp only [List.mem_cons, List.not_mem_nil, or_false]; omega) k i).1
theorem fr_ub {s : Nat} {a b : Int32} {l : Int32} {w w1 : Mm} (h : f_X14_roseHears s a b l w = some w1) : ∀ c k i, (c = 32 ∧ 18 ≤ i) ∨ (40 ≤ c ∧ c ≤ 43) → gI w1 c k i = gI w c k i := fun c k i h1 =>
  ((fr_X14_roseHears s a b l w w1 h).1 c (by simp only [List.mem_cons, List.not_mem_nil, or_false]; omega) k i).1
theorem nRun_nil {N : Ns} (h : nQ N = []) : ∀ n, nRun n N = N
  | 0 => rfl
  | n + 1 => by
    unfold nRun
    have : nS N = N := by unfold nS; rw [h]
    rw [this]
    exact nRun_nil h n
theorem p_X6_carry_L47 {B : Int} {g H R : Nat} (hg : g < 2) (hB : B + 784 < 2147483648) : ∀ (n k f : Nat) (N : Ns) (w : Mm), k + n = 128 → n < f → NI B H R k N → RA g H R (nG N) w → QA k N w →
    ∃ w' k', f_X6_carry_L47 g f (nI k) w = some w' ∧ RA g H R (nG (nRun n N)) w' ∧ QA k' (nRun n N) w' ∧ NI B H R k' (nRun n N) ∧ UA g w w'
  | 0, k, f, N, w, hk, hf, hN, hA, hQ => by
    have := ni_cap hN
    omega
  | n + 1, k, f + 1, (S, F, Bk, [], T), w, hk, hf, hN, hA, hQ => by
    have hcap := ni_cap hN
    have h0 := hQ.1
    simp only [nT_mk, nQ_mk, List.length_nil] at hcap h0
    rw [nRun_nil rfl]
    refine ⟨w, k, ?_, hA, hQ, hN, UA_rf⟩
    rw [f_X6_carry_L47]
    exact brF (by (simp (disch := omega) only [lit_nI, nI_leI, nI_ltI, nI_eq, nI_clamp, nI_add, nI_sub, vB_nI, Nat.add_sub_cancel, Nat.reduceSub, Nat.reduceLT, Nat.reduceLeDiff, Nat.reduceAdd, gI_pI, p2_pI, Nat.reduceEqDiff, false_and, and_false, true_and, and_true, if_false, if_true, and_self] <;> omega)) (brT (by rw [h0, nI_leI (by omega) (by omega)]; omega) rfl)
  | n + 1, k, f + 1, (S, F, Bk, (m, x, l) :: t, T), w, hk, hf, hN, hA, hQ => by
    have hcap := ni_cap hN
    have h0 := hQ.1
    have hS := hN.1.1
    have hH := hS.1
    have hR := hS.2.1
    obtain ⟨e1, e2, e3⟩ := hQ.2.1 0 m x l rfl
    simp only [Nat.add_zero] at e1 e2 e3
    simp only [nT_mk, nQ_mk, List.length_cons] at hcap h0
    have hvb : vB (nI k) 128 = true := (vB_nI (by omega)).mpr (by omega)
    have hcl : (nI k).toNatClampNeg = k := nI_clamp (by omega)
    by_cases hx : x < 8
    · obtain ⟨q1, q2, q3⟩ := ni_popH hN hx
      have hcap1 := ni_cap q1
      obtain ⟨w1, h1, h2, h3, h4⟩ := p_X6_hedgeHears (l := l) (N := (S, F, Bk, t, T)) hg hS hA (qa_pop hQ) q2 hcap1.2.1 (hcap1.2.2 x hx)
      obtain ⟨w', k', h5, h6, h7, h8, h9⟩ := p_X6_carry_L47 hg hB n (k + 1) f _ w1 (by omega) (by omega) (ni_h q1 q2 q3) h2 h3
      have er : nRun (n + 1) (S, F, Bk, (m, x, l) :: t, T) = nRun n (nH x l (S, F, Bk, t, T)) := by
        show nRun n (nS (S, F, Bk, (m, x, l) :: t, T)) = _
        unfold nS nQ
        simp only [if_pos hx]
        rfl
      rw [er]
      refine ⟨w', k', ?_, h6, h7, h8, UA_tr h4 h9⟩
      rw [f_X6_carry_L47]
      refine brF (by (simp (disch := omega) only [lit_nI, nI_leI, nI_ltI, nI_eq, nI_clamp, nI_add, nI_sub, vB_nI, Nat.add_sub_cancel, Nat.reduceSub, Nat.reduceLT, Nat.reduceLeDiff, Nat.reduceAdd, gI_pI, p2_pI, Nat.reduceEqDiff, false_and, and_false, true_and, and_true, if_false, if_true, and_self] <;> omega)) (brF (by rw [h0, nI_leI (by omega) (by omega)]; omega) (gdT hvb ?_))
      rw [hcl, e2, e3]
      refine brF (by (simp (disch := omega) only [lit_nI, nI_leI, nI_ltI, nI_eq, nI_clamp, nI_add, nI_sub, vB_nI, Nat.add_sub_cancel, Nat.reduceSub, Nat.reduceLT, Nat.reduceLeDiff, Nat.reduceAdd, gI_pI, p2_pI, Nat.reduceEqDiff, false_and, and_false, true_and, and_true, if_false, if_true, and_self] <;> omega)) (gdT hvb (gdT hvb (bd0T h1 (sqT ?_))))
      rw [nI_1]
      exact h5
    · obtain ⟨q1, q2, q3, q4, q5⟩ := ni_popR hB hN hx
      obtain ⟨w1, h1, h2, h3⟩ := p_X1_roseHears (l := l) hg hS hA q4 q2
      rw [q3] at h1
      have hQ1 : QA (k + 1) (sR S (x - 8) m l, F, Bk, t, T) w1 := by
        have hQ0 := qa_pop hQ
        refine qa_cg (w := w) hQ0 fun c k i c1 c2 => ?_
        exact fr_ua h1 c k i c1 c2
      obtain ⟨w', k', h5, h6, h7, h8, h9⟩ := p_X6_carry_L47 hg hB n (k + 1) f _ w1 (by omega) (by omega) q1 h2 hQ1
      have er : nRun (n + 1) (S, F, Bk, (m, x, l) :: t, T) = nRun n (sR S (x - 8) m l, F, Bk, t, T) := by
        show nRun n (nS (S, F, Bk, (m, x, l) :: t, T)) = _
        unfold nS nQ
        simp only [if_neg hx]
        rfl
      rw [er]
      refine ⟨w', k', ?_, h6, h7, h8, UA_tr h3 h9⟩
      rw [f_X6_carry_L47]
      refine brF (by (simp (disch := omega) only [lit_nI, nI_leI, nI_ltI, nI_eq, nI_clamp, nI_add, nI_sub, vB_nI, Nat.add_sub_cancel, Nat.reduceSub, Nat.reduceLT, Nat.reduceLeDiff, Nat.reduceAdd, gI_pI, p2_pI, Nat.reduceEqDiff, false_and, and_false, true_and, and_true, if_false, if_true, and_self] <;> omega)) (brF (by rw [h0, nI_leI (by omega) (by omega)]; omega) (gdT hvb ?_))
      rw [hcl, e1, e2, e3]
      refine brT (by (simp (disch := omega) only [lit_nI, nI_leI, nI_ltI, nI_eq, nI_clamp, nI_add, nI_sub, vB_nI, Nat.add_sub_cancel, Nat.reduceSub, Nat.reduceLT, Nat.reduceLeDiff, Nat.reduceAdd, gI_pI, p2_pI, Nat.reduceEqDiff, false_and, and_false, true_and, and_true, if_false, if_true, and_self] <;> omega)) (gdT hvb (gdT hvb (gdT hvb (bd0T h1 (sqT ?_)))))
      rw [nI_1]
      exact h5
theorem p_X14_news_L56 {B : Int} {s b H R : Nat} (hb : b < 8) (hB : B + 784 < 2147483648) : ∀ (n k f : Nat) (N : Ns) (w : Mm), k + n = 128 → n < f → NI B H R k N → RB s H R (nG N) w → QB k b N w →
    ∃ w' k', f_X14_news_L56 s f (nI k) w = some w' ∧ RB s H R (nG (nRun n N)) w' ∧ QB k' b (nRun n N) w' ∧ NI B H R k' (nRun n N) ∧ UB s w w'
  | 0, k, f, N, w, hk, hf, hN, hA, hQ => by
    have := ni_cap hN
    omega
  | n + 1, k, f + 1, (S, F, Bk, [], T), w, hk, hf, hN, hA, hQ => by
    have hcap := ni_cap hN
    have h0 := hQ.1.1
    simp only [nT_mk, nQ_mk, List.length_nil] at hcap h0
    rw [nRun_nil rfl]
    refine ⟨w, k, ?_, hA, hQ, hN, UB_rf⟩
    rw [f_X14_news_L56]
    exact (brT (by rw [h0, nI_leI (by omega) (by omega)]; omega) rfl)
  | n + 1, k, f + 1, (S, F, Bk, (m, x, l) :: t, T), w, hk, hf, hN, hA, hQ => by
    have hcap := ni_cap hN
    have h0 := hQ.1.1
    have hS := hN.1.1
    have hH := hS.1
    have hR := hS.2.1
    obtain ⟨e1, e2, e3⟩ := hQ.2.1 0 m x l rfl
    simp only [Nat.add_zero] at e1 e2 e3
    simp only [nT_mk, nQ_mk, List.length_cons] at hcap h0
    have hvb : vB (nI k) 128 = true := (vB_nI (by omega)).mpr (by omega)
    have hcl : (nI k).toNatClampNeg = k := nI_clamp (by omega)
    by_cases hx : x < 8
    · obtain ⟨q1, q2, q3⟩ := ni_popH hN hx
      have hcap1 := ni_cap q1
      obtain ⟨w1, h1, h2, h3, h4⟩ := p_X14_hedgeHears (l := l) (N := (S, F, Bk, t, T)) hS hA (qb_pop hQ) q2 hb hcap1.2.1 (hcap1.2.2 x hx)
      obtain ⟨w', k', h5, h6, h7, h8, h9⟩ := p_X14_news_L56 hb hB n (k + 1) f _ w1 (by omega) (by omega) (ni_h q1 q2 q3) h2 h3
      have er : nRun (n + 1) (S, F, Bk, (m, x, l) :: t, T) = nRun n (nH x l (S, F, Bk, t, T)) := by
        show nRun n (nS (S, F, Bk, (m, x, l) :: t, T)) = _
        unfold nS nQ
        simp only [if_pos hx]
        rfl
      rw [er]
      refine ⟨w', k', ?_, h6, h7, h8, UB_tr h4 h9⟩
      rw [f_X14_news_L56]
      refine (brF (by rw [h0, nI_leI (by omega) (by omega)]; omega) (gdT hvb ?_))
      rw [hcl, e2, e3]
      refine brF (by (simp (disch := omega) only [lit_nI, nI_leI, nI_ltI, nI_eq, nI_clamp, nI_add, nI_sub, vB_nI, Nat.add_sub_cancel, Nat.reduceSub, Nat.reduceLT, Nat.reduceLeDiff, Nat.reduceAdd, gI_pI, p2_pI, Nat.reduceEqDiff, false_and, and_false, true_and, and_true, if_false, if_true, and_self] <;> omega)) (gdT hvb (gdT hvb (bd0T h1 (sqT ?_))))
      rw [nI_1]
      exact h5
    · obtain ⟨q1, q2, q3, q4, q5⟩ := ni_popR hB hN hx
      obtain ⟨w1, h1, h2, h3⟩ := p_X14_roseHears (l := l) hS hA q4 q2 (by rw [q3]; exact q5) (hN.1.2.2.1 (x - 8) q2)
      have ex : nI x - 8 = nI (x - 8) := nI_m8' (by omega)
      have hQ1 : QB (k + 1) b (sR S (x - 8) m l, F, Bk, t, T) w1 := by
        have hQ0 := qb_pop hQ
        refine qb_cg (w := w) hQ0 fun c k i c1 => ?_
        exact fr_ub h1 c k i c1
      obtain ⟨w', k', h5, h6, h7, h8, h9⟩ := p_X14_news_L56 hb hB n (k + 1) f _ w1 (by omega) (by omega) q1 h2 hQ1
      have er : nRun (n + 1) (S, F, Bk, (m, x, l) :: t, T) = nRun n (sR S (x - 8) m l, F, Bk, t, T) := by
        show nRun n (nS (S, F, Bk, (m, x, l) :: t, T)) = _
        unfold nS nQ
        simp only [if_neg hx]
        rfl
      rw [er]
      refine ⟨w', k', ?_, h6, h7, h8, UB_tr h3 h9⟩
      rw [f_X14_news_L56]
      refine (brF (by rw [h0, nI_leI (by omega) (by omega)]; omega) (gdT hvb ?_))
      rw [hcl, e1, e2, e3, ex]
      refine brT (by (simp (disch := omega) only [lit_nI, nI_leI, nI_ltI, nI_eq, nI_clamp, nI_add, nI_sub, vB_nI, Nat.add_sub_cancel, Nat.reduceSub, Nat.reduceLT, Nat.reduceLeDiff, Nat.reduceAdd, gI_pI, p2_pI, Nat.reduceEqDiff, false_and, and_false, true_and, and_true, if_false, if_true, and_self] <;> omega)) (gdT hvb (gdT hvb (gdT hvb (bd0T h1 (sqT ?_)))))
      rw [nI_1]
      exact h5
theorem p_X6_carry_L3 {z1 : Nat} {z2 z3 : Int32} : ∀ (d i f : Nat) (w : Mm), i + d = 8 → d < f → ∃ w', f_X6_carry_L3 z1 z2 z3 f (nI i) w = some w' ∧ (∀ c k j, ¬ (c = 15 ∨ c = 16) → gI w' c k j = gI w c k j) ∧ w'.2 = w.2 ∧ (∀ h, h < 8 → gI w' 15 0 h = if i ≤ h then 0 else gI w 15 0 h) ∧ (∀ h, h < 8 → gI w' 16 0 h = if i ≤ h then 0 else gI w 16 0 h)
  | 0, i, f + 1, w, hi, hf => by
    have hi : i = 8 := by omega
    subst hi
    refine ⟨w, ?_, fun _ _ _ _ => rfl, rfl, fun h hh => by rw [if_neg]; omega, fun h hh => by rw [if_neg]; omega⟩
    rw [f_X6_carry_L3]
    exact brT (by decide) rfl
  | d + 1, i, f + 1, w, hi, hf => by
    obtain ⟨w', h1, h2, h3, h4, h5⟩ := p_X6_carry_L3 (z1 := z1) (z2 := z2) (z3 := z3) d (i + 1) f (pI (pI w 15 0 i 0) 16 0 i 0) (by omega) (by omega)
    have hvb : vB (nI i) 8 = true := (vB_nI (by omega)).mpr (by omega)
    refine ⟨w', ?_, fun c k j q => ?_, h3, fun h hh => ?_, fun h hh => ?_⟩
    · rw [f_X6_carry_L3]
      refine brF (by (simp (disch := omega) only [lit_nI, nI_leI, nI_ltI, nI_eq, nI_clamp, nI_add, nI_sub, vB_nI, Nat.add_sub_cancel, Nat.reduceSub, Nat.reduceLT, Nat.reduceLeDiff, Nat.reduceAdd, gI_pI, p2_pI, Nat.reduceEqDiff, false_and, and_false, true_and, and_true, if_false, if_true, and_self] <;> omega)) (gdT hvb (sqT (gdT hvb (sqT (sqT ?_)))))
      rw [nI_clamp (by omega), nI_1]
      exact h1
    · rw [h2 c k j q, gI_pI, if_neg (by omega), gI_pI, if_neg (by omega)]
    · rw [h4 h hh]
      by_cases e : h = i
      · subst e; rw [if_neg (by omega), if_pos (by omega)]; simp [gI_pI, nG_mk, nF_mk, nB_mk, nQ_mk, nT_mk]
      · by_cases e2 : i + 1 ≤ h
        · rw [if_pos e2, if_pos (by omega)]
        · rw [if_neg e2, if_neg (by omega)]; simp [gI_pI, e]
    · rw [h5 h hh]
      by_cases e : h = i
      · subst e; rw [if_neg (by omega), if_pos (by omega)]; simp [gI_pI, nG_mk, nF_mk, nB_mk, nQ_mk, nT_mk]
      · by_cases e2 : i + 1 ≤ h
        · rw [if_pos e2, if_pos (by omega)]
        · rw [if_neg e2, if_neg (by omega)]; simp [gI_pI, e]
theorem p_X14_news_L2 {z0 : Nat} {z1 z2 : Int32} : ∀ (d i f : Nat) (w : Mm), i + d = 8 → d < f → ∃ w', f_X14_news_L2 z0 z1 z2 f (nI i) w = some w' ∧ (∀ c k j, ¬ (c = 43) → gI w' c k j = gI w c k j) ∧ w'.2 = w.2 ∧ (∀ h, h < 8 → gI w' 43 0 h = if i ≤ h then 0 else gI w 43 0 h)
  | 0, i, f + 1, w, hi, hf => by
    have hi : i = 8 := by omega
    subst hi
    refine ⟨w, ?_, fun _ _ _ _ => rfl, rfl, fun h hh => by rw [if_neg]; omega⟩
    rw [f_X14_news_L2]
    exact brT (by decide) rfl
  | d + 1, i, f + 1, w, hi, hf => by
    obtain ⟨w', h1, h2, h3, h4⟩ := p_X14_news_L2 (z0 := z0) (z1 := z1) (z2 := z2) d (i + 1) f (pI w 43 0 i 0) (by omega) (by omega)
    have hvb : vB (nI i) 8 = true := (vB_nI (by omega)).mpr (by omega)
    refine ⟨w', ?_, fun c k j q => ?_, h3, fun h hh => ?_⟩
    · rw [f_X14_news_L2]
      refine brF (by (simp (disch := omega) only [lit_nI, nI_leI, nI_ltI, nI_eq, nI_clamp, nI_add, nI_sub, vB_nI, Nat.add_sub_cancel, Nat.reduceSub, Nat.reduceLT, Nat.reduceLeDiff, Nat.reduceAdd, gI_pI, p2_pI, Nat.reduceEqDiff, false_and, and_false, true_and, and_true, if_false, if_true, and_self] <;> omega)) (gdT hvb (sqT (sqT ?_)))
      rw [nI_clamp (by omega), nI_1]
      exact h1
    · rw [h2 c k j q, gI_pI, if_neg (by omega)]
    · rw [h4 h hh]
      by_cases e : h = i
      · subst e; rw [if_neg (by omega), if_pos (by omega)]; simp [gI_pI, nG_mk, nF_mk, nB_mk, nQ_mk, nT_mk]
      · by_cases e2 : i + 1 ≤ h
        · rw [if_pos e2, if_pos (by omega)]
        · rw [if_neg e2, if_neg (by omega)]; simp [gI_pI, e]
theorem ni_ini {B : Int} {H R : Nat} {S : Gs} (h : OK B H R S) : NI B H R 0 (nIni S) := by
  refine ⟨h.1, fun r hr => ?_, fun e he => (by cases he), List.nodup_nil, rfl, Nat.zero_le _⟩
  have := h.2 r hr
  have e : hc (nF (nIni S)) 8 = 0 := by simp [hc, nF, nIni]
  rw [e]
  show 0 ≤ (sg S 5 r).toInt ∧ (sg S 5 r).toInt + 98 * ((0 : Nat) : Int) + 98 * (8 - ((0 : Nat) : Int)) ≤ B + 784
  omega
theorem ni_ok {B : Int} {H R k : Nat} {N : Ns} (h : NI B H R k N) : OK (B + 784) H R (nG N) := by
  obtain ⟨s, p, v, nd, t1, t2⟩ := h
  refine ⟨s, fun r hr => ?_⟩
  have := p r hr
  have := hc_le (f := nF N) 8
  omega
/-- what is known behind a news -/
theorem ok_news {B : Int} {H R k : Nat} {S : Gs} {h : Nat} {l : Int32} (q : NI B H R k (nEnd S h l)) : OK (B + 784) H R (sNews S h l) := by
  have := ni_ok q
  unfold sNews
  generalize nEnd S h l = N at *
  exact ⟨⟨this.1.1, fun y hy => by simpa [sg_pg] using this.1.2.1 y hy, fun y hy => by simpa [sg_pg] using this.1.2.2.1 y hy, this.1.2.2.2⟩, fun r hr => by simpa [sg_pg] using this.2 r hr⟩
theorem p_X6_carry {B : Int} {g H R h : Nat} {l : Int32} {S : Gs} {w : Mm} (hg : g < 2) (hB : B + 784 < 2147483648) (hS : OK B H R S) (hA : RA g H R S w) (hh : h < H) (hl : 1 ≤ l.toInt ∧ l.toInt ≤ 99) :
    ∃ w' k, f_X6_carry g (nI h) l w = some (nI (nT (nEnd S h l)), w') ∧ RA g H R (sNews S h l) w' ∧ QA k (nEnd S h l) w' ∧ NI B H R k (nEnd S h l) ∧ UA g w w' := by
  have hH := hS.1.1.1
  have hR := hS.1.1.2.1
  obtain ⟨w0, a1, a2, a3, a4, a5⟩ := p_X6_carry_L3 (z1 := g) (z2 := nI h) (z3 := l) 8 0 LF w rfl (by unfold LF; omega)
  have hU0 : UA g w (pI w0 11 0 3 0) := UA_p ⟨fun c k i q => a2 c k i (fun q' => q (by unfold ownA; omega)), a3⟩ (by unfold ownA; omega)
  have hA0 : RA g H R (nG (nIni S)) (pI w0 11 0 3 0) := ra_o (ra_cg hA hH hR fun c k i q => a2 c k i (by omega)) hH hR (by omega)
  have hQ0 : QA 0 (nIni S) (pI w0 11 0 3 0) := by
    refine ⟨by simp [gI_pI, nIni, nT]; rfl, fun j m x l e => ?_, fun y hy => ?_, fun y hy => ?_⟩
    · simp [nIni, nQ] at e
    · have := a4 y hy; simpa [gI_pI, nIni, nF] using this
    · have := a5 y hy; simpa [gI_pI, nIni, nB, bI] using this
  obtain ⟨w1, b1, b2, b3, b4⟩ := p_X6_hedgeHears (l := l) hg hS.1.1 hA0 hQ0 hh rfl (fun _ => by show 0 + 15 ≤ 128; omega)
  obtain ⟨w2, k', c1, c2, c3, c4, c5⟩ := p_X6_carry_L47 hg hB 128 0 LF (nH h l (nIni S)) w1 rfl (by unfold LF; omega) (ni_h (ni_ini hS) hh hl) b2 b3
  have e6 := c2.2.1.2.2.1
  have e3 := c3.1
  refine ⟨pI w2 19 g 6 (sg (nG (nEnd S h l)) 0 2 + nI (nT (nEnd S h l))), k', ?_, ra_s (j := 2) c2 (by omega), qa_o c3 (by omega), c4, UA_p (UA_tr hU0 (UA_tr b4 c5)) (by unfold ownA; omega)⟩
  unfold f_X6_carry
  refine bd0T a1 (sqT (bd0T b1 (bd0T c1 ?_)))
  rw [e6, e3]
  refine sqT ?_
  have : gI (pI w2 19 g 6 (sg (nG (nRun 128 (nH h l (nIni S)))) 0 2 + nI (nT (nRun 128 (nH h l (nIni S)))))) 11 0 3 = nI (nT (nRun 128 (nH h l (nIni S)))) := by simp [gI_pI, e3]
  rw [this]
  rfl
theorem p_X14_news {B : Int} {s H R h : Nat} {l : Int32} {S : Gs} {w : Mm} (hB : B + 784 < 2147483648) (hS : OK B H R S) (hA : RB s H R S w) (hh : h < H) (hl : 1 ≤ l.toInt ∧ l.toInt ≤ 99) :
    ∃ w' k, f_X14_news s (nI h) l w = some (nI (nT (nEnd S h l)), w') ∧ RB s H R (sNews S h l) w' ∧ QB k h (nEnd S h l) w' ∧ UB s w w' := by
  have hH := hS.1.1.1
  have hR := hS.1.1.2.1
  obtain ⟨w0, a1, a2, a3, a4⟩ := p_X14_news_L2 (z0 := s) (z1 := nI h) (z2 := l) 8 0 LF w rfl (by unfold LF; omega)
  have hU0 : UB s w (pI (pI (pI w0 32 0 18 0) 32 0 19 (nI h)) 32 0 20 0) := UB_p (UB_p (UB_p ⟨fun c k i q => a2 c k i (fun q' => q (by unfold ownB; omega)), a3⟩ (by unfold ownB; omega)) (by unfold ownB; omega)) (by unfold ownB; omega)
  have hA0 : RB s H R (nG (nIni S)) (pI (pI (pI w0 32 0 18 0) 32 0 19 (nI h)) 32 0 20 0) := rb_o (rb_o (rb_o (rb_cg hA a3 fun c k i q => a2 c k i (by omega)) (by omega)) (by omega)) (by omega)
  have hQ0 : QB 0 h (nIni S) (pI (pI (pI w0 32 0 18 0) 32 0 19 (nI h)) 32 0 20 0) := by
    refine ⟨⟨by simp [gI_pI, nIni, nT]; rfl, by simp [gI_pI, nG_mk, nF_mk, nB_mk, nQ_mk, nT_mk], by simp [gI_pI, nIni, nB, bI]⟩, fun j m x l e => ?_, fun y hy => ?_⟩
    · simp [nIni, nQ] at e
    · have := a4 y hy; simpa [gI_pI, nIni, nF] using this
  obtain ⟨w1, b1, b2, b3, b4⟩ := p_X14_hedgeHears (l := l) hS.1.1 hA0 hQ0 hh (by omega) rfl (fun _ => by show 0 + 15 ≤ 128; omega)
  obtain ⟨w2, k', c1, c2, c3, c4, c5⟩ := p_X14_news_L56 (b := h) (by omega) hB 128 0 LF (nH h l (nIni S)) w1 rfl (by unfold LF; omega) (ni_h (ni_ini hS) hh hl) b2 b3
  have e6 := c2.2.1.2.2.1
  have e3 := c3.1.1
  refine ⟨pI w2 55 s 2 (sg (nG (nEnd S h l)) 0 2 + nI (nT (nEnd S h l))), k', ?_, rb_s (j := 2) c2 (by omega), qb_o c3 (by omega), UB_p (UB_tr hU0 (UB_tr b4 c5)) (by unfold ownB; omega)⟩
  unfold f_X14_news
  refine bd0T a1 (sqT (sqT (sqT (bd0T b1 (bd0T c1 ?_)))))
  rw [e6, e3]
  refine sqT ?_
  have : gI (pI w2 55 s 2 (sg (nG (nRun 128 (nH h l (nIni S)))) 0 2 + nI (nT (nRun 128 (nH h l (nIni S)))))) 32 0 18 = nI (nT (nRun 128 (nH h l (nIni S)))) := by simp [gI_pI, e3]
  rw [this]
  rfl
