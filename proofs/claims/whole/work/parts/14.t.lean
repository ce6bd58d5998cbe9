-- THE PURE PART: the class's check of the names
theorem nV_le : ∀ (l : List Nat) (v : Nat), (∀ c ∈ l, c ≤ 57) → nV v l + 1 ≤ (v + 1) * 10 ^ l.length := by
  intro l
  induction l with
  | nil =>
    intro v _
    rw [List.length_nil, Nat.pow_zero, Nat.mul_one]
    exact Nat.le_refl _
  | cons c t ih =>
    intro v hc
    have h1 := hc c List.mem_cons_self
    have h2 := ih (v * 10 + (c - 48)) fun x hx => hc x (List.mem_cons_of_mem _ hx)
    have h3 : (v * 10 + (c - 48) + 1) * 10 ^ t.length ≤ ((v + 1) * 10) * 10 ^ t.length := Nat.mul_le_mul_right _ (by omega)
    have e : (v + 1) * 10 ^ (c :: t).length = ((v + 1) * 10) * 10 ^ t.length := by rw [List.length_cons, Nat.pow_succ, Nat.mul_comm (10 ^ t.length) 10, ← Nat.mul_assoc]
    rw [e]
    exact Nat.le_trans h2 h3
section CNAMES
variable {T : List Nat} {tk st ln : Nat → Nat} {N z : Nat}
theorem nva_lt (hT : TKF T tk st ln N) {j : Nat} (hj : j < N) (h4 : tk j = 4) : nV 0 (nm T st ln j) < 1000000 := by
  obtain ⟨_, _, _, h, _⟩ := hT
  obtain ⟨_, _, _, _, _, _, g6⟩ := h j hj
  obtain ⟨k1, k2, k3, k4⟩ := g6 h4
  have := nV_le (nm T st ln j) 0 fun c hc => by
    have := k4 c hc
    unfold isDg at this
    simp only [Bool.and_eq_true, decide_eq_true_eq] at this
    exact this.2
  have e : (nm T st ln j).length = ln j := k3
  rw [e] at this
  have h2 : 10 ^ ln j ≤ 10 ^ 6 := Nat.pow_le_pow_right (by decide) (by omega)
  rw [Nat.zero_add, Nat.one_mul] at this
  have h3 : (10 : Nat) ^ 6 = 1000000 := by decide
  rw [h3] at h2
  exact Nat.lt_of_succ_le (Nat.le_trans this h2)
theorem fk_10 {i : Nat} {v : Int64} {w : Mm} : FK z w (pL w 10 0 i v) := ⟨fun c k i q1 q2 q3 q4 => rfl, fun c k i q => by rw [gL_pL2, if_neg (by omega)], rfl⟩
/-- a new name -/
theorem c_new (hT : TKF T tk st ln N) {j : Nat} {w : Mm} (hj : j < N) (h3 : tk j = 3) (hB : ∀ u, u ≤ j → BS tk u) (h : CI T tk st ln N z j w) (h7 : tk (j - 1) = 7 ∨ tk (j - 1) = 9) : ∃ w', f_X5_errorOfNewName (kyN T st ln j) (tk (j - 1)) z w = some (nI (ec T tk st ln j), w') ∧ FK z w w' ∧ (ec T tk st ln j = 0 → CI T tk st ln N z (j + 1) w') := by
  obtain ⟨p1, p2, p3, p4, p5⟩ := id hT
  obtain ⟨⟨c5, c4, c7, c8⟩, ⟨a1, a2, a3, a4⟩, _⟩ := id h
  have hb := (hB j (Nat.le_refl _)).1 h3
  have hr := rolN h3 hb.1
  have hli := li_r (T := T) (st := st) (ln := ln) a3 a4
  have n1 := cN_nm (r := 1) h3 (fun u hu => hB u (by omega)) (hB j (Nat.le_refl _)) (Or.inl rfl)
  have n2 := cN_nm (r := 2) h3 (fun u hu => hB u (by omega)) (hB j (Nat.le_refl _)) (Or.inr rfl)
  rw [n1] at a1
  rw [n2] at a2
  have hnm := c_named hT hj h3 hB h
  have hr12 : rol tk j = 1 ∨ rol tk j = 2 := by
    rcases h7 with q | q
    · rw [if_pos q] at hr; exact Or.inl hr
    · rw [if_neg (by omega), if_pos q] at hr; exact Or.inr hr
  have ee : ec T tk st ln j = (if fI T tk st ln 1 j = none ∧ fI T tk st ln 2 j = none then (if (cN tk (rol tk j) j).length = 8 then 4 else 0) else 2) := by
    unfold ec
    rw [if_neg (by omega), if_pos hr12]
  by_cases q : fI T tk st ln 1 j = none ∧ fI T tk st ln 2 j = none
  · rw [if_pos q] at ee
    have eli : liN T tk st ln j = -1 := by unfold liN; rw [q.1, q.2]
    rw [eli] at hnm
    rcases h7 with q7 | q7
    · rw [if_pos q7] at hr
      rw [hr] at ee
      rw [q7]
      by_cases q8 : (cN tk 1 j).length = 8
      · rw [if_pos q8] at ee
        rw [ee]
        refine ⟨w, ?_, fk_rf, fun e => by cases e⟩
        unfold f_X5_errorOfNewName
        refine bd1T hnm (brT rfl (brT rfl (sqT (brT rfl (brT rfl (brT ?_ rfl))))))
        rw [a1, q8]; decide
      · rw [if_neg q8] at ee
        rw [ee]
        refine ⟨_, ?_, fk_10, fun _ => ci_newH hB h h3 hr (by omega)⟩
        unfold f_X5_errorOfNewName
        refine bd1T hnm (brT rfl (brT rfl (sqT (brT rfl (brT rfl ?_)))))
        rw [a1]
        refine brF (by (simp (disch := omega) only [lit_nI, nI_leI, nI_ltI, nI_eq, nI_clamp, nI_add, nI_sub, vB_nI, Nat.add_sub_cancel, Nat.reduceSub, Nat.reduceLT, Nat.reduceLeDiff, Nat.reduceAdd, gI_pI, p2_pI, Nat.reduceEqDiff, false_and, and_false, true_and, and_true, if_false, if_true, and_self] <;> omega)) (brF (nI_pos (by omega)) (brT (by (simp (disch := omega) only [lit_nI, nI_leI, nI_ltI, nI_eq, nI_clamp, nI_add, nI_sub, vB_nI, Nat.add_sub_cancel, Nat.reduceSub, Nat.reduceLT, Nat.reduceLeDiff, Nat.reduceAdd, gI_pI, p2_pI, Nat.reduceEqDiff, false_and, and_false, true_and, and_true, if_false, if_true, and_self] <;> omega)) (gdT ((vB_nI (by omega)).mpr (by omega)) ?_)))
        rw [nI_clamp (by omega)]
        rfl
    · rw [if_neg (by omega), if_pos q7] at hr
      rw [hr] at ee
      rw [q7]
      by_cases q8 : (cN tk 2 j).length = 8
      · rw [if_pos q8] at ee
        rw [ee]
        refine ⟨w, ?_, fk_rf, fun e => by cases e⟩
        unfold f_X5_errorOfNewName
        refine bd1T hnm (brT rfl (brF (by decide) (sqT (brF (by decide) (brF (by decide) (sqT (brT ?_ rfl)))))))
        rw [a2, q8]; decide
      · rw [if_neg q8] at ee
        rw [ee]
        refine ⟨_, ?_, fk_10, fun _ => ci_newR hB h h3 hr (by omega)⟩
        unfold f_X5_errorOfNewName
        refine bd1T hnm (brT rfl (brF (by decide) (sqT (brF (by decide) (brF (by decide) ?_)))))
        rw [a2, show (8 : Int32) = nI 8 from rfl, nI_add]
        refine sqT (brF ?_ (brF (nI_pos (by omega)) (brT ?_ (gdT ((vB_nI (by omega)).mpr (by omega)) ?_))))
        · rw [nI_leI (by omega) (by omega)]; omega
        · rw [show (16 : Int32) = nI 16 from rfl, nI_ltI (by omega) (by omega)]; omega
        · rw [nI_clamp (by omega)]
          rfl
  · rw [if_neg q] at ee
    rw [ee]
    refine ⟨w, ?_, fk_rf, fun e => by cases e⟩
    have hne : ¬ liN T tk st ln j = -1 := by
      rcases hli with ⟨i, e1, e2, e3, e4⟩ | ⟨e0, i, e1, e2, e3, e4⟩ | ⟨e1, e2, e3⟩
      · rw [e3, nI_m1 (by omega)]; exact fun h => h
      · rw [e3, nI_m1 (by omega)]; exact fun h => h
      · exact (q ⟨e1, e2⟩).elim
    unfold f_X5_errorOfNewName
    exact bd1T hnm (brF hne rfl)
/-- a number -/
theorem c_num (hT : TKF T tk st ln N) {j : Nat} {w : Mm} (hj : j < N) (h4 : tk j = 4) (hB : ∀ u, u ≤ j → BS tk u) (h : CI T tk st ln N z j w) : ∃ w', f_X5_errorOfNumber (nva T st ln j) (pk tk j) z w = some (nI (ec T tk st ln j), w') ∧ FK z w w' ∧ (ec T tk st ln j = 0 → CI T tk st ln N z (j + 1) w') := by
  obtain ⟨⟨c5, c4, c7, c8⟩, ⟨a1, a2, a3, a4⟩, _⟩ := id h
  have hr := rol4 h4
  have hv := nva_lt hT hj h4
  have env : nva T st ln j = nI (nV 0 (nm T st ln j)) := rfl
  by_cases q0 : j = 0
  · subst q0
    rw [if_pos rfl] at hr
    have ee : ec T tk st ln 0 = 0 := by
      unfold ec
      rw [if_neg (by omega), if_neg (by omega), if_neg (by omega), if_neg (by omega), if_neg (by omega), if_neg (by omega)]
    rw [ee]
    refine ⟨w, ?_, fk_rf, fun _ => ci_same hB h hr (by unfold isO; omega) (by omega)⟩
    have hp : pk tk 0 = 1 := rfl
    unfold f_X5_errorOfNumber
    rw [hp]
    exact brF (by decide) (brF (by decide) rfl)
  · rw [if_neg q0] at hr
    have epk : pk tk j = tk (j - 1) := by unfold pk; rw [if_neg q0]
    rw [epk]
    by_cases q8 : tk (j - 1) = 8 ∨ tk (j - 1) = 10
    · rw [if_pos q8] at hr
      have ee : ec T tk st ln j = if 1 ≤ nV 0 (nm T st ln j) ∧ nV 0 (nm T st ln j) ≤ 9 then 0 else 5 := by
        unfold ec
        rw [if_neg (by omega), if_neg (by omega), if_neg (by omega), if_neg (by omega), if_neg (by omega), if_pos hr]
      by_cases qv : 1 ≤ nV 0 (nm T st ln j) ∧ nV 0 (nm T st ln j) ≤ 9
      · rw [if_pos qv] at ee
        rw [ee]
        have v1 : ¬ nva T st ln j < 1 := by rw [env, show (1 : Int32) = nI 1 from rfl, nI_ltI (by omega) (by omega)]; omega
        have v9 : nva T st ln j ≤ 9 := by rw [env, show (9 : Int32) = nI 9 from rfl, nI_leI (by omega) (by omega)]; omega
        rcases q8 with q8 | q8
        · obtain ⟨hl, hc⟩ := ci_numH hB h h4 (by omega) q8
          refine ⟨pI (pI w 26 z (cN tk 1 (j - 2)).length (nva T st ln j)) 25 z 2 (nI ((cN tk 1 (j - 2)).length + 1)), ?_, ⟨fun c k i q1 q2 q3 q4 => ?_, fun _ _ _ _ => rfl, rfl⟩, fun _ => hc⟩
          · unfold f_X5_errorOfNumber
            rw [q8]
            refine brT rfl (brF v1 (brT v9 (brT rfl (bd0T (w := pI (pI w 26 z (cN tk 1 (j - 2)).length (nva T st ln j)) 25 z 2 (nI ((cN tk 1 (j - 2)).length + 1))) ?_ rfl))))
            unfold f_X8_addHedge
            rw [a1]
            refine brF (nI_pos (by omega)) (brF (by (simp (disch := omega) only [lit_nI, nI_leI, nI_ltI, nI_eq, nI_clamp, nI_add, nI_sub, vB_nI, Nat.add_sub_cancel, Nat.reduceSub, Nat.reduceLT, Nat.reduceLeDiff, Nat.reduceAdd, gI_pI, p2_pI, Nat.reduceEqDiff, false_and, and_false, true_and, and_true, if_false, if_true, and_self] <;> omega)) (gdT ((vB_nI (by omega)).mpr hl) ?_))
            rw [nI_clamp (by omega)]
            refine sqT ?_
            rw [gI_pI, if_neg (by omega), a1, nI_1]
            rfl
          · rw [gI_pI, if_neg (by omega), gI_pI, if_neg (by omega)]
        · obtain ⟨hl, hc⟩ := ci_numR hB h h4 (by omega) q8
          refine ⟨pI (pI w 27 z (cN tk 2 (j - 2)).length (nva T st ln j)) 25 z 3 (nI ((cN tk 2 (j - 2)).length + 1)), ?_, ⟨fun c k i q1 q2 q3 q4 => ?_, fun _ _ _ _ => rfl, rfl⟩, fun _ => hc⟩
          · unfold f_X5_errorOfNumber
            rw [q8]
            refine brF (by decide) (brT rfl (brF v1 (brT v9 (brF (by decide) (bd0T (w := pI (pI w 27 z (cN tk 2 (j - 2)).length (nva T st ln j)) 25 z 3 (nI ((cN tk 2 (j - 2)).length + 1))) ?_ rfl)))))
            unfold f_X8_addRose
            rw [a2]
            refine brF (nI_pos (by omega)) (brF (by (simp (disch := omega) only [lit_nI, nI_leI, nI_ltI, nI_eq, nI_clamp, nI_add, nI_sub, vB_nI, Nat.add_sub_cancel, Nat.reduceSub, Nat.reduceLT, Nat.reduceLeDiff, Nat.reduceAdd, gI_pI, p2_pI, Nat.reduceEqDiff, false_and, and_false, true_and, and_true, if_false, if_true, and_self] <;> omega)) (gdT ((vB_nI (by omega)).mpr hl) ?_))
            rw [nI_clamp (by omega)]
            refine sqT ?_
            rw [gI_pI, if_neg (by omega), a2, nI_1]
            rfl
          · rw [gI_pI, if_neg (by omega), gI_pI, if_neg (by omega)]
      · rw [if_neg qv] at ee
        rw [ee]
        refine ⟨w, ?_, fk_rf, fun e => by cases e⟩
        have tail : ∀ A : Option (Int32 × Mm), br (nva T st ln j < 1) (some (5, w)) (br (nva T st ln j ≤ 9) A (some (5, w))) = some (5, w) := fun A => by
          by_cases v1 : nva T st ln j < 1
          · exact brT v1 rfl
          · refine brF v1 (brF ?_ rfl)
            rw [env, show (1 : Int32) = nI 1 from rfl, nI_ltI (by omega) (by omega)] at v1
            rw [env, show (9 : Int32) = nI 9 from rfl, nI_leI (by omega) (by omega)]
            omega
        unfold f_X5_errorOfNumber
        rcases q8 with q8 | q8
        · rw [q8]; exact brT rfl (tail _)
        · rw [q8]; exact brF (by decide) (brT rfl (tail _))
    · rw [if_neg q8] at hr
      have ee : ec T tk st ln j = 0 := by
        unfold ec
        rw [if_neg (by omega), if_neg (by omega), if_neg (by omega), if_neg (by omega), if_neg (by omega), if_neg (by omega)]
      rw [ee]
      refine ⟨w, ?_, fk_rf, fun _ => ci_same hB h hr (by unfold isO; omega) (by omega)⟩
      unfold f_X5_errorOfNumber
      exact brF (by omega) (brF (by omega) rfl)
/-- a token -/
theorem c_err (hT : TKF T tk st ln N) {j : Nat} {w : Mm} (hj : j < N) (hB : ∀ u, u ≤ j → BS tk u) (h0 : ∀ u, u < j → ec T tk st ln u = 0) (h : CI T tk st ln N z j w) : ∃ w', f_X5_errorOf (nI j) z w = some (nI (ec T tk st ln j), w') ∧ FK z w w' ∧ (ec T tk st ln j = 0 → CI T tk st ln N z (j + 1) w') := by
  obtain ⟨p1, p2, p3, p4, p5⟩ := id hT
  obtain ⟨⟨c5, c4, c7, c8⟩, ⟨a1, a2, a3, a4⟩, _, _, ⟨d1, d2⟩, _⟩ := id h
  have hkk := (p4 j hj).1
  have run : ∀ X, br ((if isO (tk j) then (1 : Int32) else 0) = 0) (br (tk j = 4) (bd1 (f_X11_meaning (nI j) w) (fun r18 w19 => bd1 (f_X5_errorOfNumber r18 (pk tk j) z w19) (fun r20 w21 => some (r20, w21)))) (br (tk j = 3) (br (pk tk j = 7) (bd1 (f_X11_key (nI j) w) (fun r8 w9 => bd1 (f_X5_errorOfNewName r8 (pk tk j) z w9) (fun r10 w11 => some (r10, w11)))) (br (pk tk j = 9) (bd1 (f_X11_key (nI j) w) (fun r14 w15 => bd1 (f_X5_errorOfNewName r14 (pk tk j) z w15) (fun r16 w17 => some (r16, w17)))) (bd1 (f_X5_errorOfOldName (nI j) z w) (fun r12 w13 => some (r12, w13))))) (some (0, w)))) (sq (pI w 9 0 1 ((gI w 9 0 1) + 1)) (fun w22 => br ((gI w22 9 0 1) ≤ 16) (some (0, w22)) (some (4, w22)))) = X → f_X5_errorOf (nI j) z w = X := fun X hX => by
    unfold f_X5_errorOf
    refine bd1T (c_kind c4 c5 p2 hj) (bd1T (c_kindP c4 c5 p2 hj) (gdT (kok_of ⟨hkk.1, hkk.2.1⟩) (bd1T (x := if isO (tk j) then 1 else 0) (w := w) ?_ hX)))
    unfold f_X4_isOrder
    by_cases q11 : tk j = 11
    · rw [if_pos (by unfold isO; omega)]; exact brT q11 rfl
    · by_cases q12 : tk j = 12
      · rw [if_pos (by unfold isO; omega)]; exact brF q11 (brT q12 rfl)
      · by_cases q14 : tk j = 14
        · rw [if_pos (by unfold isO; omega)]; exact brF q11 (brF q12 (brT q14 rfl))
        · rw [if_neg (by unfold isO; omega)]; exact brF q11 (brF q12 (brF q14 rfl))
  by_cases hO : isO (tk j)
  · rw [if_pos hO] at run
    have ee : ec T tk st ln j = if cO tk j = 16 then 4 else 0 := by
      unfold ec
      rw [if_pos (rolO hO)]
    rw [d1, nI_1] at run
    have e9 : gI (pI w 9 0 1 (nI (cO tk j + 1))) 9 0 1 = nI (cO tk j + 1) := by rw [gI_pI, if_pos ⟨rfl, rfl, rfl⟩]
    have f9 : FK z w (pI w 9 0 1 (nI (cO tk j + 1))) := ⟨fun c k i q1 q2 q3 q4 => by rw [gI_pI, if_neg (by omega)], fun _ _ _ _ => rfl, rfl⟩
    by_cases q : cO tk j = 16
    · rw [if_pos q] at ee
      rw [ee]
      refine ⟨_, run _ (brF (by decide) (sqT (brF ?_ rfl))), f9, fun e => by cases e⟩
      rw [e9, q]; decide
    · rw [if_neg q] at ee
      rw [ee]
      refine ⟨_, run _ (brF (by decide) (sqT (brT ?_ rfl))), f9, fun _ => ci_ord hB h hO q⟩
      rw [e9, show (16 : Int32) = nI 16 from rfl, nI_leI (by omega) (by omega)]; omega
  · rw [if_neg hO] at run
    by_cases q4 : tk j = 4
    · obtain ⟨w', t1, t2⟩ := c_num hT hj q4 hB h
      have hm := c_meaning (w := w) c4 p2 hj
      rw [c8 j hj q4] at hm
      exact ⟨w', run _ (brT rfl (brT q4 (bd1T hm (bd1T t1 rfl)))), t2⟩
    · by_cases q3 : tk j = 3
      · have hb := (hB j (Nat.le_refl _)).1 q3
        have epk : pk tk j = tk (j - 1) := by unfold pk; rw [if_neg (by omega)]
        rw [epk] at run
        have hkey := c_keyA (w := w) c4 p2 hj
        rw [c7 j hj q3] at hkey
        by_cases q7 : tk (j - 1) = 7
        · obtain ⟨w', t1, t2⟩ := c_new hT hj q3 hB h (Or.inl q7)
          exact ⟨w', run _ (brT rfl (brF q4 (brT q3 (brT q7 (bd1T hkey (bd1T t1 rfl)))))), t2⟩
        · by_cases q9 : tk (j - 1) = 9
          · obtain ⟨w', t1, t2⟩ := c_new hT hj q3 hB h (Or.inr q9)
            exact ⟨w', run _ (brT rfl (brF q4 (brT q3 (brF q7 (brT q9 (bd1T hkey (bd1T t1 rfl))))))), t2⟩
          · obtain ⟨w', t1, t2⟩ := c_old hT hj q3 hB h0 h q7 q9
            exact ⟨w', run _ (brT rfl (brF q4 (brT q3 (brF q7 (brF q9 (bd1T t1 rfl)))))), t2⟩
      · have hr := rolX q3 q4 hO
        have ee : ec T tk st ln j = 0 := by
          unfold ec
          rw [if_neg (by omega), if_neg (by omega), if_neg (by omega), if_neg (by omega), if_neg (by omega), if_neg (by omega)]
        rw [ee]
        exact ⟨w, run _ (brT rfl (brF q4 (brF q3 rfl))), fk_rf, fun _ => ci_same hB h hr hO q3⟩
theorem c_chkL (hT : TKF T tk st ln N) (hB : ∀ u, u + 1 < N → BS tk u) (h1 : ∀ u, u < N → (tk u = 1 ↔ u + 1 = N)) : ∀ (d u f : Nat) (w : Mm), u + d + 1 = N → d < f → (∀ v, v < u → ec T tk st ln v = 0) → CI T tk st ln N z u w → ∃ t y7 y8 w', f_X5_check_L7 z f (nI u) w = some (t, y7, y8, w') ∧ FK z w w' ∧ (match fnd (fun j => decide (ec T tk st ln j ≠ 0)) d u with
    | some j => t = 0 ∧ y7 = nI j ∧ y8 = nI (ec T tk st ln j)
    | none => t = 1 ∧ CI T tk st ln N z (N - 1) w')
  | 0, u, f + 1, w, e, hf, h0, h => by
    obtain ⟨p1, p2, p3, p4, p5⟩ := id hT
    have h' := h
    rw [show u = N - 1 by omega] at h'
    obtain ⟨⟨c5, c4, c7, c8⟩, _⟩ := id h
    rw [f_X5_check_L7]
    by_cases q : u = 400
    · exact ⟨1, nI u, 0, w, brT (by subst q; decide) rfl, fk_rf, rfl, h'⟩
    · refine ⟨1, nI u, 0, w, brF ?_ (bd1T (c_kind c4 c5 p2 (by omega)) (brT ((h1 u (by omega)).mpr (by omega)) rfl)), fk_rf, rfl, h'⟩
      rw [show (400 : Int32) = nI 400 from rfl, nI_leI (by omega) (by omega)]; omega
  | d + 1, u, f + 1, w, e, hf, h0, h => by
    obtain ⟨p1, p2, p3, p4, p5⟩ := id hT
    obtain ⟨⟨c5, c4, c7, c8⟩, _⟩ := id h
    obtain ⟨w1, t1, t2, t3⟩ := c_err hT (by omega) (fun v hv => hB v (by omega)) h0 h
    rw [f_X5_check_L7]
    have hlt : ¬ (400 : Int32) ≤ nI u := by rw [show (400 : Int32) = nI 400 from rfl, nI_leI (by omega) (by omega)]; omega
    have hk1 : ¬ tk u = 1 := fun e => by have := (h1 u (by omega)).mp e; omega
    rw [fnd]
    have hec : ec T tk st ln u ≤ 5 := by
      unfold ec
      repeat' split
      all_goals omega
    by_cases q : ec T tk st ln u = 0
    · have q' : ¬ (decide (ec T tk st ln u ≠ 0) = true) := by simp [q]
      rw [if_neg q']
      obtain ⟨t, y7, y8, w', k1, k2, k3⟩ := c_chkL hT hB h1 d (u + 1) f w1 (by omega) (by omega) (fun v hv => by
        by_cases qv : v = u
        · subst qv; exact q
        · exact h0 v (by omega)) (t3 q)
      refine ⟨t, y7, y8, w', brF hlt (bd1T (c_kind c4 c5 p2 (by omega)) (brF hk1 (bd1T t1 (brT (by rw [q]; rfl) (sqT ?_))))), fk_tr t2 k2, k3⟩
      rw [nI_1]; exact k1
    · have q' : decide (ec T tk st ln u ≠ 0) = true := by simp [q]
      rw [if_pos q']
      refine ⟨0, nI u, nI (ec T tk st ln u), w1, brF hlt (bd1T (c_kind c4 c5 p2 (by omega)) (brF hk1 (bd1T t1 (brF ?_ rfl)))), t2, rfl, rfl, rfl⟩
      rw [show (0 : Int32) = nI 0 from rfl, nI_eq (by omega) (by omega)]; exact q
/-- the first token with an error, if any -/
def fE (T : List Nat) (tk st ln : Nat → Nat) (N : Nat) : Option Nat := fnd (fun j => decide (ec T tk st ln j ≠ 0)) (N - 1) 0
theorem c_check (hT : TKF T tk st ln N) (hB : ∀ u, u + 1 < N → BS tk u) (h1 : ∀ u, u < N → (tk u = 1 ↔ u + 1 = N)) {w : Mm} (h : CI T tk st ln N z 0 (pI w 9 0 1 0)) : ∃ r w', f_X5_check z w = some (r, w') ∧ FK z w w' ∧ (match fE T tk st ln N with
    | some j => r = nI (ec T tk st ln j) ∧ gI w' 9 0 2 = nI j
    | none => r = 0 ∧ CI T tk st ln N z (N - 1) w') := by
  obtain ⟨p1, p2, p3, p4, p5⟩ := id hT
  obtain ⟨t, y7, y8, w1, k1, k2, k3⟩ := c_chkL hT hB h1 (N - 1) 0 LF _ (by omega) (by unfold LF; omega) (fun v hv => by omega) h
  have f0 : FK z w (pI w 9 0 1 0) := ⟨fun c k i q1 q2 q3 q4 => by rw [gI_pI, if_neg (by omega)], fun _ _ _ _ => rfl, rfl⟩
  have run : ∀ X, br (t = 0) (sq (pI w1 9 0 2 y7) (fun w11 => some (y8, w11))) (some (0, w1)) = X → f_X5_check z w = X := fun X hX => by
    unfold f_X5_check
    refine sqT ?_
    rw [show (0 : Int32) = nI 0 from rfl] at k1 ⊢
    rw [k1]
    exact hX
  unfold fE
  match fnd (fun j => decide (ec T tk st ln j ≠ 0)) (N - 1) 0, k3 with
  | some j, k3 =>
    obtain ⟨g1, g2, g3⟩ := k3
    subst g1
    refine ⟨y8, _, run _ (brT rfl rfl), fk_tr f0 (fk_tr k2 ⟨fun c k i q1 q2 q3 q4 => by rw [gI_pI, if_neg (by omega)], fun _ _ _ _ => rfl, rfl⟩), g3, ?_⟩
    rw [gI_pI, if_pos ⟨rfl, rfl, rfl⟩, g2]
  | none, k3 =>
    obtain ⟨g1, g2⟩ := k3
    subst g1
    exact ⟨0, w1, run _ (brF (by decide) rfl), fk_tr f0 k2, rfl, g2⟩
end CNAMES
