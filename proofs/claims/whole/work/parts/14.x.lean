-- THE PURE PART: the reference's check of the names
section RNAMES
variable {T : List Nat} {tk st ln : Nat → Nat} {N p : Nat}
theorem b_of (hK : TKF T tk st ln N) {j : Nat} {w : Mm} (hB : ∀ u, u ≤ j → BS tk u) (hj : j + 1 < N) (h3 : tk j = 3) (h : RI T tk st ln N p j w) (hr : rol tk j = 4 ∨ rol tk j = 5) : ∃ w', f_X15_ofOrder (nI j) (if rol tk j = 4 then 1 else 0) w = some (nI (ec T tk st ln j), w') ∧ FN p w w' ∧ (ec T tk st ln j = 0 → RI T tk st ln N p (j + 1) w') := by
  obtain ⟨m1, m2⟩ := ri_3 h
  obtain ⟨_, _, _, ⟨d1, d2⟩, _⟩ := id h
  obtain ⟨p1, p2, p3, p4, p5⟩ := id hK
  have s44 := m2 44 (by omega) (by omega)
  have s48 := m2 48 (by omega) (by omega)
  have s49 := m2 49 (by omega) (by omega)
  have hb := (hB j (Nat.le_refl _)).1 h3
  have hrn := rolN h3 hb.1
  -- the order before the name
  obtain ⟨b, hob, hc, hcO⟩ : ∃ b, isO (tk b) ∧ ((j = b + 1 ∧ (if rol tk j = 4 then 48 else 49) = (if tk b = 14 then 49 else 48)) ∨ (j = b + 3 ∧ tk b ≠ 14 ∧ tk (b + 2) = 13 ∧ (if rol tk j = 4 then 48 else 49) = 49)) ∧ cO tk j = cO tk b + 1 := by
    rw [if_neg (fun q => by rw [if_pos q] at hrn; omega)] at hrn
    rw [if_neg (fun q => by rw [if_pos q] at hrn; omega)] at hrn
    by_cases q13 : tk (j - 1) = 13
    · have hb13 := (hB (j - 1) (by omega)).2.2.2.2.2 q13
      obtain ⟨b, rfl⟩ : ∃ b, j = b + 3 := ⟨j - 3, by omega⟩
      rw [show b + 3 - 1 = b + 2 by omega] at hb13 q13 hrn
      rw [show b + 2 - 1 = b + 1 by omega, show b + 2 - 2 = b by omega] at hb13
      rw [if_neg (by omega), if_pos (by omega)] at hrn
      refine ⟨b, by unfold isO; omega, Or.inr ⟨rfl, by omega, q13, by rw [if_neg (by omega)]⟩, ?_⟩
      rw [show b + 3 = (b + 2) + 1 from rfl, cO_s, if_neg (by unfold isO; omega), show b + 2 = (b + 1) + 1 from rfl, cO_s, if_neg (by unfold isO; omega), cO_s, if_pos (by unfold isO; omega)]
    · obtain ⟨b, rfl⟩ : ∃ b, j = b + 1 := ⟨j - 1, by omega⟩
      rw [Nat.add_sub_cancel] at hrn q13 hb
      have hob : isO (tk b) := by
        unfold isO
        by_cases q : tk b = 11 ∨ tk b = 12
        · omega
        · rw [if_neg q] at hrn
          by_cases q2 : tk b = 13 ∨ tk b = 14
          · omega
          · rw [if_neg q2] at hrn
            split at hrn
            · omega
            · split at hrn
              · split at hrn <;> omega
              · omega
      refine ⟨b, hob, Or.inl ⟨rfl, ?_⟩, by rw [cO_s, if_pos hob]⟩
      rw [rol_o1 hob h3]
      by_cases q : tk b = 14
      · rw [if_pos q, if_neg (by decide), if_pos q]
      · rw [if_neg q, if_pos rfl, if_neg q]
  have e4 : ∀ v, gI (pI w 38 0 j v) 44 p 4 = nI (cO tk j) := fun v => by rw [gI_pI, if_neg (by omega)]; exact d1
  have e1 : ∀ v, gR (pI w 38 0 j v) 32 0 12 = p + 1 := fun v => m1
  have e38 : ∀ v, gI (pI w 38 0 j v) 38 0 j = v := fun v => by rw [gI_pI, if_pos ⟨rfl, rfl, rfl⟩]
  have hpr : nI (cO tk j) - 1 = nI (cO tk b) := by rw [nI_pr (by omega), hcO, Nat.add_sub_cancel]
  have hv : vB (nI (cO tk b)) 16 = true := (vB_nI (by omega)).mpr (by omega)
  have hvj : vB (nI j) 401 = true := (vB_nI (by omega)).mpr (by omega)
  by_cases r4 : rol tk j = 4
  · rw [if_pos r4] at hc ⊢
    obtain ⟨v, k1, k2⟩ := b_look11 hK hj h3 h (Or.inl r4)
    refine ⟨pI (pI w 38 0 j v) 48 p (cO tk b) v, ?_, fn_p (fn_p fn_rf (by omega)) (by omega), fun q => ?_⟩
    · unfold f_X15_ofOrder
      refine bd1T k1 (brF (by decide) ?_)
      rw [e1]
      refine gdT vok44 (sqT (gdT (by rw [Nat.add_sub_cancel]; exact s44) (gdT vok44 (sqT (gdT (by rw [Nat.add_sub_cancel]; exact s44) (gdT hvj ?_))))))
      rw [Nat.add_sub_cancel, e4, hpr]
      refine gdT hv (gdT s48 ?_)
      rw [nI_clamp (by omega), nI_clamp (by omega), e38]
      rfl
    · rw [k2 q]
      exact ri_of h h3 hob hc (by omega)
  · rw [if_neg r4] at hc ⊢
    have r5 : rol tk j = 5 := by omega
    obtain ⟨v, k1, k2⟩ := b_look10 hK hj h3 h (Or.inl r5)
    refine ⟨pI (pI w 38 0 j v) 49 p (cO tk b) v, ?_, fn_p (fn_p fn_rf (by omega)) (by omega), fun q => ?_⟩
    · unfold f_X15_ofOrder
      refine bd1T k1 (brT rfl ?_)
      rw [e1]
      refine gdT vok44 (sqT (gdT (by rw [Nat.add_sub_cancel]; exact s44) (gdT vok44 (sqT (gdT (by rw [Nat.add_sub_cancel]; exact s44) (gdT hvj ?_))))))
      rw [Nat.add_sub_cancel, e4, hpr]
      refine gdT hv (gdT s49 ?_)
      rw [nI_clamp (by omega), nI_clamp (by omega), e38]
      rfl
    · rw [k2 q]
      exact ri_of h h3 hob hc (by omega)
theorem b_range (hK : TKF T tk st ln N) {j : Nat} {w : Mm} (hj : j + 1 < N) (h4 : tk j = 4) (h : RI T tk st ln N p j w) (hr : rol tk j = 9) : f_X15_inRange (nI j) 1 9 w = some (nI (ec T tk st ln j), w) := by
  have hv := nva_lt hK (by omega) h4
  have env : nva T st ln j = nI (nV 0 (nm T st ln j)) := rfl
  have ee : ec T tk st ln j = if 1 ≤ nV 0 (nm T st ln j) ∧ nV 0 (nm T st ln j) ≤ 9 then 0 else 5 := by
    unfold ec
    rw [if_neg (by omega), if_neg (by omega), if_neg (by omega), if_neg (by omega), if_neg (by omega), if_pos hr]
  have hnum := b_numR hK h.1.1 (by omega) h4
  unfold f_X15_inRange
  rw [ee]
  refine bd1T hnum ?_
  by_cases q1 : nV 0 (nm T st ln j) < 1
  · rw [if_neg (by omega)]
    refine bd1T (x := 0) (w := w) ?_ (brT rfl rfl)
    unfold f_X15_isIn
    exact brT (by rw [env, show (1 : Int32) = nI 1 from rfl, nI_ltI (by omega) (by omega)]; exact q1) rfl
  · by_cases q9 : 9 < nV 0 (nm T st ln j)
    · rw [if_neg (by omega)]
      refine bd1T (x := 0) (w := w) ?_ (brT rfl rfl)
      unfold f_X15_isIn
      exact brF (by rw [env, show (1 : Int32) = nI 1 from rfl, nI_ltI (by omega) (by omega)]; exact q1) (brT (by rw [env, show (9 : Int32) = nI 9 from rfl, nI_ltI (by omega) (by omega)]; exact q9) rfl)
    · rw [if_pos (by omega)]
      refine bd1T (x := 1) (w := w) ?_ (brF (by decide) rfl)
      unfold f_X15_isIn
      exact brF (by rw [env, show (1 : Int32) = nI 1 from rfl, nI_ltI (by omega) (by omega)]; exact q1) (brF (by rw [env, show (9 : Int32) = nI 9 from rfl, nI_ltI (by omega) (by omega)]; exact q9) rfl)
/-- a token -/
theorem b_err (hK : TKF T tk st ln N) {j : Nat} {w : Mm} (hB : ∀ u, u ≤ j → BS tk u) (hj : j + 1 < N) (h0 : ∀ u, u < j → ec T tk st ln u = 0) (h : RI T tk st ln N p j w) : ∃ w', f_X15_errorOf (nI j) w = some (nI (ec T tk st ln j), w') ∧ FN p w w' ∧ (ec T tk st ln j = 0 → RI T tk st ln N p (j + 1) w') := by
  obtain ⟨p1, p2, p3, p4, p5⟩ := id hK
  have h37 := h.1.1.2.2 j hj
  have h34 := h.1.2.1 j (by omega)
  have hv : vB (nI j) 401 = true := (vB_nI (by omega)).mpr (by omega)
  have run : ∀ r : Nat, rol tk j = r → ∀ X, (br (nI r = 0) (some (0, w)) (br (nI r = 1) (bd1 (f_X15_newHedge (nI j) w) (fun r2 w3 => some (r2, w3))) (br (nI r = 2) (bd1 (f_X15_newRose (nI j) w) (fun r4 w5 => some (r4, w5))) (br (nI r = 3) (gd (vB (nI j) 401) (bd1 (f_X15_newOrder (mk (tk j)) w) (fun r7 w8 => some (r7, w8)))) (br (nI r = 4) (bd1 (f_X15_ofOrder (nI j) 1 w) (fun r9 w10 => some (r9, w10))) (br (nI r = 5) (bd1 (f_X15_ofOrder (nI j) 0 w) (fun r11 w12 => some (r11, w12))) (br (nI r = 6) (bd1 (f_X15_look (nI j) 1 1 w) (fun r13 w14 => some (r13, w14))) (br (nI r = 7) (bd1 (f_X15_look (nI j) 1 0 w) (fun r15 w16 => some (r15, w16))) (br (nI r = 8) (bd1 (f_X15_look (nI j) 0 1 w) (fun r17 w18 => some (r17, w18))) (bd1 (f_X15_inRange (nI j) 1 9 w) (fun r19 w20 => some (r19, w20)))))))))))) = X → f_X15_errorOf (nI j) w = X := fun r hr X hX => by
    unfold f_X15_errorOf
    rw [nI_clamp (by omega), h37, hr, h34]
    exact gdT hv hX
  by_cases hO : isO (tk j)
  · obtain ⟨w', t1, t2⟩ := b_newOrder h hO
    exact ⟨w', run 3 (rolO hO) _ (brF (by decide) (brF (by decide) (brF (by decide) (brT rfl (gdT hv (bd1T t1 rfl)))))), t2⟩
  · by_cases q4 : tk j = 4
    · have hr := rol4 q4
      by_cases q9 : rol tk j = 9
      · have hrg := b_range hK hj q4 h q9
        exact ⟨w, run 9 q9 _ (brF (by decide) (brF (by decide) (brF (by decide) (brF (by decide) (brF (by decide) (brF (by decide) (brF (by decide) (brF (by decide) (brF (by decide) (bd1T hrg rfl)))))))))), fn_rf, fun _ => ri_same h (Or.inr q9) hO (fun q => by omega)⟩
      · have r0 : rol tk j = 0 := by
          split at hr
          · exact hr
          · split at hr
            · exact (q9 hr).elim
            · exact hr
        have ee : ec T tk st ln j = 0 := by
          unfold ec
          rw [if_neg (by omega), if_neg (by omega), if_neg (by omega), if_neg (by omega), if_neg (by omega), if_neg (by omega)]
        rw [ee]
        exact ⟨w, run 0 r0 _ (brT rfl rfl), fn_rf, fun _ => ri_same h (Or.inl r0) hO (fun q => r0)⟩
    · by_cases q3 : tk j = 3
      · have hb := (hB j (Nat.le_refl _)).1 q3
        have hr := rolN q3 hb.1
        by_cases q7 : tk (j - 1) = 7
        · rw [if_pos q7] at hr
          obtain ⟨w', t1, t2⟩ := b_newHedge hK hB hj q3 h q7
          exact ⟨w', run 1 hr _ (brF (by decide) (brT rfl (bd1T t1 rfl))), t2⟩
        · rw [if_neg q7] at hr
          by_cases q9 : tk (j - 1) = 9
          · rw [if_pos q9] at hr
            obtain ⟨w', t1, t2⟩ := b_newRose hK hB hj q3 h q9
            exact ⟨w', run 2 hr _ (brF (by decide) (brF (by decide) (brT rfl (bd1T t1 rfl)))), t2⟩
          · rw [if_neg q9] at hr
            have hlook : ∀ {F : Option (Int32 × Mm)}, (6 ≤ rol tk j ∧ rol tk j ≤ 8) → (∃ v, F = some (nI (ec T tk st ln j), pI w 38 0 j v) ∧ (ec T tk st ln j = 0 → v = nI (mB T tk st ln j))) → ∃ w', F = some (nI (ec T tk st ln j), w') ∧ FN p w w' ∧ (ec T tk st ln j = 0 → RI T tk st ln N p (j + 1) w') := fun hr ⟨v, k1, k2⟩ => ⟨_, k1, fn_p fn_rf (by omega), fun q => by rw [k2 q]; exact ri_look h q3 hr⟩
            by_cases q11 : tk (j - 1) = 11 ∨ tk (j - 1) = 12
            · rw [if_pos q11] at hr
              obtain ⟨w', t1, t2⟩ := b_of hK hB hj q3 h (Or.inl hr)
              rw [if_pos hr] at t1
              exact ⟨w', run 4 hr _ (brF (by decide) (brF (by decide) (brF (by decide) (brF (by decide) (brT rfl (bd1T t1 rfl)))))), t2⟩
            · rw [if_neg q11] at hr
              by_cases q13 : tk (j - 1) = 13 ∨ tk (j - 1) = 14
              · rw [if_pos q13] at hr
                obtain ⟨w', t1, t2⟩ := b_of hK hB hj q3 h (Or.inr hr)
                rw [if_neg (by omega)] at t1
                exact ⟨w', run 5 hr _ (brF (by decide) (brF (by decide) (brF (by decide) (brF (by decide) (brF (by decide) (brT rfl (bd1T t1 rfl))))))), t2⟩
              · rw [if_neg q13] at hr
                by_cases q24 : tk (j - 1) = 24
                · rw [if_pos q24] at hr
                  obtain ⟨w', t1, t2⟩ := hlook (by omega) (b_look11 hK hj q3 h (Or.inr hr))
                  exact ⟨w', run 6 hr _ (brF (by decide) (brF (by decide) (brF (by decide) (brF (by decide) (brF (by decide) (brF (by decide) (brT rfl (bd1T t1 rfl)))))))), t2⟩
                · rw [if_neg q24, if_pos (by omega)] at hr
                  by_cases q22 : tk (j - 2) = 22
                  · rw [if_pos q22] at hr
                    obtain ⟨w', t1, t2⟩ := hlook (by omega) (b_look01 hK hj q3 h0 h hr)
                    exact ⟨w', run 8 hr _ (brF (by decide) (brF (by decide) (brF (by decide) (brF (by decide) (brF (by decide) (brF (by decide) (brF (by decide) (brF (by decide) (brT rfl (bd1T t1 rfl)))))))))), t2⟩
                  · rw [if_neg q22] at hr
                    obtain ⟨w', t1, t2⟩ := hlook (by omega) (b_look10 hK hj q3 h (Or.inr hr))
                    exact ⟨w', run 7 hr _ (brF (by decide) (brF (by decide) (brF (by decide) (brF (by decide) (brF (by decide) (brF (by decide) (brF (by decide) (brT rfl (bd1T t1 rfl))))))))), t2⟩
      · have r0 := rolX q3 q4 hO
        have ee : ec T tk st ln j = 0 := by
          unfold ec
          rw [if_neg (by omega), if_neg (by omega), if_neg (by omega), if_neg (by omega), if_neg (by omega), if_neg (by omega)]
        rw [ee]
        exact ⟨w, run 0 r0 _ (brT rfl rfl), fn_rf, fun _ => ri_same h (Or.inl r0) hO (fun _ => r0)⟩
theorem b_pos9 {a r : Int32} {u : Nat} {w w' : Mm} (h : f_X15_errorOf a w = some (r, w')) (h9 : gI w 32 0 9 = nI u) : gI w' 32 0 9 = nI u := by
  rw [((fr_X15_errorOf a w _ h).1 32 (by decide) 0 9).1]; exact h9
theorem b_chkL (hK : TKF T tk st ln N) (hB : ∀ u, u + 1 < N → BS tk u) {b : Nat} : ∀ (d u f : Nat) (w : Mm), u + d + 1 = N → d < f → (∀ v, v < u → ec T tk st ln v = 0) → gI w 32 0 9 = nI u → RI T tk st ln N p u w → ∃ t y w', f_X15_read_L57 b (nI (N - 1)) f w = some (t, y, w') ∧ FN p w w' ∧ (match fnd (fun j => decide (ec T tk st ln j ≠ 0)) d u with
    | some j => t = 0 ∧ y = nI (ec T tk st ln j) ∧ gI w' 32 0 9 = nI j ∧ j + 1 < N
    | none => t = 1 ∧ RI T tk st ln N p (N - 1) w')
  | 0, u, f + 1, w, e, hf, h0, h9, h => by
    obtain ⟨p1, p2, p3, p4, p5⟩ := id hK
    rw [show u = N - 1 by omega] at h
    rw [f_X15_read_L57, h9]
    exact ⟨1, 0, w, brT (by rw [nI_leI (by omega) (by omega)]; omega) rfl, fn_rf, rfl, h⟩
  | d + 1, u, f + 1, w, e, hf, h0, h9, h => by
    obtain ⟨p1, p2, p3, p4, p5⟩ := id hK
    obtain ⟨w1, t1, t2, t3⟩ := b_err hK (fun v hv => hB v (by omega)) (by omega) h0 h
    rw [f_X15_read_L57, h9]
    have hlt : ¬ nI (N - 1) ≤ nI u := by rw [nI_leI (by omega) (by omega)]; omega
    rw [fnd]
    have hec := ec5 (T := T) (tk := tk) (st := st) (ln := ln) (j := u)
    by_cases q : ec T tk st ln u = 0
    · have q' : ¬ (decide (ec T tk st ln u ≠ 0) = true) := by simp [q]
      rw [if_neg q']
      have hw9 : gI w1 32 0 9 = nI u := b_pos9 t1 h9
      obtain ⟨t, y, w', k1, k2, k3⟩ := b_chkL hK hB (b := b) d (u + 1) f (pI w1 32 0 9 (nI (u + 1))) (by omega) (by omega) (fun v hv => by
        by_cases qv : v = u
        · subst qv; exact q
        · exact h0 v (by omega)) (by rw [gI_pI, if_pos ⟨rfl, rfl, rfl⟩]) (ri_9 (t3 q))
      refine ⟨t, y, w', brF hlt (bd1T t1 (brT (by rw [q]; rfl) ?_)), fn_tr t2 (fn_tr (fn_p fn_rf (by omega)) k2), k3⟩
      rw [hw9, nI_1]
      exact sqT k1
    · have q' : decide (ec T tk st ln u ≠ 0) = true := by simp [q]
      rw [if_pos q']
      have hw9 : gI w1 32 0 9 = nI u := b_pos9 t1 h9
      refine ⟨0, nI (ec T tk st ln u), w1, brF hlt (bd1T t1 (brF ?_ rfl)), t2, rfl, rfl, hw9, by omega⟩
      rw [show (0 : Int32) = nI 0 from rfl, nI_eq (by omega) (by omega)]; exact q
end RNAMES
