-- THE PURE PART: the class's tests
section CPARSE
variable {tk : Nat → Nat} {N z n : Nat}
theorem cl4_step (hN : ∀ j, j + 1 ≤ N → (tk j = 1 ∨ tk j = 2) ∨ j + 2 ≤ N) (hg : ∀ n v d w a, v ≤ 5 → a + 1 ≤ N → Gz N n v w a (PZ tk n v d w a)) (h3 : CP tk N z n) (h4 : CL4 tk N z n) : CL4 tk N z (n + 1) := by
  intro d x a s m f u w res hS hs hx hd hm hu hf e
  have hN4 := hS.2.2.2.2.2.2.1
  have haN := hS.2.2.2.2.2.2.2
  have hz := hS.2.2.2.1
  have ha2 : tk a ≠ 1 → tk a ≠ 2 → a + 2 ≤ N := fun q1 q2 => by have := hN a haN; omega
  have e : zTL tk (PZ tk n) d x a = some res := e
  unfold zTL at e
  obtain ⟨f', rfl⟩ : ∃ f', f = f' + 1 := ⟨f - 1, by omega⟩
  have hnow := hS.2.1
  have hz0 := hS.2.2.1
  have hP : pnz 4 x = if x = 1 then 1 else 0 := rfl
  have hmm : ndC 1 d ≤ m := by simp only [ndC] at hm ⊢; simp at hm ⊢; omega
  by_cases h26 : tk a = 26
  · rw [if_pos h26] at e
    have ha2 := ha2 (by omega) (by omega)
    obtain ⟨w1, t1, t2, t3⟩ := c_take hS h26 ha2
    have body : ∀ R, bd1 (grpC m 1 (nI d) 0 w1) (fun r25 w26 => br (r25 = 0) (sq (nI u + 1) (fun x27 => f_X7_test_L11 (grpC m) (nI d) f' x27 0 (nI x) w26)) (gd (vok 25 (gR w26 31 0 1)) (sq (gR w26 31 0 1 - 1) (fun p29 => bd1 (f_X8_add p29 26 (-1) (-1) w26) (fun r30 w31 => br (r30 = 0) (sq (nI u + 1) (fun x32 => f_X7_test_L11 (grpC m) (nI d) f' x32 0 (nI x) w31)) (sq (nI u + 1) (fun x33 => f_X7_test_L11 (grpC m) (nI d) f' x33 1 (nI x) w31))))))) = R → f_X7_test_L11 (grpC m) (nI d) (f' + 1) (nI u) 1 (nI x) w = R := by
      intro R hR
      rw [f_X7_test_L11, hnow]
      exact brF (by (simp (disch := omega) only [lit_nI, nI_leI, nI_ltI, nI_eq, nI_clamp, nI_add, nI_sub, vB_nI, Nat.add_sub_cancel, Nat.reduceSub, Nat.reduceLT, Nat.reduceLeDiff, Nat.reduceAdd, gI_pI, p2_pI, Nat.reduceEqDiff, false_and, and_false, true_and, and_true, if_false, if_true, and_self] <;> omega)) (brF (by decide) (brT h26 (brT h26 (bd1T t1 (brF (by decide) hR)))))
    rcases bdz_in e with ⟨p, e1, rfl⟩ | ⟨a1, o1, e1, e2⟩
    · rcases cp_use h3 (m := m) (by omega) t2 (by omega) hd hmm e1 with ⟨p', w2, r1, r2, r3, r4⟩ | ⟨_, _, _, r1, _⟩
      · cases r1
        obtain ⟨f'', rfl⟩ : ∃ f'', f' = f'' + 1 := ⟨f' - 1, by omega⟩
        refine ⟨(0, w2), ?_, rfl, r3, fc_tr (Nat.le_refl _) t3 r4⟩
        unfold T4
        exact bd2T (body _ (bd1T r2 (brT rfl (sqT l11_0)))) (brT rfl rfl)
      · cases r1
    · have g1 := hg n 1 d 0 (a + 1) (by omega) (by omega)
      rw [e1] at g1
      simp only [Gz] at g1
      have g2 := g1.2.1
      have gp : pnz 1 0 = 0 := rfl
      rcases cp_use h3 (m := m) (by omega) t2 (by omega) hd hmm e1 with ⟨_, _, r1, _⟩ | ⟨a1', o1', w2, r1, r2, r3, r4, r5⟩
      · cases r1
      · cases r1
        have hz1 : gR w2 31 0 1 = z + 1 := r3.2.2.1
        obtain ⟨w3, u1, u2, u3, u4⟩ := c_add (k := 26) (x := -1) (y := -1) r3 (by omega) (by omega)
        obtain ⟨r', e3, rfl⟩ := emz_pre e2
        obtain ⟨out, q1, q2⟩ := h4 d x a1 (s + o1.length + 1) m f' (u + 1) w3 _ u2 (by omega) hx hd hm (by omega) (by omega) e3
        have hL : f_X7_test_L11 (grpC m) (nI d) (f' + 1) (nI u) 1 (nI x) w = f_X7_test_L11 (grpC m) (nI d) f' (nI (u + 1)) 1 (nI x) w3 := by
          refine body _ (bd1T r2 (brF (by decide) ?_))
          rw [hz1, Nat.add_sub_cancel]
          refine gdT (vok25 hz) (sqT (bd1T u1 (brF (by decide) (sqT ?_))))
          rw [nI_1]
        have hF : FC z s w w3 := fc_tr (Nat.le_refl _) t3 (fc_tr (Nat.le_add_right _ _) r5 u4)
        refine ⟨out, ?_, rc_pre q2 (by simp only [List.length_append, List.length_singleton]; omega) (cseg_app (cseg_fc r4 u4 (Nat.le_refl _)) u3) hF⟩
        unfold T4 at q1 ⊢
        rw [hL]; exact q1
  · rw [if_neg h26] at e
    by_cases h27 : tk a = 27
    · rw [if_pos h27] at e
      have ha2 := ha2 (by omega) (by omega)
      have hpre : ∃ w0, CSt tk N z a (s + (if x = 1 then [sp 27] else [] : List Ps).length) w0 ∧ CSEG z s (if x = 1 then [sp 27] else []) w0 ∧ FC z s w w0 ∧ ∀ R, bd1 (f_X7_take 27 w0) (fun r3 w4 => br (r3 = 0) (sq (nI u + 1) (fun x5 => f_X7_test_L11 (grpC m) (nI d) f' x5 0 1 w4)) (bd1 (grpC m 1 (nI d) 0 w4) (fun r6 w7 => br (r6 = 0) (sq (nI u + 1) (fun x8 => f_X7_test_L11 (grpC m) (nI d) f' x8 0 1 w7)) (sq (nI u + 1) (fun x9 => f_X7_test_L11 (grpC m) (nI d) f' x9 1 1 w7))))) = R → f_X7_test_L11 (grpC m) (nI d) (f' + 1) (nI u) 1 (nI x) w = R := by
        by_cases hx1 : x = 1
        · subst hx1
          rw [if_pos rfl]
          rw [if_pos rfl] at hP
          obtain ⟨w0, u1, u2, u3, u4⟩ := c_add (k := 27) (x := -1) (y := -1) hS (by omega) (by omega)
          refine ⟨w0, u2, u3, u4, fun R hR => ?_⟩
          rw [f_X7_test_L11, hnow]
          refine brF (by (simp (disch := omega) only [lit_nI, nI_leI, nI_ltI, nI_eq, nI_clamp, nI_add, nI_sub, vB_nI, Nat.add_sub_cancel, Nat.reduceSub, Nat.reduceLT, Nat.reduceLeDiff, Nat.reduceAdd, gI_pI, p2_pI, Nat.reduceEqDiff, false_and, and_false, true_and, and_true, if_false, if_true, and_self] <;> omega)) (brF (by decide) (brF h26 (brT h27 (brF h26 (brF (by decide) ?_)))))
          rw [hz0, Nat.add_sub_cancel]
          exact gdT (vok25 hz) (sqT (bd1T u1 (brF (by decide) hR)))
        · have hx0 : x = 0 := by omega
          subst hx0
          rw [if_neg (by omega)]
          refine ⟨w, hS, cseg_nil, fc_rf, fun R hR => ?_⟩
          rw [f_X7_test_L11, hnow]
          exact brF (by (simp (disch := omega) only [lit_nI, nI_leI, nI_ltI, nI_eq, nI_clamp, nI_add, nI_sub, vB_nI, Nat.add_sub_cancel, Nat.reduceSub, Nat.reduceLT, Nat.reduceLeDiff, Nat.reduceAdd, gI_pI, p2_pI, Nat.reduceEqDiff, false_and, and_false, true_and, and_true, if_false, if_true, and_self] <;> omega)) (brF (by decide) (brF h26 (brT h27 (brF h26 (brT rfl hR)))))
      obtain ⟨w0, v1, v2, v3, body⟩ := hpre
      have hlen : (if x = 1 then [sp 27] else [] : List Ps).length = pnz 4 x := by rw [hP]; split <;> rfl
      obtain ⟨w1, t1, t2, t3⟩ := c_take v1 h27 ha2
      rcases bdz_in e with ⟨p, e1, rfl⟩ | ⟨a1, o1, e1, e2⟩
      · rcases cp_use h3 (m := m) (by omega) t2 (by omega) hd hmm e1 with ⟨p', w2, r1, r2, r3, r4⟩ | ⟨_, _, _, r1, _⟩
        · cases r1
          obtain ⟨f'', rfl⟩ : ∃ f'', f' = f'' + 1 := ⟨f' - 1, by omega⟩
          refine ⟨(0, w2), ?_, rfl, r3, fc_tr (Nat.le_add_right _ _) v3 (fc_tr (Nat.le_refl _) t3 r4)⟩
          unfold T4
          exact bd2T (body _ (bd1T t1 (brF (by decide) (bd1T r2 (brT rfl (sqT l11_0)))))) (brT rfl rfl)
        · cases r1
      · have g1 := hg n 1 d 0 (a + 1) (by omega) (by omega)
        rw [e1] at g1
        simp only [Gz] at g1
        have g2 := g1.2.1
        have gp : pnz 1 0 = 0 := rfl
        rcases cp_use h3 (m := m) (by omega) t2 (by omega) hd hmm e1 with ⟨_, _, r1, _⟩ | ⟨a1', o1', w2, r1, r2, r3, r4, r5⟩
        · cases r1
        · cases r1
          obtain ⟨r', e3, rfl⟩ := emz_pre e2
          have hP2 : pnz 4 1 = 1 := rfl
          obtain ⟨out, q1, q2⟩ := h4 d 1 a1 _ m f' (u + 1) w2 _ r3 (by omega) (Nat.le_refl _) hd hm (by omega) (by omega) e3
          have hL : f_X7_test_L11 (grpC m) (nI d) (f' + 1) (nI u) 1 (nI x) w = f_X7_test_L11 (grpC m) (nI d) f' (nI (u + 1)) 1 (nI 1) w2 := by
            refine body _ (bd1T t1 (brF (by decide) (bd1T r2 (brF (by decide) (sqT ?_)))))
            rw [nI_1]; rfl
          have hF : FC z s w w2 := fc_tr (Nat.le_add_right _ _) v3 (fc_tr (Nat.le_refl _) t3 r5)
          refine ⟨out, ?_, rc_pre q2 (by rw [List.length_append, Nat.add_assoc]) (cseg_app (cseg_fc v2 (fc_tr (Nat.le_refl _) t3 r5) (Nat.le_refl _)) r4) hF⟩
          unfold T4 at q1 ⊢
          rw [hL]; exact q1
    · rw [if_neg h27] at e
      cases e
      have hL : f_X7_test_L11 (grpC m) (nI d) (f' + 1) (nI u) 1 (nI x) w = some (1, nI x, w) := by
        rw [f_X7_test_L11, hnow]
        by_cases h4 : 400 ≤ nI u
        · exact brT h4 rfl
        · exact brF h4 (brF (by decide) (brF h26 (brF h27 rfl)))
      by_cases hx1 : x = 1
      · subst hx1
        rw [if_pos rfl]
        rw [if_pos rfl] at hP
        obtain ⟨w0, u1, u2, u3, u4⟩ := c_add (k := 27) (x := -1) (y := -1) hS (by omega) (by omega)
        refine ⟨(1, w0), ?_, rfl, u2, u3, u4⟩
        unfold T4
        refine bd2T hL (brF (by decide) (brF (by decide) ?_))
        rw [hz0, Nat.add_sub_cancel]
        exact gdT (vok25 hz) (sqT (bd1T u1 (brF (by decide) rfl)))
      · have hx0 : x = 0 := by omega
        subst hx0
        rw [if_neg (by omega)]
        refine ⟨(1, w), ?_, rfl, hS, cseg_nil, fc_rf⟩
        unfold T4
        exact bd2T hL (brF (by decide) (brT rfl rfl))
theorem cs_step (hN : ∀ j, j + 1 ≤ N → (tk j = 1 ∨ tk j = 2) ∨ j + 2 ≤ N) (hk : ∀ j, j < N → 1 ≤ tk j ∧ tk j ≤ 44) (hg : ∀ n v d w a, v ≤ 5 → a + 1 ≤ N → Gz N n v w a (PZ tk n v d w a)) (h3 : CP tk N z n) {d a s m : Nat} {w : Mm} {res : Rz} (hS : CSt tk N z a s w) (hs : s ≤ a) (hd : d ≤ 8) (hm : ndC 1 d ≤ m + 1) (e : zS tk (PZ tk n) d a = some res) : ∃ out, f_X7_single (grpC m) (nI d) w = some out ∧ RC tk N z s w res out := by
  have hN4 := hS.2.2.2.2.2.2.1
  have haN := hS.2.2.2.2.2.2.2
  have hz := hS.2.2.2.1
  have hka := hk a (by omega)
  have hsw := swvL hka.1 hka.2
  have nx : ∀ j, j + 1 ≤ N → 3 ≤ tk j → j + 2 ≤ N := fun j h1 h2 => by have := hN j h1; omega
  have hnow := hS.2.1
  have hat := hS.1
  have p0 : pnz 0 0 = 0 := rfl
  have p1 : pnz 1 0 = 0 := rfl
  have p2 : pnz 2 0 = 0 := rfl
  unfold zS at e
  by_cases h25 : tk a = 25
  · rw [if_pos h25] at e
    by_cases h8 : 8 ≤ d
    · rw [if_pos h8] at e
      cases e
      refine ⟨(0, w), ?_, rc_fl hS fc_rf⟩
      unfold f_X7_single
      rw [hnow, hat]
      exact sqT (gdT (kok_of hka) (brT (hsw.2.2.2.2.2.1.mpr h25) (brT (by (simp (disch := omega) only [lit_nI, nI_leI, nI_ltI, nI_eq, nI_clamp, nI_add, nI_sub, vB_nI, Nat.add_sub_cancel, Nat.reduceSub, Nat.reduceLT, Nat.reduceLeDiff, Nat.reduceAdd, gI_pI, p2_pI, Nat.reduceEqDiff, false_and, and_false, true_and, and_true, if_false, if_true, and_self] <;> omega)) rfl)))
    · rw [if_neg h8] at e
      have ha2 := nx a haN (by omega)
      obtain ⟨w1, t1, t2, t3⟩ := c_take hS h25 ha2
      have run : ∀ R, bd1 (grpC m 1 (nI (d + 1)) 0 w1) (fun r5 w6 => br (r5 = 0) (some (0, w6)) (gd (vok 25 (gR w6 31 0 1)) (sq (gR w6 31 0 1 - 1) (fun p8 => bd1 (f_X8_add p8 25 (-1) (-1) w6) (fun r9 w10 => br (r9 = 0) (some (0, w10)) (some (1, w10))))))) = R → f_X7_single (grpC m) (nI d) w = R := by
        intro R hR
        unfold f_X7_single
        rw [hnow, hat]
        exact sqT (gdT (kok_of hka) (brT (hsw.2.2.2.2.2.1.mpr h25) (brF (by (simp (disch := omega) only [lit_nI, nI_leI, nI_ltI, nI_eq, nI_clamp, nI_add, nI_sub, vB_nI, Nat.add_sub_cancel, Nat.reduceSub, Nat.reduceLT, Nat.reduceLeDiff, Nat.reduceAdd, gI_pI, p2_pI, Nat.reduceEqDiff, false_and, and_false, true_and, and_true, if_false, if_true, and_self] <;> omega)) (bd1T t1 (brF (by decide) (by rw [nI_1]; exact hR))))))
      rcases bdz_in e with ⟨p, e1, rfl⟩ | ⟨a1, o1, e1, e2⟩
      · rcases cp_use h3 (m := m) (by omega) t2 (by omega) (by omega) (by simp [ndC] at hm ⊢; omega) e1 with ⟨p', w2, r1, r2, r3, r4⟩ | ⟨_, _, _, r1, _⟩
        · cases r1
          exact ⟨(0, w2), run _ (bd1T r2 (brT rfl rfl)), rfl, r3, fc_tr (Nat.le_refl _) t3 r4⟩
        · cases r1
      · have g1 := hg n 1 (d + 1) 0 (a + 1) (by omega) (by omega)
        rw [e1] at g1
        simp only [Gz] at g1
        have g2 := g1.2.1
        rcases cp_use h3 (m := m) (by omega) t2 (by omega) (by omega) (by simp [ndC] at hm ⊢; omega) e1 with ⟨_, _, r1, _⟩ | ⟨a1', o1', w2, r1, r2, r3, r4, r5⟩
        · cases r1
        · cases r1
          cases e2
          have hz1 : gR w2 31 0 1 = z + 1 := r3.2.2.1
          obtain ⟨w3, u1, u2, u3, u4⟩ := c_add (k := 25) (x := -1) (y := -1) r3 (by omega) (by omega)
          refine ⟨(1, w3), run _ (bd1T r2 (brF (by decide) ?_)), rfl, ?_, cseg_app (cseg_fc r4 u4 (Nat.le_refl _)) u3, fc_tr (Nat.le_refl _) t3 (fc_tr (Nat.le_add_right _ _) r5 u4)⟩
          · rw [hz1, Nat.add_sub_cancel]
            exact gdT (vok25 hz) (sqT (bd1T u1 (brF (by decide) rfl)))
          · simp only [List.length_append, List.length_singleton]
            rw [← Nat.add_assoc]; exact u2
  rw [if_neg h25] at e
  have n6 : ¬ swv (tk a) = 6 := fun h => h25 (hsw.2.2.2.2.2.1.mp h)
  by_cases h32 : tk a = 32
  · rw [if_pos h32] at e
    by_cases h8 : 8 ≤ d
    · rw [if_pos h8] at e
      cases e
      refine ⟨(0, w), ?_, rc_fl hS fc_rf⟩
      unfold f_X7_single
      rw [hnow, hat]
      exact sqT (gdT (kok_of hka) (brF n6 (brT (hsw.2.2.2.2.2.2.1.mpr h32) (brT (by (simp (disch := omega) only [lit_nI, nI_leI, nI_ltI, nI_eq, nI_clamp, nI_add, nI_sub, vB_nI, Nat.add_sub_cancel, Nat.reduceSub, Nat.reduceLT, Nat.reduceLeDiff, Nat.reduceAdd, gI_pI, p2_pI, Nat.reduceEqDiff, false_and, and_false, true_and, and_true, if_false, if_true, and_self] <;> omega)) rfl))))
    · rw [if_neg h8] at e
      have ha2 := nx a haN (by omega)
      obtain ⟨w1, t1, t2, t3⟩ := c_take hS h32 ha2
      have run : ∀ R, bd1 (grpC m 0 (nI (d + 1)) 0 w1) (fun r13 w14 => br (r13 = 0) (some (0, w14)) (bd1 (f_X7_take 33 w14) (fun r15 w16 => br (r15 = 0) (some (0, w16)) (some (1, w16))))) = R → f_X7_single (grpC m) (nI d) w = R := by
        intro R hR
        unfold f_X7_single
        rw [hnow, hat]
        exact sqT (gdT (kok_of hka) (brF n6 (brT (hsw.2.2.2.2.2.2.1.mpr h32) (brF (by (simp (disch := omega) only [lit_nI, nI_leI, nI_ltI, nI_eq, nI_clamp, nI_add, nI_sub, vB_nI, Nat.add_sub_cancel, Nat.reduceSub, Nat.reduceLT, Nat.reduceLeDiff, Nat.reduceAdd, gI_pI, p2_pI, Nat.reduceEqDiff, false_and, and_false, true_and, and_true, if_false, if_true, and_self] <;> omega)) (bd1T t1 (brF (by decide) (by rw [nI_1]; exact hR)))))))
      rcases bdz_in e with ⟨p, e1, rfl⟩ | ⟨a1, o1, e1, e2⟩
      · rcases cp_use h3 (m := m) (by omega) t2 (by omega) (by omega) (by simp [ndC] at hm ⊢; omega) e1 with ⟨p', w2, r1, r2, r3, r4⟩ | ⟨_, _, _, r1, _⟩
        · cases r1
          exact ⟨(0, w2), run _ (bd1T r2 (brT rfl rfl)), rfl, r3, fc_tr (Nat.le_refl _) t3 r4⟩
        · cases r1
      · have g1 := hg n 0 (d + 1) 0 (a + 1) (by omega) (by omega)
        rw [e1] at g1
        simp only [Gz] at g1
        rcases cp_use h3 (m := m) (by omega) t2 (by omega) (by omega) (by simp [ndC] at hm ⊢; omega) e1 with ⟨_, _, r1, _⟩ | ⟨a1', o1', w2, r1, r2, r3, r4, r5⟩
        · cases r1
        · cases r1
          by_cases h33 : tk a1 = 33
          · rw [if_pos h33] at e2
            cases e2
            obtain ⟨w3, u1, u2, u3⟩ := c_take r3 h33 (nx a1 g1.1 (by omega))
            exact ⟨(1, w3), run _ (bd1T r2 (brF (by decide) (bd1T u1 (brF (by decide) rfl)))), rfl, u2, cseg_fc r4 u3 (Nat.le_refl _), fc_tr (Nat.le_refl _) t3 (fc_tr (Nat.le_add_right _ _) r5 u3)⟩
          · rw [if_neg h33] at e2
            cases e2
            exact ⟨(0, w2), run _ (bd1T r2 (brF (by decide) (bd1T (c_takeN r3 h33) (brT rfl rfl)))), rc_fl r3 (fc_tr (Nat.le_refl _) t3 r5)⟩
  rw [if_neg h32] at e
  have n7 : ¬ swv (tk a) = 7 := fun h => h32 (hsw.2.2.2.2.2.2.1.mp h)
  by_cases h24 : tk a = 24
  · rw [if_pos h24] at e
    have hb : swv (tk a) = 8 := hsw.2.2.2.2.2.2.2.1.mpr h24
    have ha2 := nx a haN (by omega)
    obtain ⟨w1, t1, t2, t3⟩ := c_take hS h24 ha2
    by_cases q1 : tk (a + 1) = 3
    · rw [if_pos q1] at e
      have ha3 := nx (a + 1) (by omega) (by omega)
      obtain ⟨w2, v1, v2, v3⟩ := c_take t2 q1 (by omega)
      by_cases q2 : tk (a + 2) = 23
      · rw [if_pos q2] at e
        have ha4 := nx (a + 2) (by omega) (by omega)
        obtain ⟨w3, x1, x2, x3⟩ := c_take v2 q2 (by omega)
        by_cases q3 : tk (a + 3) = 3
        · rw [if_pos q3] at e
          cases e
          have ha5 := nx (a + 3) (by omega) (by omega)
          obtain ⟨w4, y1, y2, y3⟩ := c_take x2 q3 (by omega)
          have hz1 : gR w4 31 0 1 = z + 1 := y2.2.2.1
          obtain ⟨w5, u1, u2, u3, u4⟩ := c_add (k := 24) (x := nI (a + 1)) (y := nI (a + 3)) y2 (by omega) (by omega)
          refine ⟨(1, w5), ?_, rfl, u2, u3, fc_tr (Nat.le_refl _) t3 (fc_tr (Nat.le_refl _) v3 (fc_tr (Nat.le_refl _) x3 (fc_tr (Nat.le_refl _) y3 u4)))⟩
          unfold f_X7_single
          rw [hnow, hat]
          refine sqT (gdT (kok_of hka) (brF n6 (brF n7 (brT hb (bd1T t1 (brF (by decide) (bd1T v1 (brF (by decide) (bd1T x1 (brF (by decide) (bd1T y1 (brF (by decide) ?_))))))))))))
          rw [hz1, Nat.add_sub_cancel, nI_1, show nI a + 3 = nI (a + 3) by rw [show (3 : Int32) = nI 3 from rfl, nI_add]]
          exact gdT (vok25 hz) (sqT (bd1T u1 (brF (by decide) rfl)))
        · rw [if_neg q3] at e
          cases e
          refine ⟨(0, w3), ?_, rc_fl x2 (fc_tr (Nat.le_refl _) t3 (fc_tr (Nat.le_refl _) v3 x3))⟩
          unfold f_X7_single
          rw [hnow, hat]
          exact sqT (gdT (kok_of hka) (brF n6 (brF n7 (brT hb (bd1T t1 (brF (by decide) (bd1T v1 (brF (by decide) (bd1T x1 (brF (by decide) (bd1T (c_takeN x2 q3) (brT rfl rfl))))))))))))
      · rw [if_neg q2] at e
        cases e
        refine ⟨(0, w2), ?_, rc_fl v2 (fc_tr (Nat.le_refl _) t3 v3)⟩
        unfold f_X7_single
        rw [hnow, hat]
        exact sqT (gdT (kok_of hka) (brF n6 (brF n7 (brT hb (bd1T t1 (brF (by decide) (bd1T v1 (brF (by decide) (bd1T (c_takeN v2 q2) (brT rfl rfl))))))))))
    · rw [if_neg q1] at e
      cases e
      refine ⟨(0, w1), ?_, rc_fl t2 t3⟩
      unfold f_X7_single
      rw [hnow, hat]
      exact sqT (gdT (kok_of hka) (brF n6 (brF n7 (brT hb (bd1T t1 (brF (by decide) (bd1T (c_takeN t2 q1) (brT rfl rfl))))))))
  rw [if_neg h24] at e
  have n8 : ¬ swv (tk a) = 8 := fun h => h24 (hsw.2.2.2.2.2.2.2.1.mp h)
  have run : ∀ R, bd1 (grpC m 2 (nI d) 0 w) (fun r29 w30 => br (r29 = 0) (some (0, w30)) (gd (kok (gR w30 31 0 3)) (bd1 (f_X4_isComparison (gR w30 31 0 3) w30) (fun r32 w33 => br (r32 = 0) (some (0, w33)) (bd1 (f_X7_take (gR w30 31 0 3) w33) (fun r34 w35 => br (r34 = 0) (some (0, w35)) (bd1 (grpC m 2 (nI d) 0 w35) (fun r36 w37 => br (r36 = 0) (some (0, w37)) (gd (vok 25 (gR w37 31 0 1)) (sq (gR w37 31 0 1 - 1) (fun p39 => bd1 (f_X8_add p39 (gR w30 31 0 3) (-1) (-1) w37) (fun r40 w41 => br (r40 = 0) (some (0, w41)) (some (1, w41)))))))))))))) = R → f_X7_single (grpC m) (nI d) w = R := by
    intro R hR
    unfold f_X7_single
    rw [hnow, hat]
    exact sqT (gdT (kok_of hka) (brF n6 (brF n7 (brF n8 hR))))
  rcases bdz_in e with ⟨p, e1, rfl⟩ | ⟨a1, o1, e1, e2⟩
  · rcases cp_use h3 (m := m) (by omega) hS hs hd (by simp [ndC] at hm ⊢; omega) e1 with ⟨p', w2, r1, r2, r3, r4⟩ | ⟨_, _, _, r1, _⟩
    · cases r1
      exact ⟨(0, w2), run _ (bd1T r2 (brT rfl rfl)), rfl, r3, r4⟩
    · cases r1
  · have g1 := hg n 2 d 0 a (by omega) haN
    rw [e1] at g1
    simp only [Gz] at g1
    have g2 := g1.2.1
    rcases cp_use h3 (m := m) (by omega) hS hs hd (by simp [ndC] at hm ⊢; omega) e1 with ⟨_, _, r1, _⟩ | ⟨a1', o1', w2, r1, r2, r3, r4, r5⟩
    · cases r1
    · cases r1
      have hk1 := hk a1 (by omega)
      have hn1 : gR w2 31 0 3 = tk a1 := r3.2.1
      by_cases hc : 40 ≤ tk a1 ∧ tk a1 ≤ 44
      · rw [if_pos hc] at e2
        have ha2 := nx a1 g1.1 (by omega)
        obtain ⟨w3, t1, t2, t3⟩ := c_take r3 rfl ha2
        have run2 : ∀ R, bd1 (grpC m 2 (nI d) 0 w3) (fun r36 w37 => br (r36 = 0) (some (0, w37)) (gd (vok 25 (gR w37 31 0 1)) (sq (gR w37 31 0 1 - 1) (fun p39 => bd1 (f_X8_add p39 (tk a1) (-1) (-1) w37) (fun r40 w41 => br (r40 = 0) (some (0, w41)) (some (1, w41))))))) = R → f_X7_single (grpC m) (nI d) w = R := by
          intro R hR
          refine run R (bd1T r2 (brF (by decide) ?_))
          rw [hn1]
          refine gdT (kok_of hk1) (bd1T c_isCm ?_)
          rw [if_pos hc]
          exact brF (by decide) (bd1T t1 (brF (by decide) hR))
        rcases bdz_in e2 with ⟨p, e3, rfl⟩ | ⟨a2, o2, e3, e4⟩
        · rcases cp_use h3 (m := m) (by omega) t2 (by omega) hd (by simp [ndC] at hm ⊢; omega) e3 with ⟨p', w4, k1, k2, k3, k4⟩ | ⟨_, _, _, k1, _⟩
          · cases k1
            exact ⟨(0, w4), run2 _ (bd1T k2 (brT rfl rfl)), rfl, k3, fc_tr (Nat.le_add_right _ _) r5 (fc_tr (Nat.le_refl _) t3 k4)⟩
          · cases k1
        · have j1 := hg n 2 d 0 (a1 + 1) (by omega) (by omega)
          rw [e3] at j1
          simp only [Gz] at j1
          have j2 := j1.2.1
          rcases cp_use h3 (m := m) (by omega) t2 (by omega) hd (by simp [ndC] at hm ⊢; omega) e3 with ⟨_, _, k1, _⟩ | ⟨a2', o2', w4, k1, k2, k3, k4, k5⟩
          · cases k1
          · cases k1
            cases e4
            have hz1 : gR w4 31 0 1 = z + 1 := k3.2.2.1
            obtain ⟨w5, u1, u2, u3, u4⟩ := c_add (k := tk a1) (x := -1) (y := -1) k3 hk1 (by omega)
            refine ⟨(1, w5), run2 _ (bd1T k2 (brF (by decide) ?_)), rfl, ?_, cseg_app (cseg_app ?_ (cseg_fc k4 u4 (Nat.le_refl _))) ?_, fc_tr (Nat.le_add_right _ _) r5 (fc_tr (Nat.le_refl _) t3 (fc_tr (Nat.le_add_right _ _) k5 u4))⟩
            · rw [hz1, Nat.add_sub_cancel]
              exact gdT (vok25 hz) (sqT (bd1T u1 (brF (by decide) rfl)))
            · simp only [List.length_append, List.length_singleton]
              rw [show s + (o1.length + o2.length + 1) = s + o1.length + o2.length + 1 by omega]; exact u2
            · exact cseg_fc r4 (fc_tr (Nat.le_refl _) t3 (fc_tr (Nat.le_add_right _ _) k5 u4)) (Nat.le_refl _)
            · rw [List.length_append, ← Nat.add_assoc]; exact u3
      · rw [if_neg hc] at e2
        cases e2
        refine ⟨(0, w2), run _ (bd1T r2 (brF (by decide) ?_)), rc_fl r3 r5⟩
        rw [hn1]
        refine gdT (kok_of hk1) (bd1T c_isCm ?_)
        rw [if_neg hc]
        exact brT rfl rfl
theorem cv_step (hN : ∀ j, j + 1 ≤ N → (tk j = 1 ∨ tk j = 2) ∨ j + 2 ≤ N) (hk : ∀ j, j < N → 1 ≤ tk j ∧ tk j ≤ 44) (hg : ∀ n v d w a, v ≤ 5 → a + 1 ≤ N → Gz N n v w a (PZ tk n v d w a)) (h3 : CP tk N z n) {d a s m : Nat} {w : Mm} {res : Rz} (hS : CSt tk N z a s w) (hs : s ≤ a) (hd : d ≤ 8) (hm : ndC 3 d ≤ m + 1) (e : zV tk (PZ tk n) d a = some res) : ∃ out, f_X7_value (grpC m) (nI d) w = some out ∧ RC tk N z s w res out := by
  have hN4 := hS.2.2.2.2.2.2.1
  have haN := hS.2.2.2.2.2.2.2
  have hz := hS.2.2.2.1
  have hka := hk a (by omega)
  have hsw := swvL hka.1 hka.2
  have nx : ∀ j, j + 1 ≤ N → 3 ≤ tk j → j + 2 ≤ N := fun j h1 h2 => by have := hN j h1; omega
  have hnow := hS.2.1
  have hat := hS.1
  have p0 : pnz 0 0 = 0 := rfl
  have p1 : pnz 1 0 = 0 := rfl
  have p2 : pnz 2 0 = 0 := rfl
  have p3 : pnz 3 0 = 0 := rfl
  unfold zV at e
  by_cases h1 : tk a = 4 ∨ tk a = 17 ∨ tk a = 18 ∨ tk a = 19
  · rw [if_pos h1] at e
    cases e
    have ha2 := nx a haN (by omega)
    obtain ⟨w1, t1, t2, t3⟩ := c_take hS rfl ha2
    have hz1 : gR w1 31 0 1 = z + 1 := t2.2.2.1
    obtain ⟨w2, u1, u2, u3, u4⟩ := c_add (k := tk a) (x := nI a) (y := -1) t2 hka (by omega)
    refine ⟨(1, w2), ?_, rfl, u2, u3, fc_tr (Nat.le_refl _) t3 u4⟩
    unfold f_X7_value
    rw [hnow, hat]
    refine sqT (gdT (kok_of hka) (brT (hsw.1.mpr h1) (bd1T t1 (brF (by decide) ?_))))
    rw [hz1, Nat.add_sub_cancel]
    exact gdT (vok25 hz) (sqT (bd1T u1 (brF (by decide) rfl)))
  rw [if_neg h1] at e
  have n1 : ¬ (swv (tk a) = 9 ∨ swv (tk a) = 10 ∨ swv (tk a) = 11 ∨ swv (tk a) = 12) := fun h => h1 (hsw.1.mp h)
  by_cases h2 : tk a = 20 ∨ tk a = 21 ∨ tk a = 22
  · rw [if_pos h2] at e
    have b2 := hsw.2.1.mpr h2
    have ha2 := nx a haN (by omega)
    obtain ⟨w1, t1, t2, t3⟩ := c_take hS rfl ha2
    by_cases q1 : tk (a + 1) = 23
    · rw [if_pos q1] at e
      have ha3 := nx (a + 1) (by omega) (by omega)
      obtain ⟨w2, v1, v2, v3⟩ := c_take t2 q1 (by omega)
      by_cases q2 : tk (a + 2) = 3
      · rw [if_pos q2] at e
        cases e
        have ha4 := nx (a + 2) (by omega) (by omega)
        obtain ⟨w3, x1, x2, x3⟩ := c_take v2 q2 (by omega)
        have hz1 : gR w3 31 0 1 = z + 1 := x2.2.2.1
        obtain ⟨w5, u1, u2, u3, u4⟩ := c_add (k := tk a) (x := nI (a + 2)) (y := -1) x2 hka (by omega)
        refine ⟨(1, w5), ?_, rfl, u2, u3, fc_tr (Nat.le_refl _) t3 (fc_tr (Nat.le_refl _) v3 (fc_tr (Nat.le_refl _) x3 u4))⟩
        unfold f_X7_value
        rw [hnow, hat]
        refine sqT (gdT (kok_of hka) (brF n1 (brT b2 (bd1T t1 (brF (by decide) (bd1T v1 (brF (by decide) (bd1T x1 (brF (by decide) ?_)))))))))
        rw [hz1, Nat.add_sub_cancel, show nI a + 2 = nI (a + 2) by rw [show (2 : Int32) = nI 2 from rfl, nI_add]]
        exact gdT (vok25 hz) (sqT (bd1T u1 (brF (by decide) rfl)))
      · rw [if_neg q2] at e
        cases e
        refine ⟨(0, w2), ?_, rc_fl v2 (fc_tr (Nat.le_refl _) t3 v3)⟩
        unfold f_X7_value
        rw [hnow, hat]
        exact sqT (gdT (kok_of hka) (brF n1 (brT b2 (bd1T t1 (brF (by decide) (bd1T v1 (brF (by decide) (bd1T (c_takeN v2 q2) (brT rfl rfl)))))))))
    · rw [if_neg q1] at e
      cases e
      refine ⟨(0, w1), ?_, rc_fl t2 t3⟩
      unfold f_X7_value
      rw [hnow, hat]
      exact sqT (gdT (kok_of hka) (brF n1 (brT b2 (bd1T t1 (brF (by decide) (bd1T (c_takeN t2 q1) (brT rfl rfl)))))))
  rw [if_neg h2] at e
  have n2 : ¬ (swv (tk a) = 13 ∨ swv (tk a) = 14 ∨ swv (tk a) = 15) := fun h => h2 (hsw.2.1.mp h)
  by_cases h37 : tk a = 37
  · rw [if_pos h37] at e
    have b3 := hsw.2.2.1.mpr h37
    by_cases h8 : 8 ≤ d
    · rw [if_pos h8] at e
      cases e
      refine ⟨(0, w), ?_, rc_fl hS fc_rf⟩
      unfold f_X7_value
      rw [hnow, hat]
      exact sqT (gdT (kok_of hka) (brF n1 (brF n2 (brT b3 (brT (by (simp (disch := omega) only [lit_nI, nI_leI, nI_ltI, nI_eq, nI_clamp, nI_add, nI_sub, vB_nI, Nat.add_sub_cancel, Nat.reduceSub, Nat.reduceLT, Nat.reduceLeDiff, Nat.reduceAdd, gI_pI, p2_pI, Nat.reduceEqDiff, false_and, and_false, true_and, and_true, if_false, if_true, and_self] <;> omega)) rfl)))))
    · rw [if_neg h8] at e
      have ha2 := nx a haN (by omega)
      obtain ⟨w1, t1, t2, t3⟩ := c_take hS rfl ha2
      have run : ∀ R, bd1 (grpC m 3 (nI (d + 1)) 0 w1) (fun r21 w22 => br (r21 = 0) (some (0, w22)) (gd (vok 25 (gR w22 31 0 1)) (sq (gR w22 31 0 1 - 1) (fun p24 => bd1 (f_X8_add p24 5 (-1) (-1) w22) (fun r25 w26 => br (r25 = 0) (some (0, w26)) (some (1, w26))))))) = R → f_X7_value (grpC m) (nI d) w = R := by
        intro R hR
        unfold f_X7_value
        rw [hnow, hat]
        exact sqT (gdT (kok_of hka) (brF n1 (brF n2 (brT b3 (brF (by (simp (disch := omega) only [lit_nI, nI_leI, nI_ltI, nI_eq, nI_clamp, nI_add, nI_sub, vB_nI, Nat.add_sub_cancel, Nat.reduceSub, Nat.reduceLT, Nat.reduceLeDiff, Nat.reduceAdd, gI_pI, p2_pI, Nat.reduceEqDiff, false_and, and_false, true_and, and_true, if_false, if_true, and_self] <;> omega)) (bd1T t1 (brF (by decide) (by rw [nI_1]; exact hR))))))))
      rcases bdz_in e with ⟨p, e1, rfl⟩ | ⟨a1, o1, e1, e2⟩
      · rcases cp_use h3 (m := m) (by omega) t2 (by omega) (by omega) (by simp [ndC] at hm ⊢; omega) e1 with ⟨p', w2, r1, r2, r3, r4⟩ | ⟨_, _, _, r1, _⟩
        · cases r1
          refine ⟨(0, w2), run _ (bd1T r2 (brT rfl rfl)), rfl, r3, fc_tr (Nat.le_refl _) t3 r4⟩
        · cases r1
      · have g1 := hg n 3 (d + 1) 0 (a + 1) (by omega) (by omega)
        rw [e1] at g1
        simp only [Gz] at g1
        have g2 := g1.2.1
        rcases cp_use h3 (m := m) (by omega) t2 (by omega) (by omega) (by simp [ndC] at hm ⊢; omega) e1 with ⟨_, _, r1, _⟩ | ⟨a1', o1', w2, r1, r2, r3, r4, r5⟩
        · cases r1
        · cases r1
          cases e2
          have hz1 : gR w2 31 0 1 = z + 1 := r3.2.2.1
          obtain ⟨w3, u1, u2, u3, u4⟩ := c_add (k := 5) (x := -1) (y := -1) r3 (by omega) (by omega)
          refine ⟨(1, w3), run _ (bd1T r2 (brF (by decide) ?_)), rfl, ?_, cseg_app (cseg_fc r4 u4 (Nat.le_refl _)) u3, fc_tr (Nat.le_refl _) t3 (fc_tr (Nat.le_add_right _ _) r5 u4)⟩
          · rw [hz1, Nat.add_sub_cancel]
            exact gdT (vok25 hz) (sqT (bd1T u1 (brF (by decide) rfl)))
          · simp only [List.length_append, List.length_singleton]
            rw [← Nat.add_assoc]; exact u2
  rw [if_neg h37] at e
  have n3 : ¬ swv (tk a) = 16 := fun h => h37 (hsw.2.2.1.mp h)
  by_cases h30 : tk a = 30
  · rw [if_pos h30] at e
    have b4 := hsw.2.2.2.1.mpr h30
    by_cases h8 : 8 ≤ d
    · rw [if_pos h8] at e
      cases e
      refine ⟨(0, w), ?_, rc_fl hS fc_rf⟩
      unfold f_X7_value
      rw [hnow, hat]
      exact sqT (gdT (kok_of hka) (brF n1 (brF n2 (brF n3 (brT b4 (brT (by (simp (disch := omega) only [lit_nI, nI_leI, nI_ltI, nI_eq, nI_clamp, nI_add, nI_sub, vB_nI, Nat.add_sub_cancel, Nat.reduceSub, Nat.reduceLT, Nat.reduceLeDiff, Nat.reduceAdd, gI_pI, p2_pI, Nat.reduceEqDiff, false_and, and_false, true_and, and_true, if_false, if_true, and_self] <;> omega)) rfl))))))
    · rw [if_neg h8] at e
      have ha2 := nx a haN (by omega)
      obtain ⟨w1, t1, t2, t3⟩ := c_take hS rfl ha2
      have run : ∀ R, bd1 (grpC m 2 (nI (d + 1)) 0 w1) (fun r29 w30 => br (r29 = 0) (some (0, w30)) (bd1 (f_X7_take 31 w30) (fun r31 w32 => br (r31 = 0) (some (0, w32)) (some (1, w32))))) = R → f_X7_value (grpC m) (nI d) w = R := by
        intro R hR
        unfold f_X7_value
        rw [hnow, hat]
        exact sqT (gdT (kok_of hka) (brF n1 (brF n2 (brF n3 (brT b4 (brF (by (simp (disch := omega) only [lit_nI, nI_leI, nI_ltI, nI_eq, nI_clamp, nI_add, nI_sub, vB_nI, Nat.add_sub_cancel, Nat.reduceSub, Nat.reduceLT, Nat.reduceLeDiff, Nat.reduceAdd, gI_pI, p2_pI, Nat.reduceEqDiff, false_and, and_false, true_and, and_true, if_false, if_true, and_self] <;> omega)) (bd1T t1 (brF (by decide) (by rw [nI_1]; exact hR)))))))))
      rcases bdz_in e with ⟨p, e1, rfl⟩ | ⟨a1, o1, e1, e2⟩
      · rcases cp_use h3 (m := m) (by omega) t2 (by omega) (by omega) (by simp [ndC] at hm ⊢; omega) e1 with ⟨p', w2, r1, r2, r3, r4⟩ | ⟨_, _, _, r1, _⟩
        · cases r1
          refine ⟨(0, w2), run _ (bd1T r2 (brT rfl rfl)), rfl, r3, fc_tr (Nat.le_refl _) t3 r4⟩
        · cases r1
      · have g1 := hg n 2 (d + 1) 0 (a + 1) (by omega) (by omega)
        rw [e1] at g1
        simp only [Gz] at g1
        rcases cp_use h3 (m := m) (by omega) t2 (by omega) (by omega) (by simp [ndC] at hm ⊢; omega) e1 with ⟨_, _, r1, _⟩ | ⟨a1', o1', w2, r1, r2, r3, r4, r5⟩
        · cases r1
        · cases r1
          by_cases h31 : tk a1 = 31
          · rw [if_pos h31] at e2
            cases e2
            obtain ⟨w3, u1, u2, u3⟩ := c_take r3 h31 (nx a1 g1.1 (by omega))
            refine ⟨(1, w3), run _ (bd1T r2 (brF (by decide) (bd1T u1 (brF (by decide) rfl)))), rfl, u2, cseg_fc r4 u3 (Nat.le_refl _), fc_tr (Nat.le_refl _) t3 (fc_tr (Nat.le_add_right _ _) r5 u3)⟩
          · rw [if_neg h31] at e2
            cases e2
            refine ⟨(0, w2), run _ (bd1T r2 (brF (by decide) (bd1T (c_takeN r3 h31) (brT rfl rfl)))), rc_fl r3 (fc_tr (Nat.le_refl _) t3 r5)⟩
  rw [if_neg h30] at e
  have n4 : ¬ swv (tk a) = 17 := fun h => h30 (hsw.2.2.2.1.mp h)
  by_cases h28 : tk a = 28 ∨ tk a = 29
  · rw [if_pos h28] at e
    have b5 := hsw.2.2.2.2.1.mpr h28
    have ha2 := nx a haN (by omega)
    obtain ⟨w1, t1, t2, t3⟩ := c_take hS rfl ha2
    by_cases h8 : 8 ≤ d
    · rw [if_pos h8] at e
      cases e
      refine ⟨(0, w1), ?_, rc_fl t2 t3⟩
      unfold f_X7_value
      rw [hnow, hat]
      exact sqT (gdT (kok_of hka) (brF n1 (brF n2 (brF n3 (brF n4 (brT b5 (bd1T t1 (brF (by decide) (brT (by (simp (disch := omega) only [lit_nI, nI_leI, nI_ltI, nI_eq, nI_clamp, nI_add, nI_sub, vB_nI, Nat.add_sub_cancel, Nat.reduceSub, Nat.reduceLT, Nat.reduceLeDiff, Nat.reduceAdd, gI_pI, p2_pI, Nat.reduceEqDiff, false_and, and_false, true_and, and_true, if_false, if_true, and_self] <;> omega)) rfl)))))))))
    · rw [if_neg h8] at e
      by_cases q1 : tk (a + 1) = 30
      · rw [if_pos q1] at e
        have ha3 := nx (a + 1) (by omega) (by omega)
        obtain ⟨w2, v1, v2, v3⟩ := c_take t2 q1 (by omega)
        have run : ∀ R, bd1 (grpC m 2 (nI (d + 1)) 0 w2) (fun r37 w38 => br (r37 = 0) (some (0, w38)) (bd1 (f_X7_take 35 w38) (fun r39 w40 => br (r39 = 0) (some (0, w40)) (bd1 (grpC m 2 (nI (d + 1)) 0 w40) (fun r41 w42 => br (r41 = 0) (some (0, w42)) (bd1 (f_X7_take 31 w42) (fun r43 w44 => br (r43 = 0) (some (0, w44)) (gd (vok 25 (gR w44 31 0 1)) (sq (gR w44 31 0 1 - 1) (fun p46 => bd1 (f_X8_add p46 (tk a) (-1) (-1) w44) (fun r47 w48 => br (r47 = 0) (some (0, w48)) (some (1, w48))))))))))))) = R → f_X7_value (grpC m) (nI d) w = R := by
          intro R hR
          unfold f_X7_value
          rw [hnow, hat]
          exact sqT (gdT (kok_of hka) (brF n1 (brF n2 (brF n3 (brF n4 (brT b5 (bd1T t1 (brF (by decide) (brF (by (simp (disch := omega) only [lit_nI, nI_leI, nI_ltI, nI_eq, nI_clamp, nI_add, nI_sub, vB_nI, Nat.add_sub_cancel, Nat.reduceSub, Nat.reduceLT, Nat.reduceLeDiff, Nat.reduceAdd, gI_pI, p2_pI, Nat.reduceEqDiff, false_and, and_false, true_and, and_true, if_false, if_true, and_self] <;> omega)) (bd1T v1 (brF (by decide) (by rw [nI_1]; exact hR))))))))))))
        rcases bdz_in e with ⟨p, e1, rfl⟩ | ⟨a1, o1, e1, e2⟩
        · rcases cp_use h3 (m := m) (by omega) v2 (by omega) (by omega) (by simp [ndC] at hm ⊢; omega) e1 with ⟨p', w3, r1, r2, r3, r4⟩ | ⟨_, _, _, r1, _⟩
          · cases r1
            refine ⟨(0, w3), run _ (bd1T r2 (brT rfl rfl)), rfl, r3, fc_tr (Nat.le_refl _) t3 (fc_tr (Nat.le_refl _) v3 r4)⟩
          · cases r1
        · have g1 := hg n 2 (d + 1) 0 (a + 2) (by omega) (by omega)
          rw [e1] at g1
          simp only [Gz] at g1
          have g2 := g1.2.1
          rcases cp_use h3 (m := m) (by omega) v2 (by omega) (by omega) (by simp [ndC] at hm ⊢; omega) e1 with ⟨_, _, r1, _⟩ | ⟨a1', o1', w3, r1, r2, r3, r4, r5⟩
          · cases r1
          · cases r1
            have hFa : FC z s w w3 := fc_tr (Nat.le_refl _) t3 (fc_tr (Nat.le_refl _) v3 r5)
            by_cases q35 : tk a1 = 35
            · rw [if_pos q35] at e2
              have ha5 := nx a1 g1.1 (by omega)
              obtain ⟨w4, x1, x2, x3⟩ := c_take r3 q35 ha5
              rcases bdz_in e2 with ⟨p, e3, rfl⟩ | ⟨a2, o2, e3, e4⟩
              · rcases cp_use h3 (m := m) (by omega) x2 (by omega) (by omega) (by simp [ndC] at hm ⊢; omega) e3 with ⟨p', w5, k1, k2, k3, k4⟩ | ⟨_, _, _, k1, _⟩
                · cases k1
                  refine ⟨(0, w5), run _ (bd1T r2 (brF (by decide) (bd1T x1 (brF (by decide) (bd1T k2 (brT rfl rfl)))))), rfl, k3, fc_tr (Nat.le_add_right _ _) hFa (fc_tr (Nat.le_refl _) x3 k4)⟩
                · cases k1
              · have j1 := hg n 2 (d + 1) 0 (a1 + 1) (by omega) (by omega)
                rw [e3] at j1
                simp only [Gz] at j1
                have j2 := j1.2.1
                rcases cp_use h3 (m := m) (by omega) x2 (by omega) (by omega) (by simp [ndC] at hm ⊢; omega) e3 with ⟨_, _, k1, _⟩ | ⟨a2', o2', w5, k1, k2, k3, k4, k5⟩
                · cases k1
                · cases k1
                  have hFb : FC z s w w5 := fc_tr (Nat.le_add_right _ _) hFa (fc_tr (Nat.le_refl _) x3 k5)
                  by_cases q31 : tk a2 = 31
                  · rw [if_pos q31] at e4
                    cases e4
                    obtain ⟨w6, y1, y2, y3⟩ := c_take k3 q31 (nx a2 j1.1 (by omega))
                    have hz1 : gR w6 31 0 1 = z + 1 := y2.2.2.1
                    obtain ⟨w7, u1, u2, u3, u4⟩ := c_add (k := tk a) (x := -1) (y := -1) y2 hka (by omega)
                    refine ⟨(1, w7), run _ (bd1T r2 (brF (by decide) (bd1T x1 (brF (by decide) (bd1T k2 (brF (by decide) (bd1T y1 (brF (by decide) ?_)))))))), rfl, ?_, cseg_app (cseg_app ?_ (cseg_fc k4 (fc_tr (Nat.le_refl _) y3 u4) (Nat.le_refl _))) ?_, fc_tr (by omega) hFb (fc_tr (Nat.le_refl _) y3 u4)⟩
                    · rw [hz1, Nat.add_sub_cancel]
                      exact gdT (vok25 hz) (sqT (bd1T u1 (brF (by decide) rfl)))
                    · simp only [List.length_append, List.length_singleton]
                      rw [show s + (o1.length + o2.length + 1) = s + o1.length + o2.length + 1 by omega]; exact u2
                    · exact cseg_fc r4 (fc_tr (Nat.le_refl _) x3 (fc_tr (Nat.le_add_right _ _) k5 (fc_tr (Nat.le_refl _) y3 u4))) (Nat.le_refl _)
                    · rw [List.length_append, ← Nat.add_assoc]; exact u3
                  · rw [if_neg q31] at e4
                    cases e4
                    refine ⟨(0, w5), run _ (bd1T r2 (brF (by decide) (bd1T x1 (brF (by decide) (bd1T k2 (brF (by decide) (bd1T (c_takeN k3 q31) (brT rfl rfl)))))))), rc_fl k3 hFb⟩
            · rw [if_neg q35] at e2
              cases e2
              refine ⟨(0, w3), run _ (bd1T r2 (brF (by decide) (bd1T (c_takeN r3 q35) (brT rfl rfl)))), rc_fl r3 hFa⟩
      · rw [if_neg q1] at e
        cases e
        refine ⟨(0, w1), ?_, rc_fl t2 t3⟩
        unfold f_X7_value
        rw [hnow, hat]
        exact sqT (gdT (kok_of hka) (brF n1 (brF n2 (brF n3 (brF n4 (brT b5 (bd1T t1 (brF (by decide) (brF (by (simp (disch := omega) only [lit_nI, nI_leI, nI_ltI, nI_eq, nI_clamp, nI_add, nI_sub, vB_nI, Nat.add_sub_cancel, Nat.reduceSub, Nat.reduceLT, Nat.reduceLeDiff, Nat.reduceAdd, gI_pI, p2_pI, Nat.reduceEqDiff, false_and, and_false, true_and, and_true, if_false, if_true, and_self] <;> omega)) (bd1T (c_takeN t2 q1) (brT rfl rfl)))))))))))
  rw [if_neg h28] at e
  have n5 : ¬ (swv (tk a) = 18 ∨ swv (tk a) = 19) := fun h => h28 (hsw.2.2.2.2.1.mp h)
  cases e
  refine ⟨(0, w), ?_, rc_fl hS fc_rf⟩
  unfold f_X7_value
  rw [hnow, hat]
  exact sqT (gdT (kok_of hka) (brF n1 (brF n2 (brF n3 (brF n4 (brF n5 rfl))))))
/-- a deeper method -/
theorem nI_d1 {d : Nat} : nI d + 1 = nI (d + 1) := nI_1 d
theorem cp_step (hN : ∀ j, j + 1 ≤ N → (tk j = 1 ∨ tk j = 2) ∨ j + 2 ≤ N) (hk : ∀ j, j < N → 1 ≤ tk j ∧ tk j ≤ 44) (hg : ∀ n v d w a, v ≤ 5 → a + 1 ≤ N → Gz N n v w a (PZ tk n v d w a)) (h3 : CP tk N z n) (h4 : CL4 tk N z n) (h5 : CL5 tk N z n) : CP tk N z (n + 1) := by
  intro v d x a s m w res hv hS hs hd hm e
  have hN4 := hS.2.2.2.2.2.2.1
  have haN := hS.2.2.2.2.2.2.2
  have hz := hS.2.2.2.1
  have hka := hk a (by omega)
  have hsw := swvL hka.1 hka.2
  have nx : ∀ j, j + 1 ≤ N → 3 ≤ tk j → j + 2 ≤ N := fun j h1 h2 => by have := hN j h1; omega
  have hnow := hS.2.1
  have hat := hS.1
  obtain ⟨m, rfl⟩ : ∃ m', m = m' + 1 := ⟨m - 1, by simp only [ndC] at hm; split at hm <;> (try split at hm) <;> (try split at hm) <;> (try split at hm) <;> (try split at hm) <;> omega⟩
  have p0 : pnz 0 0 = 0 := rfl
  have p1 : pnz 1 0 = 0 := rfl
  have p2 : pnz 2 0 = 0 := rfl
  have p3 : pnz 3 0 = 0 := rfl
  have hvv : v = 0 ∨ v = 1 ∨ v = 2 ∨ v = 3 := by omega
  rcases hvv with rfl | rfl | rfl | rfl
  · -- a test
    have e : zT (PZ tk n) d a = some res := e
    unfold zT at e
    have hgr : ∀ R, f_X7_test (grpC m) (nI d) w = R → grpC (m + 1) 0 (nI d) 0 w = R := fun R h => by unfold grpC; rw [if_pos rfl]; exact h
    rcases bdz_in e with ⟨p, e1, rfl⟩ | ⟨a1, o1, e1, e2⟩
    · rcases cp_use h3 (m := m) (by omega) hS hs hd (by simp [ndC] at hm ⊢; omega) e1 with ⟨p', w2, r1, r2, r3, r4⟩ | ⟨_, _, _, r1, _⟩
      · cases r1
        refine ⟨(0, w2), hgr _ ?_, rfl, r3, r4⟩
        unfold f_X7_test
        exact bd1T r2 (bd2T (show f_X7_test_L11 (grpC m) (nI d) (999999 + 1) 0 0 0 w2 = _ from l11_0) (brT rfl rfl))
      · cases r1
    · have g1 := hg n 1 d 0 a (by omega) haN
      rw [e1] at g1
      simp only [Gz] at g1
      rcases cp_use h3 (m := m) (by omega) hS hs hd (by simp [ndC] at hm ⊢; omega) e1 with ⟨_, _, r1, _⟩ | ⟨a1', o1', w2, r1, r2, r3, r4, r5⟩
      · cases r1
      · cases r1
        obtain ⟨r', e3, rfl⟩ := emz_pre e2
        have hP0 : pnz 4 0 = 0 := rfl
        obtain ⟨out, q1, q2⟩ := h4 d 0 a1 _ m LF 0 w2 _ r3 (by omega) (by omega) hd (by simp [ndC] at hm ⊢; omega) (Nat.zero_le _) (by unfold LF; omega) e3
        refine ⟨out, hgr _ ?_, rc_pre q2 rfl r4 r5⟩
        unfold T4 at q1
        unfold f_X7_test
        exact bd1T r2 q1
  · -- a single test
    have e : zS tk (PZ tk n) d a = some res := e
    unfold zS at e
    have hgr : ∀ R, f_X7_single (grpC m) (nI d) w = R → grpC (m + 1) 1 (nI d) 0 w = R := fun R h => by unfold grpC; rw [if_neg (by omega), if_pos rfl]; exact h
    obtain ⟨out, q1, q2⟩ := cs_step hN hk hg h3 hS hs hd hm e
    exact ⟨out, hgr _ q1, q2⟩
  · -- a sum
    have e : zE (PZ tk n) d a = some res := e
    unfold zE at e
    have hgr : ∀ R, f_X7_sum (grpC m) (nI d) w = R → grpC (m + 1) 2 (nI d) 0 w = R := fun R h => by unfold grpC; rw [if_neg (by omega), if_neg (by omega), if_pos rfl]; exact h
    rcases bdz_in e with ⟨p, e1, rfl⟩ | ⟨a1, o1, e1, e2⟩
    · rcases cp_use h3 (m := m) (by omega) hS hs hd (by simp [ndC] at hm ⊢; omega) e1 with ⟨p', w2, r1, r2, r3, r4⟩ | ⟨_, _, _, r1, _⟩
      · cases r1
        refine ⟨(0, w2), hgr _ ?_, rfl, r3, r4⟩
        unfold f_X7_sum
        exact bd1T r2 (bd2T (show f_X7_sum_L13 (grpC m) (nI d) (999999 + 1) 0 0 1 w2 = _ from l13_0) (brT rfl rfl))
      · cases r1
    · have g1 := hg n 3 d 0 a (by omega) haN
      rw [e1] at g1
      simp only [Gz] at g1
      rcases cp_use h3 (m := m) (by omega) hS hs hd (by simp [ndC] at hm ⊢; omega) e1 with ⟨_, _, r1, _⟩ | ⟨a1', o1', w2, r1, r2, r3, r4, r5⟩
      · cases r1
      · cases r1
        obtain ⟨r', e3, rfl⟩ := emz_pre e2
        have hP0 : pnz 5 1 = 0 := rfl
        obtain ⟨out, q1, q2⟩ := h5 d 1 a1 _ m LF 0 w2 _ r3 (by omega) (by omega) hd (by simp [ndC] at hm ⊢; omega) (Nat.zero_le _) (by unfold LF; omega) e3
        refine ⟨out, hgr _ ?_, rc_pre q2 rfl r4 r5⟩
        unfold T5 at q1
        unfold f_X7_sum
        exact bd1T r2 q1
  · -- a value
    have e : zV tk (PZ tk n) d a = some res := e
    have hgr : ∀ R, f_X7_value (grpC m) (nI d) w = R → grpC (m + 1) 3 (nI d) 0 w = R := fun R h => by unfold grpC; rw [if_neg (by omega), if_neg (by omega), if_neg (by omega)]; exact h
    obtain ⟨out, q1, q2⟩ := cv_step hN hk hg h3 hS hs hd hm e
    exact ⟨out, hgr _ q1, q2⟩
end CPARSE
