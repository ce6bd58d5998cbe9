-- THE PURE PART: the class's parser follows the grammar
theorem c_addsUp {k : Nat} {w : Mm} : f_X4_addsUp k w = some (if k = 36 ∨ k = 37 then 1 else 0, w) := by
  unfold f_X4_addsUp
  by_cases h : k = 36
  · rw [if_pos (Or.inl h)]; exact brT h rfl
  · by_cases h2 : k = 37
    · rw [if_pos (Or.inr h2)]; exact brF h (brT h2 rfl)
    · rw [if_neg (by omega)]; exact brF h (brF h2 rfl)
theorem c_mult {k : Nat} {w : Mm} : f_X4_multiplies k w = some (if k = 38 ∨ k = 39 then 1 else 0, w) := by
  unfold f_X4_multiplies
  by_cases h : k = 38
  · rw [if_pos (Or.inl h)]; exact brT h rfl
  · by_cases h2 : k = 39
    · rw [if_pos (Or.inr h2)]; exact brF h (brT h2 rfl)
    · rw [if_neg (by omega)]; exact brF h (brF h2 rfl)
theorem c_isCm {k : Nat} {w : Mm} : f_X4_isComparison k w = some (if 40 ≤ k ∧ k ≤ 44 then 1 else 0, w) := by
  unfold f_X4_isComparison
  by_cases h : 40 ≤ k ∧ k ≤ 44
  · rw [if_pos h]
    have : k = 40 ∨ k = 41 ∨ k = 42 ∨ k = 43 ∨ k = 44 := by omega
    rcases this with rfl | rfl | rfl | rfl | rfl
    · exact brT rfl rfl
    · exact brF (by decide) (brT rfl rfl)
    · exact brF (by decide) (brF (by decide) (brT rfl rfl))
    · exact brF (by decide) (brF (by decide) (brF (by decide) (brT rfl rfl)))
    · exact brF (by decide) (brF (by decide) (brF (by decide) (brF (by decide) (brT rfl rfl))))
  · rw [if_neg h]; exact brF (by omega) (brF (by omega) (brF (by omega) (brF (by omega) (brF (by omega) rfl))))
theorem kok_of {k : Nat} (h : 1 ≤ k ∧ k ≤ 44) : kok k = true := by simp only [kok, Bool.and_eq_true, decide_eq_true_eq]; exact h
theorem vok25 {z : Nat} (h : z < 2) : vok 25 (z + 1) = true := by
  have : z = 0 ∨ z = 1 := by omega
  rcases this with rfl | rfl <;> rfl
theorem l13_0 {rec : Nat → Int32 → Int32 → Mm → Option (Int32 × Mm)} {z u : Int32} {x f : Nat} {w : Mm} : f_X7_sum_L13 rec z (f + 1) u 0 x w = some (0, x, w) := by
  rw [f_X7_sum_L13]
  by_cases h : 400 ≤ u
  · exact brT h rfl
  · exact brF h (brT rfl rfl)
theorem l11_0 {rec : Nat → Int32 → Int32 → Mm → Option (Int32 × Mm)} {z u x : Int32} {f : Nat} {w : Mm} : f_X7_test_L11 rec z (f + 1) u 0 x w = some (0, x, w) := by
  rw [f_X7_test_L11]
  by_cases h : 400 ≤ u
  · exact brT h rfl
  · exact brF h (brT rfl rfl)
/-- what the parser's methods do, at spec fuel n -/
def CP (tk : Nat → Nat) (N z n : Nat) : Prop := ∀ v d x a s m w res, v ≤ 3 → CSt tk N z a s w → s ≤ a → d ≤ 8 → ndC v d ≤ m → PZ tk n v d x a = some res → ∃ out, grpC m v (nI d) 0 w = some out ∧ RC tk N z s w res out
def CL4 (tk : Nat → Nat) (N z n : Nat) : Prop := ∀ d x a s m f u w res, CSt tk N z a s w → s + pnz 4 x ≤ a → x ≤ 1 → d ≤ 8 → ndC 4 d ≤ m → u ≤ a → 402 ≤ u + f → PZ tk n 4 d x a = some res → ∃ out, T4 m d f u x w = some out ∧ RC tk N z s w res out
def CL5 (tk : Nat → Nat) (N z n : Nat) : Prop := ∀ d x a s m f u w res, CSt tk N z a s w → s + pnz 5 x ≤ a → 1 ≤ x ∧ x ≤ 44 → d ≤ 8 → ndC 5 d ≤ m → u ≤ a → 402 ≤ u + f → PZ tk n 5 d x a = some res → ∃ out, T5 m d f u x w = some out ∧ RC tk N z s w res out
/-- a method's answer, used inside another -/
theorem cp_use {tk : Nat → Nat} {N z n : Nat} (h : CP tk N z n) {v d x a s m : Nat} {w : Mm} {res : Rz} (hv : v ≤ 3) (hS : CSt tk N z a s w) (hs : s ≤ a) (hd : d ≤ 8) (hm : ndC v d ≤ m) (e : PZ tk n v d x a = some res) : (∃ p w1, res = .inl p ∧ grpC m v (nI d) 0 w = some (0, w1) ∧ gI w1 31 0 2 = nI p ∧ FC z s w w1) ∨ (∃ a1 o w1, res = .inr (a1, o) ∧ grpC m v (nI d) 0 w = some (1, w1) ∧ CSt tk N z a1 (s + o.length) w1 ∧ CSEG z s o w1 ∧ FC z s w w1) := by
  obtain ⟨⟨r, w1⟩, h1, h2⟩ := h v d x a s m w res hv hS hs hd hm e
  match res, h2 with
  | .inl p, h2 =>
    obtain ⟨g1, g2, g3⟩ := h2
    simp only at g1 g2 g3
    subst g1
    exact Or.inl ⟨p, w1, rfl, h1, g2, g3⟩
  | .inr (a1, o), h2 =>
    obtain ⟨g1, g2, g3, g4⟩ := h2
    simp only at g1 g2 g3 g4
    subst g1
    exact Or.inr ⟨a1, o, w1, rfl, h1, g2, g3, g4⟩
def prz (p : List Ps) : Rz → Rz
  | .inl e => .inl e
  | .inr (a, o) => .inr (a, p ++ o)
theorem emz_pre {X : Option Rz} {p : List Ps} {r : Rz} (h : emz p X = some r) : ∃ r', X = some r' ∧ r = prz p r' := by
  match X, h with
  | none, h => cases h
  | some (.inl e), h => cases h; exact ⟨_, rfl, rfl⟩
  | some (.inr (a, o)), h => cases h; exact ⟨_, rfl, rfl⟩
theorem rc_pre {tk : Nat → Nat} {N z s s1 : Nat} {w w1 : Mm} {o : List Ps} {res : Rz} {out : Int32 × Mm} (h : RC tk N z s1 w1 res out) (e : s1 = s + o.length) (hc : CSEG z s o w1) (u : FC z s w w1) : RC tk N z s w (prz o res) out := by
  subst e
  match res, h with
  | .inl p, h => exact ⟨h.1, h.2.1, fc_tr (by omega) u h.2.2⟩
  | .inr (a, o'), h =>
    obtain ⟨h1, h2, h3, h4⟩ := h
    refine ⟨h1, ?_, cseg_app (cseg_fc hc h4 (Nat.le_refl _)) h3, fc_tr (by omega) u h4⟩
    rw [List.length_append, ← Nat.add_assoc]
    exact h2
section CPARSE
variable {tk : Nat → Nat} {N z n : Nat}
theorem cl5_step (hN : ∀ j, j + 1 ≤ N → (tk j = 1 ∨ tk j = 2) ∨ j + 2 ≤ N) (hk : ∀ j, j < N → 1 ≤ tk j ∧ tk j ≤ 44) (hg : ∀ n v d w a, v ≤ 5 → a + 1 ≤ N → Gz N n v w a (PZ tk n v d w a)) (h3 : CP tk N z n) (h5 : CL5 tk N z n) : CL5 tk N z (n + 1) := by
  intro d x a s m f u w res hS hs hx hd hm hu hf e
  have hN4 := hS.2.2.2.2.2.2.1
  have haN := hS.2.2.2.2.2.2.2
  have hz := hS.2.2.2.1
  have hka := hk a (by omega)
  have ha2 : tk a ≠ 1 → tk a ≠ 2 → a + 2 ≤ N := fun q1 q2 => by have := hN a haN; omega
  have e : zEL tk (PZ tk n) d x a = some res := e
  unfold zEL at e
  obtain ⟨f', rfl⟩ : ∃ f', f = f' + 1 := ⟨f - 1, by omega⟩
  have hnow := hS.2.1
  have hz0 := hS.2.2.1
  have hP : pnz 5 x = if x = 1 then 0 else 1 := rfl
  have hmm : ndC 3 d ≤ m := by simp only [ndC] at hm ⊢; simp at hm ⊢; omega
  by_cases hm2 : tk a = 38 ∨ tk a = 39
  · rw [if_pos hm2] at e
    have ha2 := ha2 (by omega) (by omega)
    have hnad : ¬ (tk a = 36 ∨ tk a = 37) := by omega
    obtain ⟨w1, t1, t2, t3⟩ := c_take hS rfl ha2
    -- the loop's body as far as the value
    have body : ∀ R, bd1 (grpC m 3 (nI d) 0 w1) (fun r68 w69 => br (r68 = 0) (sq (nI u + 1) (fun x70 => f_X7_sum_L13 (grpC m) (nI d) f' x70 0 x w69)) (gd (vok 25 (gR w69 31 0 1)) (sq (gR w69 31 0 1 - 1) (fun p72 => bd1 (f_X8_add p72 (tk a) (-1) (-1) w69) (fun r73 w74 => br (r73 = 0) (sq (nI u + 1) (fun x75 => f_X7_sum_L13 (grpC m) (nI d) f' x75 0 x w74)) (sq (nI u + 1) (fun x76 => f_X7_sum_L13 (grpC m) (nI d) f' x76 1 x w74))))))) = R → f_X7_sum_L13 (grpC m) (nI d) (f' + 1) (nI u) 1 x w = R := by
      intro R hR
      rw [f_X7_sum_L13, hnow]
      refine brF (by (simp (disch := omega) only [lit_nI, nI_leI, nI_ltI, nI_eq, nI_clamp, nI_add, nI_sub, vB_nI, Nat.add_sub_cancel, Nat.reduceSub, Nat.reduceLT, Nat.reduceLeDiff, Nat.reduceAdd, gI_pI, p2_pI, Nat.reduceEqDiff, false_and, and_false, true_and, and_true, if_false, if_true, and_self] <;> omega)) (brF (by decide) (gdT (kok_of hka) (bd1T c_addsUp ?_)))
      rw [if_neg hnad]
      refine brT rfl ?_
      rw [hnow]
      refine gdT (kok_of hka) (bd1T c_mult ?_)
      rw [if_pos hm2]
      refine brF (by decide) ?_
      rw [hnow]
      refine gdT (kok_of hka) (bd1T c_mult ?_)
      rw [if_pos hm2]
      exact brF (by decide) (bd1T t1 (brF (by decide) hR))
    rcases bdz_in e with ⟨p, e1, rfl⟩ | ⟨a1, o1, e1, e2⟩
    · rcases cp_use h3 (m := m) (by omega) t2 (by omega) hd hmm e1 with ⟨p', w2, r1, r2, r3, r4⟩ | ⟨_, _, _, r1, _⟩
      · cases r1
        obtain ⟨f'', rfl⟩ : ∃ f'', f' = f'' + 1 := ⟨f' - 1, by omega⟩
        refine ⟨(0, w2), ?_, rfl, r3, fc_tr (Nat.le_refl _) t3 r4⟩
        unfold T5
        exact bd2T (body _ (bd1T r2 (brT rfl (sqT l13_0)))) (brT rfl rfl)
      · cases r1
    · have g1 := hg n 3 d 0 (a + 1) (by omega) (by omega)
      rw [e1] at g1
      simp only [Gz] at g1
      have g2 := g1.2.1
      have gp : pnz 3 0 = 0 := rfl
      rcases cp_use h3 (m := m) (by omega) t2 (by omega) hd hmm e1 with ⟨_, _, r1, _⟩ | ⟨a1', o1', w2, r1, r2, r3, r4, r5⟩
      · cases r1
      · cases r1
        have hz1 : gR w2 31 0 1 = z + 1 := r3.2.2.1
        obtain ⟨w3, u1, u2, u3, u4⟩ := c_add (k := tk a) (x := -1) (y := -1) r3 hka (by omega)
        obtain ⟨r', e3, rfl⟩ := emz_pre e2
        obtain ⟨out, q1, q2⟩ := h5 d x a1 (s + o1.length + 1) m f' (u + 1) w3 _ u2 (by omega) hx hd hm (by omega) (by omega) e3
        have hL : f_X7_sum_L13 (grpC m) (nI d) (f' + 1) (nI u) 1 x w = f_X7_sum_L13 (grpC m) (nI d) f' (nI (u + 1)) 1 x w3 := by
          refine body _ (bd1T r2 (brF (by decide) ?_))
          rw [hz1, Nat.add_sub_cancel]
          refine gdT (vok25 hz) (sqT (bd1T u1 (brF (by decide) (sqT ?_))))
          rw [nI_1]
        have hF : FC z s w w3 := fc_tr (Nat.le_refl _) t3 (fc_tr (Nat.le_add_right _ _) r5 u4)
        refine ⟨out, ?_, rc_pre q2 (by simp only [List.length_append, List.length_singleton]; omega) (cseg_app (cseg_fc r4 u4 (Nat.le_refl _)) u3) hF⟩
        unfold T5 at q1 ⊢
        rw [hL]; exact q1
  · rw [if_neg hm2] at e
    by_cases had : tk a = 36 ∨ tk a = 37
    · rw [if_pos had] at e
      have ha2 := ha2 (by omega) (by omega)
      -- the sign that waits goes first
      have hpre : ∃ w0, CSt tk N z a (s + (if x = 1 then [] else [sp x] : List Ps).length) w0 ∧ CSEG z s (if x = 1 then [] else [sp x]) w0 ∧ FC z s w w0 ∧ ∀ R, bd1 (f_X7_take (tk a) w0) (fun r9 w10 => br (r9 = 0) (sq (nI u + 1) (fun x11 => f_X7_sum_L13 (grpC m) (nI d) f' x11 0 (tk a) w10)) (bd1 (grpC m 3 (nI d) 0 w10) (fun r12 w13 => br (r12 = 0) (sq (nI u + 1) (fun x14 => f_X7_sum_L13 (grpC m) (nI d) f' x14 0 (tk a) w13)) (sq (nI u + 1) (fun x15 => f_X7_sum_L13 (grpC m) (nI d) f' x15 1 (tk a) w13))))) = R → f_X7_sum_L13 (grpC m) (nI d) (f' + 1) (nI u) 1 x w = R := by
        by_cases hx1 : x = 1
        · rw [if_pos hx1]
          refine ⟨w, hS, cseg_nil, fc_rf, fun R hR => ?_⟩
          rw [f_X7_sum_L13, hnow]
          refine brF (by (simp (disch := omega) only [lit_nI, nI_leI, nI_ltI, nI_eq, nI_clamp, nI_add, nI_sub, vB_nI, Nat.add_sub_cancel, Nat.reduceSub, Nat.reduceLT, Nat.reduceLeDiff, Nat.reduceAdd, gI_pI, p2_pI, Nat.reduceEqDiff, false_and, and_false, true_and, and_true, if_false, if_true, and_self] <;> omega)) (brF (by decide) (gdT (kok_of hka) (bd1T c_addsUp ?_)))
          rw [if_pos had]
          refine brF (by decide) ?_
          rw [hnow]
          refine gdT (kok_of hka) (bd1T c_mult ?_)
          rw [if_neg hm2]
          exact brT rfl (brT hx1 hR)
        · rw [if_neg hx1]
          rw [if_neg hx1] at hP
          obtain ⟨w0, u1, u2, u3, u4⟩ := c_add (k := x) (x := -1) (y := -1) hS hx (by omega)
          refine ⟨w0, u2, u3, u4, fun R hR => ?_⟩
          rw [f_X7_sum_L13, hnow]
          refine brF (by (simp (disch := omega) only [lit_nI, nI_leI, nI_ltI, nI_eq, nI_clamp, nI_add, nI_sub, vB_nI, Nat.add_sub_cancel, Nat.reduceSub, Nat.reduceLT, Nat.reduceLeDiff, Nat.reduceAdd, gI_pI, p2_pI, Nat.reduceEqDiff, false_and, and_false, true_and, and_true, if_false, if_true, and_self] <;> omega)) (brF (by decide) (gdT (kok_of hka) (bd1T c_addsUp ?_)))
          rw [if_pos had]
          refine brF (by decide) ?_
          rw [hnow]
          refine gdT (kok_of hka) (bd1T c_mult ?_)
          rw [if_neg hm2]
          refine brT rfl (brF hx1 ?_)
          rw [hz0, Nat.add_sub_cancel]
          exact gdT (vok25 hz) (sqT (bd1T u1 (brF (by decide) hR)))
      obtain ⟨w0, v1, v2, v3, body⟩ := hpre
      have hlen : (if x = 1 then [] else [sp x] : List Ps).length = pnz 5 x := by rw [hP]; split <;> rfl
      obtain ⟨w1, t1, t2, t3⟩ := c_take v1 rfl ha2
      rcases bdz_in e with ⟨p, e1, rfl⟩ | ⟨a1, o1, e1, e2⟩
      · rcases cp_use h3 (m := m) (by omega) t2 (by omega) hd hmm e1 with ⟨p', w2, r1, r2, r3, r4⟩ | ⟨_, _, _, r1, _⟩
        · cases r1
          obtain ⟨f'', rfl⟩ : ∃ f'', f' = f'' + 1 := ⟨f' - 1, by omega⟩
          refine ⟨(0, w2), ?_, rfl, r3, fc_tr (Nat.le_add_right _ _) v3 (fc_tr (Nat.le_refl _) t3 r4)⟩
          unfold T5
          exact bd2T (body _ (bd1T t1 (brF (by decide) (bd1T r2 (brT rfl (sqT l13_0)))))) (brT rfl rfl)
        · cases r1
      · have g1 := hg n 3 d 0 (a + 1) (by omega) (by omega)
        rw [e1] at g1
        simp only [Gz] at g1
        have g2 := g1.2.1
        have gp : pnz 3 0 = 0 := rfl
        rcases cp_use h3 (m := m) (by omega) t2 (by omega) hd hmm e1 with ⟨_, _, r1, _⟩ | ⟨a1', o1', w2, r1, r2, r3, r4, r5⟩
        · cases r1
        · cases r1
          obtain ⟨r', e3, rfl⟩ := emz_pre e2
          have hne : ¬ tk a = 1 := by omega
          have hP2 : pnz 5 (tk a) = 1 := by simp [pnz, hne]
          obtain ⟨out, q1, q2⟩ := h5 d (tk a) a1 _ m f' (u + 1) w2 _ r3 (by omega) hka hd hm (by omega) (by omega) e3
          have hL : f_X7_sum_L13 (grpC m) (nI d) (f' + 1) (nI u) 1 x w = f_X7_sum_L13 (grpC m) (nI d) f' (nI (u + 1)) 1 (tk a) w2 := by
            refine body _ (bd1T t1 (brF (by decide) (bd1T r2 (brF (by decide) (sqT ?_)))))
            rw [nI_1]
          have hF : FC z s w w2 := fc_tr (Nat.le_add_right _ _) v3 (fc_tr (Nat.le_refl _) t3 r5)
          refine ⟨out, ?_, rc_pre q2 (by rw [List.length_append, Nat.add_assoc]) (cseg_app (cseg_fc v2 (fc_tr (Nat.le_refl _) t3 r5) (Nat.le_refl _)) r4) hF⟩
          unfold T5 at q1 ⊢
          rw [hL]; exact q1
    · rw [if_neg had] at e
      cases e
      have hL : f_X7_sum_L13 (grpC m) (nI d) (f' + 1) (nI u) 1 x w = some (1, x, w) := by
        rw [f_X7_sum_L13]
        by_cases h4 : 400 ≤ nI u
        · exact brT h4 rfl
        · refine brF h4 (brF (by decide) ?_)
          rw [hnow]
          refine gdT (kok_of hka) (bd1T c_addsUp ?_)
          rw [if_neg had]
          refine brT rfl ?_
          rw [hnow]
          refine gdT (kok_of hka) (bd1T c_mult ?_)
          rw [if_neg hm2]
          exact brT rfl rfl
      by_cases hx1 : x = 1
      · rw [if_pos hx1]
        refine ⟨(1, w), ?_, rfl, hS, cseg_nil, fc_rf⟩
        unfold T5
        exact bd2T hL (brF (by decide) (brT hx1 rfl))
      · rw [if_neg hx1]
        rw [if_neg hx1] at hP
        by_cases hs4 : s < 400
        · obtain ⟨w0, u1, u2, u3, u4⟩ := c_add (k := x) (x := -1) (y := -1) hS hx hs4
          refine ⟨(1, w0), ?_, rfl, u2, u3, u4⟩
          unfold T5
          refine bd2T hL (brF (by decide) (brF hx1 ?_))
          rw [hz0, Nat.add_sub_cancel]
          exact gdT (vok25 hz) (sqT (bd1T u1 (brF (by decide) rfl)))
        · omega
end CPARSE
