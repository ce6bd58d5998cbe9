-- THE PURE PART: the class reads a line, a book
section CPARSE
variable {tk : Nat → Nat} {N z : Nat}
/-- an order's own step at the end of the line -/
theorem c_own (hk : ∀ j, j < N → 1 ≤ tk j ∧ tk j ≤ 44) {a0 a s : Nat} {w : Mm} (hS : CSt tk N z a s w) (hs : s < 400) (ha : a0 < N) : ∃ w', br (tk a0 = 14) (bd1 (f_X8_add z (tk a0) (nI a0 + 1) (nI a0 + 1) w) (fun r31 w32 => br (r31 = 0) (some ((0 : Int32), w32)) (some (1, w32)))) (bd1 (f_X8_add z (tk a0) (nI a0 + 1) (nI a0 + 3) w) (fun r29 w30 => br (r29 = 0) (some (0, w30)) (some (1, w30)))) = some (1, w') ∧ CSt tk N z a (s + 1) w' ∧ CSEG z s [(tk a0, nI (a0 + 1), nI (if tk a0 = 14 then a0 + 1 else a0 + 3))] w' ∧ FC z s w w' := by
  obtain ⟨w', t1, t2⟩ := c_add (k := tk a0) (x := nI (a0 + 1)) (y := nI (if tk a0 = 14 then a0 + 1 else a0 + 3)) hS (hk a0 ha) hs
  refine ⟨w', ?_, t2⟩
  have e1 : nI a0 + 1 = nI (a0 + 1) := nI_1 _
  have e3 : nI a0 + 3 = nI (a0 + 3) := by rw [show (3 : Int32) = nI 3 from rfl, nI_add]
  by_cases q : tk a0 = 14
  · rw [if_pos q] at t1
    rw [e1]
    exact brT q (bd1T t1 (brF (by decide) rfl))
  · rw [if_neg q] at t1
    rw [e1, e3]
    exact brF q (bd1T t1 (brF (by decide) rfl))
theorem c_when (hN : ∀ j, j + 1 ≤ N → (tk j = 1 ∨ tk j = 2) ∨ j + 2 ≤ N) (hk : ∀ j, j < N → 1 ≤ tk j ∧ tk j ≤ 44) {a0 a s : Nat} {w : Mm} (hS : CSt tk N z a s w) (hs : s + 2 ≤ a) (ha0 : a0 < N) : ∃ out, bd1 (f_X7_take 16 w) (fun r21 w22 => br (r21 = 0) (gd (vok 25 (gR w22 31 0 1)) (sq (gR w22 31 0 1 - 1) (fun p24 => bd1 (f_X8_add p24 6 (-1) (-1) w22) (fun r25 w26 => br (r25 = 0) (some (0, w26)) (gd (vok 25 (gR w26 31 0 1)) (sq (gR w26 31 0 1 - 1) (fun p28 => br (tk a0 = 14) (bd1 (f_X8_add p28 (tk a0) (nI a0 + 1) (nI a0 + 1) w26) (fun r31 w32 => br (r31 = 0) (some (0, w32)) (some (1, w32)))) (bd1 (f_X8_add p28 (tk a0) (nI a0 + 1) (nI a0 + 3) w26) (fun r29 w30 => br (r29 = 0) (some (0, w30)) (some (1, w30))))))))))) (bd1 (g_X7_test 0 w22) (fun r33 w34 => br (r33 = 0) (some (0, w34)) (gd (vok 25 (gR w34 31 0 1)) (sq (gR w34 31 0 1 - 1) (fun p36 => br (tk a0 = 14) (bd1 (f_X8_add p36 (tk a0) (nI a0 + 1) (nI a0 + 1) w34) (fun r39 w40 => br (r39 = 0) (some (0, w40)) (some (1, w40)))) (bd1 (f_X8_add p36 (tk a0) (nI a0 + 1) (nI a0 + 3) w34) (fun r37 w38 => br (r37 = 0) (some (0, w38)) (some (1, w38)))))))))) = some out ∧ RC tk N z s w (zWhen tk a0 a) out := by
  have h4 := hS.2.2.2.2.2.2.1
  have ha := hS.2.2.2.2.2.2.2
  have hz := hS.2.2.2.1
  have hz0 := hS.2.2.1
  unfold zWhen
  by_cases q : tk a = 16
  · rw [if_pos q]
    have h2 : a + 2 ≤ N := by have := hN a ha; omega
    obtain ⟨w1, t1, t2, t3⟩ := c_take hS q h2
    obtain ⟨⟨r, w2⟩, e1, e2⟩ := c_tst hN hk t2 (by omega)
    have hg := gl_tst hN h4 t2.2.2.2.2.2.2.2
    match zTst tk (a + 1), e2, hg with
    | .inl p, e2, hg =>
      obtain ⟨g1, g2, g3⟩ := e2
      simp only at g1 g2 g3
      subst g1
      exact ⟨(0, w2), bd1T t1 (brF (by decide) (bd1T e1 (brT rfl rfl))), rfl, g2, fc_tr (Nat.le_refl _) t3 g3⟩
    | .inr (a1, o), e2, hg =>
      obtain ⟨g1, g2, g3, g4⟩ := e2
      simp only [Gl] at g1 g2 g3 g4 hg
      subst g1
      obtain ⟨w3, u1, u2, u3, u4⟩ := c_own hk g2 (by omega) ha0
      refine ⟨(1, w3), bd1T t1 (brF (by decide) (bd1T e1 (brF (by decide) ?_))), rfl, ?_, cseg_app (cseg_fc g3 u4 (Nat.le_refl _)) u3, fc_tr (Nat.le_refl _) t3 (fc_tr (Nat.le_add_right _ _) g4 u4)⟩
      · rw [g2.2.2.1, Nat.add_sub_cancel]
        exact gdT (vok25 hz) (sqT u1)
      · rw [List.length_append, List.length_singleton, ← Nat.add_assoc]; exact u2
  · rw [if_neg q]
    obtain ⟨w1, t1, t2, t3, t4⟩ := c_add (k := 6) (x := -1) (y := -1) hS (by decide) (by omega)
    obtain ⟨w2, u1, u2, u3, u4⟩ := c_own hk t2 (by omega) ha0
    refine ⟨(1, w2), bd1T (c_takeN hS q) (brT rfl ?_), rfl, ?_, ?_, fc_tr (Nat.le_add_right _ _) t4 u4⟩
    · rw [hz0, Nat.add_sub_cancel]
      refine gdT (vok25 hz) (sqT (bd1T t1 (brF (by decide) ?_)))
      rw [t2.2.2.1, Nat.add_sub_cancel]
      exact gdT (vok25 hz) (sqT u1)
    · exact u2
    · exact cseg_app (o := [sp 6]) (cseg_fc t3 u4 (Nat.le_refl _)) u3
theorem c_line (hN : ∀ j, j + 1 ≤ N → (tk j = 1 ∨ tk j = 2) ∨ j + 2 ≤ N) (hk : ∀ j, j < N → 1 ≤ tk j ∧ tk j ≤ 44) {a s : Nat} {w : Mm} (hS : CSt tk N z a s w) (hs : s ≤ a) : ∃ out, f_X7_line w = some out ∧ RC tk N z s w (zLine tk a) out := by
  have h4 := hS.2.2.2.2.2.2.1
  have ha := hS.2.2.2.2.2.2.2
  have hnow := hS.2.1
  have hat := hS.1
  obtain ⟨_, _, _, _, _, _, _, _, l1, l2, l3⟩ := swvL (hk a (by omega)).1 (hk a (by omega)).2
  unfold f_X7_line zLine
  rw [hnow, hat]
  by_cases q7 : tk a = 7
  · rw [if_pos q7]
    have h2 : a + 2 ≤ N := by have := hN a ha; omega
    obtain ⟨w1, t1, t2, t3⟩ := c_take hS rfl h2
    obtain ⟨out, k1, k2⟩ : ∃ out, bd1 (f_X7_take 3 w1) (fun r5 w6 => br (r5 = 0) (some (0, w6)) (bd1 (f_X7_take 8 w6) (fun r7 w8 => br (r7 = 0) (some (0, w8)) (bd1 (f_X7_take 4 w8) (fun r9 w10 => br (r9 = 0) (some (0, w10)) (some (1, w10))))))) = some out ∧ RC tk N z s w1 (tkz tk 3 (a + 1) (tkz tk 8 (a + 2) (tkz tk 4 (a + 3) (.inr (a + 4, []))))) out := by
      refine rc_tk hN (by decide) t2 fun w2 s2 f2 => rc_tk hN (by decide) s2 fun w3 s3 f3 => rc_tk hN (by decide) s3 fun w4 s4 f4 => ⟨(1, w4), rfl, rfl, s4, cseg_nil, fc_rf⟩
    exact ⟨out, sqT (gdT (kok_of (hk a (by omega))) (brT (l1.mpr q7) (bd1T t1 (brF (by decide) k1)))), rc_mono t3 k2⟩
  · rw [if_neg q7]
    by_cases q9 : tk a = 9
    · rw [if_pos q9]
      have h2 : a + 2 ≤ N := by have := hN a ha; omega
      obtain ⟨w1, t1, t2, t3⟩ := c_take hS rfl h2
      obtain ⟨out, k1, k2⟩ : ∃ out, bd1 (f_X7_take 3 w1) (fun r5 w6 => br (r5 = 0) (some (0, w6)) (bd1 (f_X7_take 10 w6) (fun r7 w8 => br (r7 = 0) (some (0, w8)) (bd1 (f_X7_take 4 w8) (fun r9 w10 => br (r9 = 0) (some (0, w10)) (some (1, w10))))))) = some out ∧ RC tk N z s w1 (tkz tk 3 (a + 1) (tkz tk 10 (a + 2) (tkz tk 4 (a + 3) (.inr (a + 4, []))))) out := by
        refine rc_tk hN (by decide) t2 fun w2 s2 f2 => rc_tk hN (by decide) s2 fun w3 s3 f3 => rc_tk hN (by decide) s3 fun w4 s4 f4 => ⟨(1, w4), rfl, rfl, s4, cseg_nil, fc_rf⟩
      exact ⟨out, sqT (gdT (kok_of (hk a (by omega))) (brF (fun h => q7 (l1.mp h)) (brT (l2.mpr q9) (bd1T t1 (brF (by decide) k1))))), rc_mono t3 k2⟩
    · rw [if_neg q9]
      by_cases q : tk a = 11 ∨ tk a = 12 ∨ tk a = 14
      · rw [if_pos q, zOrd_eq]
        obtain ⟨⟨r, w1⟩, e1, e2⟩ := c_order hN hk hS hs q
        have hok := fun a' o => or1_ok (a' := a') (o := o) hN h4 ha q
        match zOr1 tk a, e2, hok with
        | .inl p, e2, hok =>
          obtain ⟨g1, g2, g3⟩ := e2
          simp only at g1 g2 g3
          subst g1
          exact ⟨(0, w1), sqT (gdT (kok_of (hk a (by omega))) (brF (fun h => q7 (l1.mp h)) (brF (fun h => q9 (l2.mp h)) (brT (l3.mpr q) (bd1T e1 (brT rfl rfl)))))), rfl, g2, g3⟩
        | .inr (a1, o), e2, hok =>
          obtain ⟨g1, g2, g3, g4⟩ := e2
          simp only at g1 g2 g3 g4
          subst g1
          have hb := (hok a1 o rfl).2
          obtain ⟨out, k1, k2⟩ := c_when (a0 := a) hN hk g2 (by omega) (by omega)
          exact ⟨out, sqT (gdT (kok_of (hk a (by omega))) (brF (fun h => q7 (l1.mp h)) (brF (fun h => q9 (l2.mp h)) (brT (l3.mpr q) (bd1T e1 (brF (by decide) k1)))))), rc_pre k2 rfl g3 g4⟩
      · rw [if_neg q]
        exact ⟨(0, w), sqT (gdT (kok_of (hk a (by omega))) (brF (fun h => q7 (l1.mp h)) (brF (fun h => q9 (l2.mp h)) (brF (fun h => q (l3.mp h)) rfl)))), rc_fl hS fc_rf⟩
def RC1 (tk : Nat → Nat) (N z s : Nat) (w : Mm) (res : Rz) (out : Int32 × Mm) : Prop := RC tk N z s w res out ∧ (∀ a o, res = .inr (a, o) → tk a = 1)
theorem l27_0 {u : Int32} {f : Nat} {w : Mm} : f_X7_readsInto_L27 (f + 1) u 0 w = some (0, w) := by
  rw [f_X7_readsInto_L27]
  by_cases h : 400 < u
  · exact brT h rfl
  · exact brF h (brT rfl rfl)
theorem c_book (hN : ∀ j, j + 1 ≤ N → (tk j = 1 ∨ tk j = 2) ∨ j + 2 ≤ N) (hk : ∀ j, j < N → 1 ≤ tk j ∧ tk j ≤ 44) : ∀ n a s u f w, CSt tk N z a s w → s ≤ a → u ≤ a → N ≤ a + n → n + 1 ≤ f → ∃ out, f_X7_readsInto_L27 f (nI u) 1 w = some out ∧ RC1 tk N z s w (zBook tk n a) out
  | 0, a, s, u, f, w => fun hS hs hu hn hf => by have := hS.2.2.2.2.2.2.2; omega
  | n + 1, a, s, u, f, w => fun hS hs hu hn hf => by
    have h4 := hS.2.2.2.2.2.2.1
    have ha := hS.2.2.2.2.2.2.2
    have hnow := hS.2.1
    obtain ⟨f', rfl⟩ : ∃ f', f = f' + 1 := ⟨f - 1, by omega⟩
    have hu4 : ¬ ((400 : Int32) < nI u) := (by (simp (disch := omega) only [lit_nI, nI_leI, nI_ltI, nI_eq, nI_clamp, nI_add, nI_sub, vB_nI, Nat.add_sub_cancel, Nat.reduceSub, Nat.reduceLT, Nat.reduceLeDiff, Nat.reduceAdd, gI_pI, p2_pI, Nat.reduceEqDiff, false_and, and_false, true_and, and_true, if_false, if_true, and_self] <;> omega))
    unfold zBook
    rw [f_X7_readsInto_L27, hnow]
    by_cases q : tk a = 1
    · rw [if_pos q]
      exact ⟨(1, w), brF hu4 (brF (by decide) (brT q rfl)), ⟨rfl, hS, cseg_nil, fc_rf⟩, fun a' o e => by cases e; exact q⟩
    · rw [if_neg q]
      obtain ⟨⟨r, w1⟩, e1, e2⟩ := c_line hN hk hS hs
      have hg := gl_line hN h4 ha
      match zLine tk a, e2, hg with
      | .inl p, e2, hg =>
        obtain ⟨g1, g2, g3⟩ := e2
        simp only at g1 g2 g3
        subst g1
        obtain ⟨f'', rfl⟩ : ∃ f'', f' = f'' + 1 := ⟨f' - 1, by omega⟩
        exact ⟨(0, w1), brF hu4 (brF (by decide) (brF q (bd1T e1 (brT rfl (sqT l27_0))))), ⟨rfl, g2, g3⟩, fun a' o e => by cases e⟩
      | .inr (a1, o), e2, hg =>
        obtain ⟨g1, g2, g3, g4⟩ := e2
        simp only [Gl] at g1 g2 g3 g4 hg
        subst g1
        show ∃ out, _ ∧ RC1 tk N z s w (tkz tk 34 a1 (prz o (zBook tk n (a1 + 1)))) out
        unfold tkz
        by_cases q34 : tk a1 = 34
        · rw [if_pos q34]
          have h2 : a1 + 2 ≤ N := by have := hN a1 hg.1; omega
          obtain ⟨w2, t1, t2, t3⟩ := c_take g2 q34 h2
          obtain ⟨out, k1, k2, k3⟩ := c_book hN hk n (a1 + 1) _ (u + 1) f' w2 t2 (by omega) (by omega) (by omega) (by omega)
          refine ⟨out, brF hu4 (brF (by decide) (brF q (bd1T e1 (brF (by decide) (bd1T t1 (brF (by decide) (sqT ?_))))))), rc_pre k2 rfl (cseg_fc g3 t3 (Nat.le_refl _)) (fc_tr (Nat.le_add_right _ _) g4 t3), fun a' o' e => ?_⟩
          · rw [nI_1]; exact k1
          · match zBook tk n (a1 + 1), e, k3 with
            | .inl _, e, _ => cases e
            | .inr (a2, o2), e, k3 => cases e; exact k3 _ _ rfl
        · rw [if_neg q34]
          obtain ⟨f'', rfl⟩ : ∃ f'', f' = f'' + 1 := ⟨f' - 1, by omega⟩
          exact ⟨(0, w1), brF hu4 (brF (by decide) (brF q (bd1T e1 (brF (by decide) (bd1T (c_takeN g2 q34) (brT rfl (sqT l27_0))))))), ⟨rfl, g2.1, g4⟩, fun a' o e => by cases e⟩
/-- the class reads a book -/
theorem c_reads (hN : ∀ j, j + 1 ≤ N → (tk j = 1 ∨ tk j = 2) ∨ j + 2 ≤ N) (hk : ∀ j, j < N → 1 ≤ tk j ∧ tk j ≤ 44) (h4 : 1 ≤ N ∧ N ≤ 401) {w : Mm} (hz : z < 2) (ht : ∀ j, j < N → gR w 5 0 j = tk j) (h7 : gI w 25 z 7 = 0) : ∃ out, f_X7_readsInto z w = some out ∧ (match zBook tk N 0 with
    | .inl e => out.1 = 0 ∧ gI out.2 31 0 2 = nI e ∧ FC z 0 (pR w 31 0 1 (z + 1)) out.2
    | .inr (a, o) => out.1 = 1 ∧ gI out.2 25 z 7 = nI o.length ∧ CSEG z 0 o out.2 ∧ FC z 0 (pR w 31 0 1 (z + 1)) out.2) := by
  have hF0 : FC z 0 (pR w 31 0 1 (z + 1)) (pR (pI (pR w 31 0 1 (z + 1)) 31 0 2 0) 31 0 3 (tk 0)) := ⟨fun c k i q1 q2 q3 => by
    show gI (pI (pR w 31 0 1 (z + 1)) 31 0 2 0) c k i = _
    rw [gI_pI, if_neg (by omega)], fun _ _ _ => rfl, fun c k i q1 q2 => by rw [gR_pR, if_neg q1]; rfl, rfl⟩
  have hS : CSt tk N z 0 0 (pR (pI (pR w 31 0 1 (z + 1)) 31 0 2 0) 31 0 3 (tk 0)) := by
    refine ⟨?_, ?_, ?_, hz, fun j hj => ?_, ?_, h4.2, h4.1⟩
    · show gI (pI (pR w 31 0 1 (z + 1)) 31 0 2 0) 31 0 2 = _
      rw [gI_pI, if_pos ⟨rfl, rfl, rfl⟩]; rfl
    · rw [gR_pR, if_pos ⟨rfl, rfl, rfl⟩]
    · rw [gR_pR, if_neg (by omega)]
      show gR (pR w 31 0 1 (z + 1)) 31 0 1 = _
      rw [gR_pR, if_pos ⟨rfl, rfl, rfl⟩]
    · rw [gR_pR, if_neg (by omega)]
      show gR (pR w 31 0 1 (z + 1)) 5 0 j = _
      rw [gR_pR, if_neg (by omega)]; exact ht j hj
    · show gI (pI (pR w 31 0 1 (z + 1)) 31 0 2 0) 25 z 7 = _
      rw [gI_pI, if_neg (by omega)]; exact h7
  have hrun : ∀ R, bd1 (f_X7_readsInto_L27 LF 0 1 (pR (pI (pR w 31 0 1 (z + 1)) 31 0 2 0) 31 0 3 (tk 0))) (fun y12 w13 => br (y12 = 0) (some (0, w13)) (br ((gR w13 31 0 3) = 1) (some (1, w13)) (some (0, w13)))) = R → f_X7_readsInto z w = R := by
    intro R hR
    unfold f_X7_readsInto
    refine sqT (sqT (gdT rfl ?_))
    have e0 : gR (pI (pR w 31 0 1 (z + 1)) 31 0 2 0) 5 0 (0 : Int32).toNatClampNeg = tk 0 := by
      show gR (pR w 31 0 1 (z + 1)) 5 0 0 = _
      rw [gR_pR, if_neg (by omega)]; exact ht 0 (by omega)
    rw [e0]
    exact sqT hR
  obtain ⟨⟨r, w1⟩, k1, k2, k3⟩ := c_book hN hk N 0 0 0 LF _ hS (by omega) (by omega) (by omega) (by unfold LF; omega)
  match zBook tk N 0, k2, k3 with
  | .inl e, k2, k3 =>
    obtain ⟨g1, g2, g3⟩ := k2
    simp only at g1 g2 g3
    subst g1
    exact ⟨(0, w1), hrun _ (bd1T k1 (brT rfl rfl)), rfl, g2, fc_tr (Nat.le_refl _) hF0 g3⟩
  | .inr (a, o), k2, k3 =>
    obtain ⟨g1, g2, g3, g4⟩ := k2
    simp only at g1 g2 g3 g4
    subst g1
    refine ⟨(1, w1), hrun _ (bd1T k1 (brF (by decide) (brT ?_ rfl))), rfl, ?_, g3, fc_tr (Nat.le_refl _) hF0 g4⟩
    · rw [g2.2.1]; exact k3 _ _ rfl
    · have := g2.2.2.2.2.2.1
      rwa [Nat.zero_add] at this
end CPARSE
