-- THE PURE PART: the reference's parser follows the grammar, all of it
section RPARSE
variable {T : List Nat} {tk st ln : Nat → Nat} {N p n : Nat}
theorem b_vnm {d a m q e k : Nat} {w : Mm} {res : Rz} (hN : ∀ j, j + 1 ≤ N → (tk j = 1 ∨ tk j = 2) ∨ j + 2 ≤ N) (hk : ∀ j, j < N → KK (tk j)) (hS : MSt T tk st ln N p a d m q w) (hm : m + e ≤ 2 * a) (hq : q ≤ a) (h4 : tk a = 20 ∨ tk a = 21 ∨ tk a = 22) (g : (if tk (a + 1) = 23 then (if tk (a + 2) = 3 then okz (a + 3) [(tk a, nI (a + 2), -1)] else flz (a + 2)) else flz (a + 1)) = some res) : ∃ out, f_X15_isValue (grpR k) w = some out ∧ RM T tk st ln N p d m q e w res out := by
  have hN4 := hS.2.2.2.2.2.1
  have haN := hS.2.2.2.2.2.2.1
  have h2 : a + 2 ≤ N := by have := hN a haN; omega
  obtain ⟨w1, u1, u2, u3, u4⟩ := b_put hS (mk (tk a)) (by omega)
  obtain ⟨w2, hw2⟩ : ∃ w2, w2 = pI w1 32 0 9 ((gI w1 32 0 9) + 1) := ⟨_, rfl⟩
  obtain ⟨x1, x2⟩ := m_adv u2 h2 (rol_0 (by omega))
  rw [← hw2] at x1 x2
  have hF2 : FM p m q w w2 := fm_tr (Nat.le_succ _) (Nat.le_refl _) u4 x2
  have hc : ¬ mk (tk a) < 10 ∧ 12 < mk (tk a) ∧ ¬ mk (tk a) < 13 ∧ ¬ 15 < mk (tk a) ∧ (mk (tk a) = 15 ↔ tk a = 22) := by
    obtain ⟨⟨a1, a2, a3, a4, a5⟩, ⟨b1, b2, b3, b4, b5⟩, ⟨c1, c2, c3, c4, c5⟩⟩ := mk_hi
    rcases h4 with h | h | h <;> rw [h]
    · exact ⟨a1, a2, a3, a4, ⟨fun h => (a5 h).elim, fun h => by omega⟩⟩
    · exact ⟨b1, b2, b3, b4, ⟨fun h => (b5 h).elim, fun h => by omega⟩⟩
    · exact ⟨c1, c2, c3, c4, ⟨fun _ => rfl, fun _ => c5⟩⟩
  have run : ∀ X : Int32 × Mm, bd1 (f_X15_eat 16 w2) (fun r87 w88 => br (r87 = 0) (some (0, w88)) (br ((mk (tk a)) = 15) (bd1 (f_X15_isName 8 w88) (fun r91 w92 => br (r91 = 0) (some (0, w92)) (some (1, w92)))) (bd1 (f_X15_isName 7 w88) (fun r89 w90 => br (r89 = 0) (some (0, w90)) (some (1, w90)))))) = some X → f_X15_isValue (grpR k) w = some X := fun X hX => by
    rw [hw2] at hX
    exact b_v0 hS (bd1T (b_isF hS hk 4 41 (by decide) (by decide) (by omega)) (brT rfl (brF hc.1 (brT hc.2.1 (brF hc.2.2.1 (brF hc.2.2.2.1 (bd0T u1 (sqT hX)))))))) (by simp)
  by_cases q23 : tk (a + 1) = 23
  · rw [if_pos q23] at g
    have h3 : a + 1 + 2 ≤ N := by have := hN (a + 1) h2; omega
    obtain ⟨w3, y1, y2, y3⟩ := b_eatT x1 hk 23 16 (by decide) (by decide) q23 h3 (rol_0 (by omega))
    have hr : ∀ r, (r = if tk a = 22 then 8 else 7) → tk (a + 1 + 1) = 3 → rol tk (a + 1 + 1) = r := fun r hr h3 => by
      unfold rol
      rw [if_pos h3, if_neg (by omega), Nat.add_sub_cancel, if_neg (by omega), if_neg (by omega), if_neg (by omega), if_neg (by omega), if_neg (by omega), if_pos q23, show a + 1 + 1 - 2 = a by omega, hr]
    obtain ⟨w4, z1, z2, z3, z4, z5, z6⟩ := b_name y2 hk (if tk a = 22 then 8 else 7) (by omega) (by omega) (fun h3 => by have := hN (a + 1 + 1) (by omega); omega) (hr _ rfl)
    have hF4 : FM p m q w w4 := fm_tr (Nat.le_succ _) (Nat.le_refl _) hF2 (fm_tr (Nat.le_refl _) (Nat.le_refl _) y3 z6)
    have run2 : ∀ X : Int32 × Mm, bd1 (f_X15_isName (nI (if tk a = 22 then 8 else 7)) w3) (fun r w' => br (r = 0) (some (0, w')) (some (1, w'))) = some X → f_X15_isValue (grpR k) w = some X := fun X hX => by
      refine run X (bd1T y1 (brF (by decide) ?_))
      by_cases q22 : tk a = 22
      · rw [if_pos q22] at hX
        exact brT (hc.2.2.2.2.mpr q22) hX
      · rw [if_neg q22] at hX
        exact brF (fun h => q22 (hc.2.2.2.2.mp h)) hX
    by_cases q3 : tk (a + 1 + 1) = 3
    · rw [show a + 2 = a + 1 + 1 from rfl, if_pos q3] at g
      rw [if_pos q3] at z1
      cases g
      have e1 : mcs (nva T st ln) [(tk a, nI (a + 1 + 1), -1)] = [mk (tk a), nI (a + 1 + 1)] := by
        rcases h4 with h | h | h <;> (rw [h]; rfl)
      have e2 : opn (nva T st ln) m [(tk a, nI (a + 1 + 1), -1)] = [m + 1] := by
        rcases h4 with h | h | h <;> (rw [h]; rfl)
      refine ⟨(1, w4), run2 _ (bd1T z1 (brF (by decide) rfl)), rfl, ?_, ?_, ?_, ?_, ?_, hF4⟩
      · rw [e1, e2]; exact z2 q3
      · rw [e1]
        intro j v ev
        match j, ev with
        | 0, ev =>
          cases ev
          show gI w4 53 p _ = _
          rw [z6.1 _ _ _ (by omega) (by omega) (by omega) (by omega) (by omega), y3.1 _ _ _ (by omega) (by omega) (by omega) (by omega) (by omega), x2.1 _ _ _ (by omega) (by omega) (by omega) (by omega) (by omega)]
          exact u3
        | 1, ev => cases ev; exact z4
        | j + 2, ev => simp at ev
      · rw [e2]; exact oseg_1 z5
      · rw [e1]; show m + 2 + e ≤ 2 * (a + 1 + 1 + 1); omega
      · rw [e2]; show q + 1 ≤ a + 1 + 1 + 1; omega
    · rw [show a + 2 = a + 1 + 1 from rfl, if_neg q3] at g
      rw [if_neg q3] at z1
      cases g
      exact ⟨(0, w4), run2 _ (bd1T z1 (brT rfl rfl)), rfl, z3 q3, hF4⟩
  · rw [if_neg q23] at g
    cases g
    exact ⟨(0, w2), run _ (bd1T (b_eatF x1 hk 23 16 (by decide) (by decide) q23) (brT rfl rfl)), rm_fl x1 hF2⟩
theorem b_value (hN : ∀ j, j + 1 ≤ N → (tk j = 1 ∨ tk j = 2) ∨ j + 2 ≤ N) (hk : ∀ j, j < N → KK (tk j)) (h1 : RP T tk st ln N p n) {d a m q e k : Nat} {w : Mm} {res : Rz} (hS : MSt T tk st ln N p a d m q w) (hm : m + e ≤ 2 * a) (hq : q ≤ a) (hp : pvk tk a) (hnd : ndR 3 d ≤ k) (g : zV tk (PZ tk n) d a = some res) : ∃ out, grpR k 5 0 0 w = some out ∧ RM T tk st ln N p d m q e w res out := by
  have hN4 := hS.2.2.2.2.2.1
  have haN := hS.2.2.2.2.2.2.1
  have hd8 := hS.2.2.2.2.2.2.2
  obtain ⟨k', rfl⟩ : ∃ k', k = k' + 2 := ⟨k - 2, by unfold ndR at hnd; simp at hnd; omega⟩
  have hnd3 : d < 8 → ndR 3 (d + 1) ≤ k' + 1 := fun _ => by unfold ndR at hnd ⊢; simp at hnd ⊢; omega
  have hnd2 : d < 8 → ndR 2 (d + 1) ≤ k' := fun _ => by unfold ndR at hnd ⊢; simp at hnd ⊢; omega
  show ∃ out, f_X15_isValue (grpR (k' + 1)) w = some out ∧ _
  have h2 : tk a ≠ 1 → tk a ≠ 2 → a + 2 ≤ N := fun q1 q2 => by have := hN a haN; omega
  unfold zV at g
  by_cases q1 : tk a = 4 ∨ tk a = 17 ∨ tk a = 18 ∨ tk a = 19
  · rw [if_pos q1] at g
    cases g
    rcases q1 with q1 | q1
    · exact b_vnum hN hk hS hm hq hp q1
    · exact b_vwd hN hk hS hm hq q1
  · rw [if_neg q1] at g
    by_cases q20 : tk a = 20 ∨ tk a = 21 ∨ tk a = 22
    · rw [if_pos q20] at g
      exact b_vnm hN hk hS hm hq q20 g
    · rw [if_neg q20] at g
      have hv := fun X => b_vG (k := k' + 1) (X := X) hS hk (by omega) (by omega)
      by_cases q37 : tk a = 37
      · rw [if_pos q37] at g
        have run : ∀ X, bd1 (f_X15_isDeeper w) (fun r17 w18 => br (r17 = 0) (some (0, w18)) (bd1 (grpR (k' + 1) 5 0 0 w18) (fun r19 w20 => br (r19 = 0) (some (0, w20)) (sq (pI w20 32 0 10 ((gI w20 32 0 10) - 1)) (fun w21 => bd0 (f_X15_put 33 w21) (fun w22 => some (1, w22))))))) = some X → f_X15_isValue (grpR (k' + 1)) w = some X := fun X hX => by
          refine hv X ?_
          unfold VG
          exact bd1T (b_sT hS hk 37 45 (by decide) (by decide) q37) (brF (by decide) hX)
        by_cases hd : 8 ≤ d
        · rw [if_pos hd] at g
          cases g
          have : d = 8 := by omega
          subst this
          exact ⟨(0, w), run _ (bd1T (b_deepF hS) (brT rfl rfl)), rm_fl hS fm_rf⟩
        · rw [if_neg hd] at g
          obtain ⟨w1, t1, t2, t3⟩ := b_deepT hS (by omega) (h2 (by omega) (by omega)) (rol_0 (by omega))
          have hp' : pvk tk (a + 1) := ⟨by omega, by rw [Nat.add_sub_cancel]; omega, by rw [Nat.add_sub_cancel]; omega⟩
          rcases bdz_in g with ⟨b, e1, rfl⟩ | ⟨a1, o1, e1, e2⟩
          · rcases rp_use h1 (e := 0) (by omega) t2 (by omega) (by omega) hp' (hnd3 (by omega)) e1 with ⟨b', w2, r1, r2, r3, r4⟩ | ⟨_, _, _, r1, _⟩
            · cases r1
              exact ⟨(0, w2), run _ (bd1T t1 (brF (by decide) (bd1T r2 (brT rfl rfl)))), rfl, r3, fm_tr (Nat.le_refl _) (Nat.le_refl _) t3 r4⟩
            · cases r1
          · rcases rp_use h1 (e := e + 1) (by omega) t2 (by omega) (by omega) hp' (hnd3 (by omega)) e1 with ⟨_, _, r1, _⟩ | ⟨a1', o1', w2, r1, r2, r3, r4, r5, r6, r7, r8⟩
            · cases r1
            · cases r1
              cases e2
              have hN1 := r3.2.2.2.2.2.2.1
              obtain ⟨v1, v2⟩ := m_up r3
              obtain ⟨w3, u1, u2, u3, u4, u5, u6, u7⟩ := rm_op (a0 := a) (k := 5) (v := 33) v1 rfl (op_sp (Or.inl rfl)) (mseg_fm r4 v2 (Nat.le_refl _)) (oseg_fm r5 v2 (Nat.le_refl _)) (fm_tr (Nat.le_refl _) (Nat.le_refl _) t3 (fm_tr (Nat.le_add_right _ _) (Nat.le_add_right _ _) r8 v2)) (by omega)
              exact ⟨(1, w3), run _ (bd1T t1 (brF (by decide) (bd1T r2 (brF (by decide) (sqT (bd0T u1 rfl)))))), rfl, u2, u3, u4, by rw [u6]; omega, by rw [u7]; omega, u5⟩
      · rw [if_neg q37] at g
        have n37 := b_sF hS hk 37 45 (by decide) (by decide) q37
        by_cases q28 : tk a = 28 ∨ tk a = 29
        · rw [if_neg (by omega), if_pos q28] at g
          have g : in1 tk n d (tk a) (a + 1) = some res := g
          have ha2 := h2 (by omega) (by omega)
          have go : ∀ w1, MSt T tk st ln N p (a + 1) d m q w1 → FM p m q w w1 → ∃ out, bd1 (grpR (k' + 1) 6 (mop (tk a)) 1 w1) (fun r9 w10 => gd (decide (r9 &&& 1 = r9)) (some (r9, w10))) = some out ∧ RM T tk st ln N p d m q e w res out := fun w1 t2 t3 => by
            obtain ⟨out, z1, z2⟩ := b_in1 (e := e) hN hk h1 q28 t2 (by omega) (by omega) hnd2 g
            exact ⟨out, bd1_gd z1 z2, rm_mono t3 z2⟩
          by_cases q29 : tk a = 28
          · obtain ⟨w1, t1, t2, t3⟩ := b_eatT hS hk 28 21 (by decide) (by decide) q29 ha2 (rol_0 (by omega))
            obtain ⟨out, z1, z2⟩ := go w1 t2 t3
            refine ⟨out, hv _ ?_, z2⟩
            rw [q29] at z1 ⊢
            unfold VG
            exact bd1T n37 (brT rfl (bd1T t1 (brF (by decide) z1)))
          · have q30 : tk a = 29 := by omega
            obtain ⟨w1, t1, t2, t3⟩ := b_eatT hS hk 29 22 (by decide) (by decide) q30 ha2 (rol_0 (by omega))
            obtain ⟨out, z1, z2⟩ := go w1 t2 t3
            refine ⟨out, hv _ ?_, z2⟩
            have n28 := b_eatF hS hk 28 21 (by decide) (by decide) q29
            rw [q30] at z1 ⊢
            unfold VG
            exact bd1T n37 (brT rfl (bd1T n28 (brT rfl (bd1T t1 (brF (by decide) z1)))))
        · have g : in0 tk n d a = some res := by
            unfold in0
            by_cases q30 : tk a = 30
            · rw [if_pos q30] at g ⊢; exact g
            · rw [if_neg q30, if_neg q28] at g
              rw [if_neg q30]; exact g
          obtain ⟨out, z1, z2⟩ := b_in0 (x := mk (tk a)) hN hk h1 hS hm hq hnd2 g
          refine ⟨out, hv _ ?_, z2⟩
          unfold VG
          exact bd1T n37 (brT rfl (bd1T (b_eatF hS hk 28 21 (by decide) (by decide) (by omega)) (brT rfl (bd1T (b_eatF hS hk 29 22 (by decide) (by decide) (by omega)) (brT rfl (bd1_gd z1 z2))))))
theorem rp_step (hN : ∀ j, j + 1 ≤ N → (tk j = 1 ∨ tk j = 2) ∨ j + 2 ≤ N) (hk : ∀ j, j < N → KK (tk j)) (h1 : RP T tk st ln N p n) (h4 : RL4 T tk st ln N p n) (h5 : RL5 T tk st ln N p n) : RP T tk st ln N p (n + 1) := by
  intro v d x a m q e k w res hv hS hm hq hp hnd g
  have hc : v = 0 ∨ v = 1 ∨ v = 2 ∨ v = 3 := by omega
  rcases hc with rfl | rfl | rfl | rfl
  · exact b_test hN h1 h4 hS hm hq hp hnd g
  · exact b_single hN hk h1 hS hm hq hp hnd g
  · exact b_sum hN h1 h5 hS hm hq hp hnd g
  · exact b_value hN hk h1 hS hm hq hp hnd g
theorem b_all (hN : ∀ j, j + 1 ≤ N → (tk j = 1 ∨ tk j = 2) ∨ j + 2 ≤ N) (hk : ∀ j, j < N → KK (tk j)) : ∀ n, RP T tk st ln N p n ∧ RL4 T tk st ln N p n ∧ RL5 T tk st ln N p n
  | 0 => ⟨fun v d x a m q e k w res _ _ _ _ _ _ g => by simp [PZ] at g, fun d x a m q e k f f' w res _ _ _ _ _ _ _ g => by simp [PZ] at g, fun d x a m q e k f f' w res _ _ _ _ _ _ _ g => by simp [PZ] at g⟩
  | n + 1 => by
    obtain ⟨h1, h2, h3⟩ := b_all hN hk n
    exact ⟨rp_step hN hk h1 h2 h3, rl4_step hN hk h1 h2, rl5_step hN hk h1 h3⟩
end RPARSE
