-- THE PURE PART: the reference's parser follows the grammar: a single test, all of it
section RPARSE
variable {T : List Nat} {tk st ln : Nat → Nat} {N p n : Nat}
theorem b_single (hN : ∀ j, j + 1 ≤ N → (tk j = 1 ∨ tk j = 2) ∨ j + 2 ≤ N) (hk : ∀ j, j < N → KK (tk j)) (h1 : RP T tk st ln N p n) {d a m q e k : Nat} {w : Mm} {res : Rz} (hS : MSt T tk st ln N p a d m q w) (hm : m + e ≤ 2 * a) (hq : q ≤ a) (hp : pvk tk a) (hnd : ndR 1 d ≤ k) (g : zS tk (PZ tk n) d a = some res) : ∃ out, grpR k 2 0 0 w = some out ∧ RM T tk st ln N p d m q e w res out := by
  have hN4 := hS.2.2.2.2.2.1
  have haN := hS.2.2.2.2.2.2.1
  have hd8 := hS.2.2.2.2.2.2.2
  obtain ⟨k', rfl⟩ : ∃ k', k = k' + 1 := ⟨k - 1, by unfold ndR at hnd; simp at hnd; omega⟩
  have hnd2 : ndR 2 d ≤ k' := by unfold ndR at hnd ⊢; simp at hnd ⊢; omega
  have hnd1' : d < 8 → ndR 1 (d + 1) ≤ k' := fun _ => by unfold ndR at hnd ⊢; simp at hnd ⊢; omega
  have hnd0' : d < 8 → ndR 0 (d + 1) ≤ k' := fun _ => by unfold ndR at hnd ⊢; simp at hnd ⊢; omega
  show ∃ out, f_X15_isSingle (grpR k') w = some out ∧ _
  have h2 : tk a ≠ 1 → tk a ≠ 2 → a + 2 ≤ N := fun q1 q2 => by have := hN a haN; omega
  unfold zS at g
  by_cases q25 : tk a = 25
  · rw [if_pos q25] at g
    have run : ∀ X, bd1 (f_X15_isDeeper w) (fun r56 w57 => br (r56 = 0) (some (0, w57)) (bd1 (grpR k' 2 0 0 w57) (fun r58 w59 => br (r58 = 0) (some (0, w59)) (sq (pI w59 32 0 10 ((gI w59 32 0 10) - 1)) (fun w60 => bd0 (f_X15_put 18 w60) (fun w61 => some (1, w61))))))) = X → f_X15_isSingle (grpR k') w = X := fun X hX => by
      unfold f_X15_isSingle
      exact bd1T (b_isT hS hk 25 18 (by decide) (by decide) q25) (brF (by decide) hX)
    by_cases hd : 8 ≤ d
    · rw [if_pos hd] at g
      cases g
      have : d = 8 := by omega
      subst this
      exact ⟨(0, w), run _ (bd1T (b_deepF hS) (brT rfl rfl)), rm_fl hS fm_rf⟩
    · rw [if_neg hd] at g
      obtain ⟨w1, t1, t2, t3⟩ := b_deepT hS (by omega) (h2 (by omega) (by omega)) (rol_0 (by omega))
      have hp' : pvk tk (a + 1) := ⟨by omega, by rw [Nat.add_sub_cancel]; omega, by rw [Nat.add_sub_cancel]; omega⟩
      rcases bdz_in g with ⟨b, e1, rfl⟩ | ⟨a1, o1, e1, e2⟩
      · rcases rp_use h1 (e := 0) (by omega) t2 (by omega) (by omega) hp' (hnd1' (by omega)) e1 with ⟨b', w2, r1, r2, r3, r4⟩ | ⟨_, _, _, r1, _⟩
        · cases r1
          exact ⟨(0, w2), run _ (bd1T t1 (brF (by decide) (bd1T r2 (brT rfl rfl)))), rfl, r3, fm_tr (Nat.le_refl _) (Nat.le_refl _) t3 r4⟩
        · cases r1
      · rcases rp_use h1 (e := e + 1) (by omega) t2 (by omega) (by omega) hp' (hnd1' (by omega)) e1 with ⟨_, _, r1, _⟩ | ⟨a1', o1', w2, r1, r2, r3, r4, r5, r6, r7, r8⟩
        · cases r1
        · cases r1
          cases e2
          have hN1 := r3.2.2.2.2.2.2.1
          obtain ⟨v1, v2⟩ := m_up r3
          obtain ⟨w3, u1, u2, u3, u4, u5, u6, u7⟩ := rm_op (a0 := a) v1 (mc_sp (k := 25) (Or.inl rfl)) (op_sp (Or.inr (by decide))) (mseg_fm r4 v2 (Nat.le_refl _)) (oseg_fm r5 v2 (Nat.le_refl _)) (fm_tr (Nat.le_refl _) (Nat.le_refl _) t3 (fm_tr (Nat.le_add_right _ _) (Nat.le_add_right _ _) r8 v2)) (by omega)
          exact ⟨(1, w3), run _ (bd1T t1 (brF (by decide) (bd1T r2 (brF (by decide) (sqT (bd0T u1 rfl)))))), rfl, u2, u3, u4, by rw [u6]; omega, by rw [u7]; omega, u5⟩
  · rw [if_neg q25] at g
    have n25 := b_isF hS hk 25 18 (by decide) (by decide) q25
    by_cases q32 : tk a = 32
    · rw [if_pos q32] at g
      have run : ∀ X, bd1 (f_X15_isDeeper w) (fun r49 w50 => br (r49 = 0) (some (0, w50)) (bd1 (grpR k' 0 0 0 w50) (fun r51 w52 => br (r51 = 0) (some (0, w52)) (sq (pI w52 32 0 10 ((gI w52 32 0 10) - 1)) (fun w53 => bd1 (f_X15_eatSign 93 w53) (fun r54 w55 => gd (decide (r54 &&& 1 = r54)) (some (r54, w55)))))))) = X → f_X15_isSingle (grpR k') w = X := fun X hX => by
        unfold f_X15_isSingle
        exact bd1T n25 (brT rfl (bd1T (b_sT hS hk 32 91 (by decide) (by decide) q32) (brF (by decide) hX)))
      by_cases hd : 8 ≤ d
      · rw [if_pos hd] at g
        cases g
        have : d = 8 := by omega
        subst this
        exact ⟨(0, w), run _ (bd1T (b_deepF hS) (brT rfl rfl)), rm_fl hS fm_rf⟩
      · rw [if_neg hd] at g
        obtain ⟨w1, t1, t2, t3⟩ := b_deepT hS (by omega) (h2 (by omega) (by omega)) (rol_0 (by omega))
        have hp' : pvk tk (a + 1) := ⟨by omega, by rw [Nat.add_sub_cancel]; omega, by rw [Nat.add_sub_cancel]; omega⟩
        rcases bdz_in g with ⟨b, e1, rfl⟩ | ⟨a1, o1, e1, e2⟩
        · rcases rp_use h1 (e := 0) (by omega) t2 (by omega) (by omega) hp' (hnd0' (by omega)) e1 with ⟨b', w2, r1, r2, r3, r4⟩ | ⟨_, _, _, r1, _⟩
          · cases r1
            exact ⟨(0, w2), run _ (bd1T t1 (brF (by decide) (bd1T r2 (brT rfl rfl)))), rfl, r3, fm_tr (Nat.le_refl _) (Nat.le_refl _) t3 r4⟩
          · cases r1
        · rcases rp_use h1 (e := e) (by omega) t2 (by omega) (by omega) hp' (hnd0' (by omega)) e1 with ⟨_, _, r1, _⟩ | ⟨a1', o1', w2, r1, r2, r3, r4, r5, r6, r7, r8⟩
          · cases r1
          · cases r1
            have hN1 := r3.2.2.2.2.2.2.1
            obtain ⟨v1, v2⟩ := m_up r3
            have hF : FM p m q w (pI w2 32 0 10 ((gI w2 32 0 10) - 1)) := fm_tr (Nat.le_refl _) (Nat.le_refl _) t3 (fm_tr (Nat.le_add_right _ _) (Nat.le_add_right _ _) r8 v2)
            by_cases q33 : tk a1 = 33
            · rw [if_pos q33] at e2
              cases e2
              have h2' : a1 + 2 ≤ N := by have := hN a1 hN1; omega
              obtain ⟨w3, x1, x2, x3⟩ := b_eST v1 hk 33 93 (by decide) (by decide) q33 h2' (rol_0 (by omega))
              refine ⟨(1, w3), run _ (bd1T t1 (brF (by decide) (bd1T r2 (brF (by decide) (sqT (bd1T x1 rfl)))))), rfl, x2, mseg_fm (mseg_fm r4 v2 (Nat.le_refl _)) x3 (Nat.le_refl _), oseg_fm (oseg_fm r5 v2 (Nat.le_refl _)) x3 (Nat.le_refl _), by omega, by omega, fm_tr (Nat.le_add_right _ _) (Nat.le_add_right _ _) hF x3⟩
            · rw [if_neg q33] at e2
              cases e2
              refine ⟨(0, _), run _ (bd1T t1 (brF (by decide) (bd1T r2 (brF (by decide) (sqT (bd1T (b_eSF v1 hk 33 93 (by decide) (by decide) q33) rfl)))))), rm_fl v1 hF⟩
    · rw [if_neg q32] at g
      have n32 := b_sF hS hk 32 91 (by decide) (by decide) q32
      by_cases q24 : tk a = 24
      · rw [if_pos q24] at g
        have ha2 := h2 (by omega) (by omega)
        obtain ⟨w1, x1, x2, x3, x4, x5, x6, x7⟩ := b_named hS hk q24 ha2 (fun h3 => by have := hN (a + 1) (by omega); omega) (by omega) (by omega)
        have run : ∀ X, bd1 (f_X15_isNamed 6 w) (fun r43 w44 => br (r43 = 0) (some (0, w44)) (bd1 (f_X15_eat 16 w44) (fun r45 w46 => br (r45 = 0) (some (0, w46)) (bd1 (f_X15_isName 7 w46) (fun r47 w48 => br (r47 = 0) (some (0, w48)) (some (1, w48))))))) = X → f_X15_isSingle (grpR k') w = X := fun X hX => by
          unfold f_X15_isSingle
          exact bd1T n25 (brT rfl (bd1T n32 (brT rfl (bd1T (b_isT hS hk 24 17 (by decide) (by decide) q24) (brF (by decide) hX)))))
        by_cases q3 : tk (a + 1) = 3
        · rw [if_pos q3] at g x1
          have S1 := x2 q3
          have hN3 := S1.2.2.2.2.2.2.1
          by_cases q23 : tk (a + 2) = 23
          · rw [if_pos q23] at g
            have hN4' : a + 2 + 2 ≤ N := by have := hN (a + 2) hN3; omega
            obtain ⟨w2, y1, y2, y3⟩ := b_eatT S1 hk 23 16 (by decide) (by decide) q23 hN4' (rol_0 (by omega))
            obtain ⟨w3, z1, z2, z3, z4, z5, z6⟩ := b_name y2 hk 7 (by omega) (by omega) (fun h3 => by have := hN (a + 2 + 1) (by omega); omega) (fun h3 => by
              unfold rol
              rw [if_pos h3, if_neg (by omega), Nat.add_sub_cancel, if_neg (by omega), if_neg (by omega), if_neg (by omega), if_neg (by omega), if_neg (by omega), if_pos q23, show a + 2 + 1 - 2 = a + 1 by omega, if_neg (by omega)])
            have hF : FM p m q w w2 := fm_tr (Nat.le_add_right _ _) (Nat.le_add_right _ _) x7 y3
            have hF3 : FM p m q w w3 := fm_tr (Nat.le_add_right _ _) (Nat.le_add_right _ _) hF z6
            by_cases q33 : tk (a + 2 + 1) = 3
            · rw [show a + 3 = a + 2 + 1 from rfl, if_pos q33] at g
              rw [if_pos q33] at z1
              cases g
              refine ⟨(1, w3), run _ (bd1T x1 (brF (by decide) (bd1T y1 (brF (by decide) (bd1T z1 (brF (by decide) rfl)))))), rfl, z2 q33, ?_, ?_, ?_, ?_, hF3⟩
              · show MSEG p m [17, nI (a + 1), nI (a + 2 + 1)] w3
                intro j v ev
                match j, ev with
                | 0, ev =>
                  cases ev
                  rw [z6.1 _ _ _ (by omega) (by omega) (by omega) (by omega) (by omega), y3.1 _ _ _ (by omega) (by omega) (by omega) (by omega) (by omega)]
                  exact x4
                | 1, ev =>
                  cases ev
                  rw [z6.1 _ _ _ (by omega) (by omega) (by omega) (by omega) (by omega), y3.1 _ _ _ (by omega) (by omega) (by omega) (by omega) (by omega)]
                  exact x5
                | 2, ev => cases ev; exact z4
                | j + 3, ev => simp at ev
              · show OSEG p q [m + 1, m + 2] w3
                intro j v ev
                match j, ev with
                | 0, ev =>
                  cases ev
                  rw [z6.1 _ _ _ (by omega) (by omega) (by omega) (by omega) (by omega), y3.1 _ _ _ (by omega) (by omega) (by omega) (by omega) (by omega)]
                  exact x6
                | 1, ev => cases ev; exact z5
                | j + 2, ev => simp at ev
              · show m + 3 + e ≤ 2 * (a + 2 + 1 + 1); omega
              · show q + 2 ≤ a + 2 + 1 + 1; omega
            · rw [show a + 3 = a + 2 + 1 from rfl, if_neg q33] at g
              rw [if_neg q33] at z1
              cases g
              exact ⟨(0, w3), run _ (bd1T x1 (brF (by decide) (bd1T y1 (brF (by decide) (bd1T z1 (brT rfl rfl)))))), rfl, z3 q33, hF3⟩
          · rw [if_neg q23] at g
            cases g
            exact ⟨(0, w1), run _ (bd1T x1 (brF (by decide) (bd1T (b_eatF S1 hk 23 16 (by decide) (by decide) q23) (brT rfl rfl)))), rm_fl S1 x7⟩
        · rw [if_neg q3] at g x1
          cases g
          exact ⟨(0, w1), run _ (bd1T x1 (brT rfl rfl)), rfl, x3 q3, x7⟩
      · rw [if_neg q24] at g
        have n24 := b_isF hS hk 24 17 (by decide) (by decide) q24
        rcases bdz_in g with ⟨b, e1, rfl⟩ | ⟨a1, o1, e1, e2⟩
        · rcases rp_use h1 (e := e) (by omega) hS hm hq hp hnd2 e1 with ⟨b', w2, r1, r2, r3, r4⟩ | ⟨_, _, _, r1, _⟩
          · cases r1
            refine ⟨(0, w2), ?_, rfl, r3, r4⟩
            unfold f_X15_isSingle
            exact bd1T n25 (brT rfl (bd1T n32 (brT rfl (bd1T n24 (brT rfl (bd1T r2 (brT rfl rfl)))))))
          · cases r1
        · rcases rp_use h1 (e := e) (by omega) hS hm hq hp hnd2 e1 with ⟨_, _, r1, _⟩ | ⟨a1', o1', w2, r1, r2, r3, r4, r5, r6, r7, r8⟩
          · cases r1
          · cases r1
            have hN1 := r3.2.2.2.2.2.2.1
            by_cases qc : 40 ≤ tk a1 ∧ tk a1 ≤ 44
            · rw [if_pos qc] at e2
              have h2' : a1 + 2 ≤ N := by have := hN a1 hN1; omega
              obtain ⟨t2, t3⟩ := m_adv r3 h2' (rol_0 (by omega))
              have hp' : pvk tk (a1 + 1) := ⟨by omega, by rw [Nat.add_sub_cancel]; omega, by rw [Nat.add_sub_cancel]; omega⟩
              have run : ∀ X, bd1 (grpR k' 3 0 0 (pI w2 32 0 9 ((gI w2 32 0 9) + 1))) (fun r w6 => br (r = 0) (some (0, w6)) (bd0 (f_X15_put (mop (tk a1)) w6) (fun w7 => some (1, w7)))) = X → f_X15_isSingle (grpR k') w = X := fun X hX => by
                unfold f_X15_isSingle
                exact bd1T n25 (brT rfl (bd1T n32 (brT rfl (bd1T n24 (brT rfl (bd1T r2 (brF (by decide) (b_cmpR r3 hk (fun w => grpR k' 3 0 0 w) qc hX))))))))
              have t4 := fm_tr (Nat.le_add_right _ _) (Nat.le_add_right _ _) r8 t3
              rcases bdz_in e2 with ⟨b, e3, rfl⟩ | ⟨a2, o2, e3, e4⟩
              · rcases rp_use h1 (e := 0) (by omega) t2 (by omega) (by omega) hp' hnd2 e3 with ⟨b', w3, s1, s2, s3, s4⟩ | ⟨_, _, _, s1, _⟩
                · cases s1
                  exact ⟨(0, w3), run _ (bd1T s2 (brT rfl rfl)), rfl, s3, fm_tr (Nat.le_add_right _ _) (Nat.le_add_right _ _) t4 s4⟩
                · cases s1
              · rcases rp_use h1 (e := e + 1) (by omega) t2 (by omega) (by omega) hp' hnd2 e3 with ⟨_, _, s1, _⟩ | ⟨a2', o2', w3, s1, s2, s3, s4, s5, s6, s7, s8⟩
                · cases s1
                · cases s1
                  cases e4
                  have hN2 := s3.2.2.2.2.2.2.1
                  have el : m + (mcs (nva T st ln) o1).length + (mcs (nva T st ln) o2).length = m + (mcs (nva T st ln) (o1 ++ o2)).length := by rw [mcs_app, List.length_append, Nat.add_assoc]
                  have eo : q + (opn (nva T st ln) m o1).length + (opn (nva T st ln) (m + (mcs (nva T st ln) o1).length) o2).length = q + (opn (nva T st ln) m (o1 ++ o2)).length := by rw [opn_app, List.length_append, Nat.add_assoc]
                  rw [el, eo] at s3
                  rw [el] at s6
                  rw [eo] at s7
                  obtain ⟨w4, u1, u2, u3, u4, u5, u6, u7⟩ := rm_op (a0 := a) (o := o1 ++ o2) s3 (mc_sq (k := tk a1) (by omega)) (op_sp (by omega)) (by rw [mcs_app]; exact mseg_app (mseg_fm (mseg_fm r4 t3 (Nat.le_refl _)) s8 (Nat.le_refl _)) s4) (by rw [opn_app]; exact oseg_app (oseg_fm (oseg_fm r5 t3 (Nat.le_refl _)) s8 (Nat.le_refl _)) s5) (fm_tr (Nat.le_add_right _ _) (Nat.le_add_right _ _) t4 s8) (by omega)
                  exact ⟨(1, w4), run _ (bd1T s2 (brF (by decide) (bd0T u1 rfl))), rfl, u2, u3, u4, by rw [u6]; omega, by rw [u7]; omega, u5⟩
            · rw [if_neg qc] at e2
              cases e2
              refine ⟨(0, w2), ?_, rm_fl r3 r8⟩
              unfold f_X15_isSingle
              exact bd1T n25 (brT rfl (bd1T n32 (brT rfl (bd1T n24 (brT rfl (bd1T r2 (brF (by decide) (b_cmpF r3 hk qc _ _ _ _ _ _))))))))
end RPARSE
