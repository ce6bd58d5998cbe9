-- THE PURE PART: the reference's parser follows the grammar: brackets
section RPARSE
variable {T : List Nat} {tk st ln : Nat → Nat} {N p n : Nat}
def in0 (tk : Nat → Nat) (n d a : Nat) : Option Rz := if tk a = 30 then (if 8 ≤ d then flz a else bdz (PZ tk n 2 (d + 1) 0 (a + 1)) fun a1 o => if tk a1 = 31 then okz (a1 + 1) o else flz a1) else flz a
def in1 (tk : Nat → Nat) (n d K a : Nat) : Option Rz := if 8 ≤ d then flz a else if tk a = 30 then bdz (PZ tk n 2 (d + 1) 0 (a + 1)) fun a1 o1 => if tk a1 = 35 then bdz (PZ tk n 2 (d + 1) 0 (a1 + 1)) fun a2 o2 => if tk a2 = 31 then okz (a2 + 1) (o1 ++ o2 ++ [sp K]) else flz a2 else flz a1 else flz a
theorem b_in0 (hN : ∀ j, j + 1 ≤ N → (tk j = 1 ∨ tk j = 2) ∨ j + 2 ≤ N) (hk : ∀ j, j < N → KK (tk j)) (h1 : RP T tk st ln N p n) {d a m q e k : Nat} {w : Mm} {res : Rz} {x : Int32} (hS : MSt T tk st ln N p a d m q w) (hm : m + e ≤ 2 * a) (hq : q ≤ a) (hnd : d < 8 → ndR 2 (d + 1) ≤ k) (g : in0 tk n d a = some res) : ∃ out, grpR (k + 1) 6 x 0 w = some out ∧ RM T tk st ln N p d m q e w res out := by
  have hN4 := hS.2.2.2.2.2.1
  have haN := hS.2.2.2.2.2.2.1
  have hd8 := hS.2.2.2.2.2.2.2
  show ∃ out, f_X15_isInside (grpR k) x 0 w = some out ∧ _
  unfold in0 at g
  by_cases q30 : tk a = 30
  · rw [if_pos q30] at g
    have h2 : a + 2 ≤ N := by have := hN a haN; omega
    have run : ∀ X, bd1 (f_X15_isDeeper w) (fun r3 w4 => br (r3 = 0) (some (0, w4)) (bd1 (grpR k 3 0 0 w4) (fun r5 w6 => br (r5 = 0) (some (0, w6)) (sq (pI w6 32 0 10 ((gI w6 32 0 10) - 1)) (fun w7 => bd1 (f_X15_eatSign 41 w7) (fun r8 w9 => gd (decide (r8 &&& 1 = r8)) (some (r8, w9)))))))) = X → f_X15_isInside (grpR k) x 0 w = X := fun X hX => by
      unfold f_X15_isInside
      exact bd1T (b_sT hS hk 30 40 (by decide) (by decide) q30) (brF (by decide) hX)
    by_cases hd : 8 ≤ d
    · rw [if_pos hd] at g
      cases g
      have : d = 8 := by omega
      subst this
      exact ⟨(0, w), run _ (bd1T (b_deepF hS) (brT rfl rfl)), rm_fl hS fm_rf⟩
    · rw [if_neg hd] at g
      obtain ⟨w1, t1, t2, t3⟩ := b_deepT hS (by omega) h2 (rol_0 (by omega))
      have hp' : pvk tk (a + 1) := ⟨by omega, by rw [Nat.add_sub_cancel]; omega, by rw [Nat.add_sub_cancel]; omega⟩
      rcases bdz_in g with ⟨b, e1, rfl⟩ | ⟨a1, o1, e1, e2⟩
      · rcases rp_use h1 (e := 0) (by omega) t2 (by omega) (by omega) hp' (hnd (by omega)) e1 with ⟨b', w2, r1, r2, r3, r4⟩ | ⟨_, _, _, r1, _⟩
        · cases r1
          exact ⟨(0, w2), run _ (bd1T t1 (brF (by decide) (bd1T r2 (brT rfl rfl)))), rfl, r3, fm_tr (Nat.le_refl _) (Nat.le_refl _) t3 r4⟩
        · cases r1
      · rcases rp_use h1 (e := e) (by omega) t2 (by omega) (by omega) hp' (hnd (by omega)) e1 with ⟨_, _, r1, _⟩ | ⟨a1', o1', w2, r1, r2, r3, r4, r5, r6, r7, r8⟩
        · cases r1
        · cases r1
          have hN1 := r3.2.2.2.2.2.2.1
          obtain ⟨v1, v2⟩ := m_up r3
          have hF : FM p m q w (pI w2 32 0 10 ((gI w2 32 0 10) - 1)) := fm_tr (Nat.le_refl _) (Nat.le_refl _) t3 (fm_tr (Nat.le_add_right _ _) (Nat.le_add_right _ _) r8 v2)
          by_cases q31 : tk a1 = 31
          · rw [if_pos q31] at e2
            cases e2
            have h2' : a1 + 2 ≤ N := by have := hN a1 hN1; omega
            obtain ⟨w3, x1, x2, x3⟩ := b_eST v1 hk 31 41 (by decide) (by decide) q31 h2' (rol_0 (by omega))
            refine ⟨(1, w3), run _ (bd1T t1 (brF (by decide) (bd1T r2 (brF (by decide) (sqT (bd1T x1 rfl)))))), rfl, x2, mseg_fm (mseg_fm r4 v2 (Nat.le_refl _)) x3 (Nat.le_refl _), oseg_fm (oseg_fm r5 v2 (Nat.le_refl _)) x3 (Nat.le_refl _), by omega, by omega, fm_tr (Nat.le_add_right _ _) (Nat.le_add_right _ _) hF x3⟩
          · rw [if_neg q31] at e2
            cases e2
            exact ⟨(0, _), run _ (bd1T t1 (brF (by decide) (bd1T r2 (brF (by decide) (sqT (bd1T (b_eSF v1 hk 31 41 (by decide) (by decide) q31) rfl)))))), rm_fl v1 hF⟩
  · rw [if_neg q30] at g
    cases g
    refine ⟨(0, w), ?_, rm_fl hS fm_rf⟩
    unfold f_X15_isInside
    exact bd1T (b_sF hS hk 30 40 (by decide) (by decide) q30) (brT rfl rfl)
theorem b_in1 (hN : ∀ j, j + 1 ≤ N → (tk j = 1 ∨ tk j = 2) ∨ j + 2 ≤ N) (hk : ∀ j, j < N → KK (tk j)) (h1 : RP T tk st ln N p n) {d a m q e k K : Nat} {w : Mm} {res : Rz} (hK : K = 28 ∨ K = 29) (hS : MSt T tk st ln N p a d m q w) (hm : m + e + 1 ≤ 2 * a) (hq : q ≤ a) (hnd : d < 8 → ndR 2 (d + 1) ≤ k) (g : in1 tk n d K a = some res) : ∃ out, grpR (k + 1) 6 (mop K) 1 w = some out ∧ RM T tk st ln N p d m q e w res out := by
  have hN4 := hS.2.2.2.2.2.1
  have haN := hS.2.2.2.2.2.2.1
  have hd8 := hS.2.2.2.2.2.2.2
  show ∃ out, f_X15_isInside (grpR k) (mop K) 1 w = some out ∧ _
  unfold in1 at g
  by_cases q30 : tk a = 30
  · have h2 : a + 2 ≤ N := by have := hN a haN; omega
    have run : ∀ X, bd1 (f_X15_isDeeper w) (fun r3 w4 => br (r3 = 0) (some (0, w4)) (bd1 (grpR k 3 0 0 w4) (fun r5 w6 => br (r5 = 0) (some (0, w6)) (bd1 (f_X15_eatSign 44 w6) (fun r13 w14 => br (r13 = 0) (some (0, w14)) (bd1 (grpR k 3 0 0 w14) (fun r15 w16 => br (r15 = 0) (some (0, w16)) (sq (pI w16 32 0 10 ((gI w16 32 0 10) - 1)) (fun w17 => bd0 (f_X15_put (mop K) w17) (fun w20 => bd1 (f_X15_eatSign 41 w20) (fun r21 w22 => gd (decide (r21 &&& 1 = r21)) (some (r21, w22))))))))))))) = X → f_X15_isInside (grpR k) (mop K) 1 w = X := fun X hX => by
      unfold f_X15_isInside
      exact bd1T (b_sT hS hk 30 40 (by decide) (by decide) q30) (brF (by decide) hX)
    by_cases hd : 8 ≤ d
    · rw [if_pos hd] at g
      cases g
      have : d = 8 := by omega
      subst this
      exact ⟨(0, w), run _ (bd1T (b_deepF hS) (brT rfl rfl)), rm_fl hS fm_rf⟩
    · rw [if_neg hd, if_pos q30] at g
      obtain ⟨w1, t1, t2, t3⟩ := b_deepT hS (by omega) h2 (rol_0 (by omega))
      have hp' : pvk tk (a + 1) := ⟨by omega, by rw [Nat.add_sub_cancel]; omega, by rw [Nat.add_sub_cancel]; omega⟩
      rcases bdz_in g with ⟨b, e1, rfl⟩ | ⟨a1, o1, e1, e2⟩
      · rcases rp_use h1 (e := 0) (by omega) t2 (by omega) (by omega) hp' (hnd (by omega)) e1 with ⟨b', w2, r1, r2, r3, r4⟩ | ⟨_, _, _, r1, _⟩
        · cases r1
          exact ⟨(0, w2), run _ (bd1T t1 (brF (by decide) (bd1T r2 (brT rfl rfl)))), rfl, r3, fm_tr (Nat.le_refl _) (Nat.le_refl _) t3 r4⟩
        · cases r1
      · rcases rp_use h1 (e := e + 1) (by omega) t2 (by omega) (by omega) hp' (hnd (by omega)) e1 with ⟨_, _, r1, _⟩ | ⟨a1', o1', w2, r1, r2, r3, r4, r5, r6, r7, r8⟩
        · cases r1
        · cases r1
          have hN1 := r3.2.2.2.2.2.2.1
          have hF2 : FM p m q w w2 := fm_tr (Nat.le_refl _) (Nat.le_refl _) t3 r8
          by_cases q35 : tk a1 = 35
          · rw [if_pos q35] at e2
            have h2' : a1 + 2 ≤ N := by have := hN a1 hN1; omega
            obtain ⟨w3, x1, x2, x3⟩ := b_eST r3 hk 35 44 (by decide) (by decide) q35 h2' (rol_0 (by omega))
            have hF3 : FM p m q w w3 := fm_tr (Nat.le_add_right _ _) (Nat.le_add_right _ _) hF2 x3
            have hp2 : pvk tk (a1 + 1) := ⟨by omega, by rw [Nat.add_sub_cancel]; omega, by rw [Nat.add_sub_cancel]; omega⟩
            rcases bdz_in e2 with ⟨b, e3, rfl⟩ | ⟨a2, o2, e3, e4⟩
            · rcases rp_use h1 (e := 0) (by omega) x2 (by omega) (by omega) hp2 (hnd (by omega)) e3 with ⟨b', w4, s1, s2, s3, s4⟩ | ⟨_, _, _, s1, _⟩
              · cases s1
                exact ⟨(0, w4), run _ (bd1T t1 (brF (by decide) (bd1T r2 (brF (by decide) (bd1T x1 (brF (by decide) (bd1T s2 (brT rfl rfl)))))))), rfl, s3, fm_tr (Nat.le_add_right _ _) (Nat.le_add_right _ _) hF3 s4⟩
              · cases s1
            · rcases rp_use h1 (e := e + 1) (by omega) x2 (by omega) (by omega) hp2 (hnd (by omega)) e3 with ⟨_, _, s1, _⟩ | ⟨a2', o2', w4, s1, s2, s3, s4, s5, s6, s7, s8⟩
              · cases s1
              · cases s1
                have hN2 := s3.2.2.2.2.2.2.1
                have el : m + (mcs (nva T st ln) o1).length + (mcs (nva T st ln) o2).length = m + (mcs (nva T st ln) (o1 ++ o2)).length := by rw [mcs_app, List.length_append, Nat.add_assoc]
                have eo : q + (opn (nva T st ln) m o1).length + (opn (nva T st ln) (m + (mcs (nva T st ln) o1).length) o2).length = q + (opn (nva T st ln) m (o1 ++ o2)).length := by rw [opn_app, List.length_append, Nat.add_assoc]
                have hc12 : MSEG p m (mcs (nva T st ln) (o1 ++ o2)) w4 := by rw [mcs_app]; exact mseg_app (mseg_fm (mseg_fm r4 x3 (Nat.le_refl _)) s8 (Nat.le_refl _)) s4
                have ho12 : OSEG p q (opn (nva T st ln) m (o1 ++ o2)) w4 := by rw [opn_app]; exact oseg_app (oseg_fm (oseg_fm r5 x3 (Nat.le_refl _)) s8 (Nat.le_refl _)) s5
                have hF4 : FM p m q w w4 := fm_tr (Nat.le_add_right _ _) (Nat.le_add_right _ _) hF3 s8
                rw [el, eo] at s3
                rw [el] at s6
                rw [eo] at s7
                obtain ⟨v1, v2⟩ := m_up s3
                obtain ⟨w5, u1, u2, u3, u4, u5, u6, u7⟩ := rm_op (a0 := a) (o := o1 ++ o2) v1 (mc_sq (k := K) (by omega)) (op_sp (by omega)) (mseg_fm hc12 v2 (Nat.le_refl _)) (oseg_fm ho12 v2 (Nat.le_refl _)) (fm_tr (Nat.le_add_right _ _) (Nat.le_add_right _ _) hF4 v2) (by omega)
                have hgo : ∀ X, bd1 (f_X15_eatSign 41 w5) (fun r21 w22 => gd (decide (r21 &&& 1 = r21)) (some (r21, w22))) = X → f_X15_isInside (grpR k) (mop K) 1 w = X := fun X hX => run _ (bd1T t1 (brF (by decide) (bd1T r2 (brF (by decide) (bd1T x1 (brF (by decide) (bd1T s2 (brF (by decide) (sqT (bd0T u1 hX))))))))))
                by_cases q31 : tk a2 = 31
                · rw [if_pos q31] at e4
                  cases e4
                  have h2'' : a2 + 2 ≤ N := by have := hN a2 hN2; omega
                  obtain ⟨w6, z1, z2, z3⟩ := b_eST u2 hk 31 41 (by decide) (by decide) q31 h2'' (rol_0 (by omega))
                  exact ⟨(1, w6), hgo _ (bd1T z1 rfl), rfl, z2, mseg_fm u3 z3 (Nat.le_refl _), oseg_fm u4 z3 (Nat.le_refl _), by rw [u6]; omega, by rw [u7]; omega, fm_tr (Nat.le_add_right _ _) (Nat.le_add_right _ _) u5 z3⟩
                · rw [if_neg q31] at e4
                  cases e4
                  exact ⟨(0, w5), hgo _ (bd1T (b_eSF u2 hk 31 41 (by decide) (by decide) q31) rfl), rm_fl u2 u5⟩
          · rw [if_neg q35] at e2
            cases e2
            exact ⟨(0, w2), run _ (bd1T t1 (brF (by decide) (bd1T r2 (brF (by decide) (bd1T (b_eSF r3 hk 35 44 (by decide) (by decide) q35) (brT rfl rfl)))))), rm_fl r3 hF2⟩
  · have g : some (.inl a) = some res := by
      by_cases hd : 8 ≤ d
      · rw [if_pos hd] at g; exact g
      · rw [if_neg hd, if_neg q30] at g; exact g
    cases g
    refine ⟨(0, w), ?_, rm_fl hS fm_rf⟩
    unfold f_X15_isInside
    exact bd1T (b_sF hS hk 30 40 (by decide) (by decide) q30) (brT rfl rfl)
end RPARSE
