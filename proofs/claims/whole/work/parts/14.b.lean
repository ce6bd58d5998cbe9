-- THE PURE PART: the reference's parser follows the grammar: values, all of them
section RPARSE
variable {T : List Nat} {tk st ln : Nat → Nat} {N p n : Nat}
theorem rm_gd {d m q e : Nat} {w : Mm} {res : Rz} {out : Int32 × Mm} (h : RM T tk st ln N p d m q e w res out) : gd (decide (out.1 &&& 1 = out.1)) (some (out.1, out.2)) = some out := by
  have : out.1 = 0 ∨ out.1 = 1 := by
    match res, h with
    | .inl b, h => exact Or.inl h.1
    | .inr (a, o), h => exact Or.inr h.1
  obtain ⟨r, w'⟩ := out
  have q0 : decide ((0 : Int32) &&& 1 = 0) = true := by decide
  have q1 : decide ((1 : Int32) &&& 1 = 1) = true := by decide
  rcases this with h | h
  · simp only at h; subst h; exact gdT q0 rfl
  · simp only at h; subst h; exact gdT q1 rfl
theorem bd1_gd {d m q e : Nat} {w : Mm} {res : Rz} {out : Int32 × Mm} {E : Option (Int32 × Mm)} (hE : E = some out) (h : RM T tk st ln N p d m q e w res out) : bd1 E (fun r w' => gd (decide (r &&& 1 = r)) (some (r, w'))) = some out := by
  rw [hE]; exact rm_gd h
theorem mk_mid : ¬ mk 17 < 10 ∧ ¬ 12 < mk 17 ∧ ¬ mk 18 < 10 ∧ ¬ 12 < mk 18 ∧ ¬ mk 19 < 10 ∧ ¬ 12 < mk 19 := by decide +kernel
theorem mk_hi : (¬ mk 20 < 10 ∧ 12 < mk 20 ∧ ¬ mk 20 < 13 ∧ ¬ 15 < mk 20 ∧ ¬ mk 20 = 15) ∧ (¬ mk 21 < 10 ∧ 12 < mk 21 ∧ ¬ mk 21 < 13 ∧ ¬ 15 < mk 21 ∧ ¬ mk 21 = 15) ∧ (¬ mk 22 < 10 ∧ 12 < mk 22 ∧ ¬ mk 22 < 13 ∧ ¬ 15 < mk 22 ∧ mk 22 = 15) := by decide +kernel
theorem b_vnum {d a m q e k : Nat} {w : Mm} (hN : ∀ j, j + 1 ≤ N → (tk j = 1 ∨ tk j = 2) ∨ j + 2 ≤ N) (hk : ∀ j, j < N → KK (tk j)) (hS : MSt T tk st ln N p a d m q w) (hm : m + e ≤ 2 * a) (hq : q ≤ a) (hp : pvk tk a) (h4 : tk a = 4) : ∃ out, f_X15_isValue (grpR k) w = some out ∧ RM T tk st ln N p d m q e w (.inr (a + 1, [(tk a, nI a, -1)])) out := by
  have hN4 := hS.2.2.2.2.2.1
  have haN := hS.2.2.2.2.2.2.1
  have h2 : a + 2 ≤ N := by have := hN a haN; omega
  obtain ⟨w1, u1, u2, u3, u4⟩ := b_put hS 32 (by omega)
  obtain ⟨w2, v1, v2, v3, v4⟩ := b_put u2 (nva T st ln a) (by omega)
  have hr : rol tk a = 0 := by
    obtain ⟨p1, p2, p3⟩ := hp
    unfold rol
    rw [if_neg (by omega), if_pos h4, if_neg (by omega), if_neg (by omega)]
  obtain ⟨w3, hw3⟩ : ∃ w3, w3 = pI w2 32 0 9 ((gI w2 32 0 9) + 1) := ⟨_, rfl⟩
  obtain ⟨x1, x2⟩ := m_adv v2 h2 hr
  rw [← hw3] at x1 x2
  have e1 : mcs (nva T st ln) [(tk a, nI a, -1)] = [32, nva T st ln a] := by
    rw [h4]
    show [32, nva T st ln (nI a).toNatClampNeg] ++ [] = _
    rw [nI_clamp (by omega)]; rfl
  have e2 : opn (nva T st ln) m [(tk a, nI a, -1)] = [] := by rw [h4]; rfl
  refine ⟨(1, w3), b_v0 hS (bd1T (b_isT hS hk 4 41 (by decide) (by decide) h4) (brF (by decide) (bd0T u1 ?_))) (by simp), rfl, ?_, ?_, ?_, ?_, ?_, fm_tr (Nat.le_succ _) (Nat.le_refl _) u4 (fm_tr (Nat.le_succ _) (Nat.le_refl _) v4 x2)⟩
  · rw [u2.1.1]
    exact bd1T (b_number u2 h4) (bd0T v1 (sqT (by rw [hw3])))
  · rw [e1, e2]; exact x1
  · rw [e1]
    intro j v ev
    match j, ev with
    | 0, ev =>
      cases ev
      show gI w3 53 p _ = _
      rw [x2.1 _ _ _ (by omega) (by omega) (by omega) (by omega) (by omega), v4.1 _ _ _ (by omega) (by omega) (by omega) (by omega) (by omega)]
      exact u3
    | 1, ev =>
      cases ev
      show gI w3 53 p _ = _
      rw [x2.1 _ _ _ (by omega) (by omega) (by omega) (by omega) (by omega)]
      exact v3
    | j + 2, ev => simp at ev
  · rw [e2]; exact fun j v ev => by simp at ev
  · rw [e1]; show m + 2 + e ≤ 2 * (a + 1); omega
  · rw [e2]; show q + 0 ≤ a + 1; omega
theorem b_vwd {d a m q e k : Nat} {w : Mm} (hN : ∀ j, j + 1 ≤ N → (tk j = 1 ∨ tk j = 2) ∨ j + 2 ≤ N) (hk : ∀ j, j < N → KK (tk j)) (hS : MSt T tk st ln N p a d m q w) (hm : m + e ≤ 2 * a) (hq : q ≤ a) (h4 : tk a = 17 ∨ tk a = 18 ∨ tk a = 19) : ∃ out, f_X15_isValue (grpR k) w = some out ∧ RM T tk st ln N p d m q e w (.inr (a + 1, [(tk a, nI a, -1)])) out := by
  have hN4 := hS.2.2.2.2.2.1
  have haN := hS.2.2.2.2.2.2.1
  have h2 : a + 2 ≤ N := by have := hN a haN; omega
  obtain ⟨w1, u1, u2, u3, u4⟩ := b_put hS (mk (tk a)) (by omega)
  obtain ⟨w3, hw3⟩ : ∃ w3, w3 = pI w1 32 0 9 ((gI w1 32 0 9) + 1) := ⟨_, rfl⟩
  obtain ⟨x1, x2⟩ := m_adv u2 h2 (rol_0 (by omega))
  rw [← hw3] at x1 x2
  have e1 : mcs (nva T st ln) [(tk a, nI a, -1)] = [mk (tk a)] := by
    rcases h4 with h | h | h <;> (rw [h]; rfl)
  have e2 : opn (nva T st ln) m [(tk a, nI a, -1)] = [] := by
    rcases h4 with h | h | h <;> (rw [h]; rfl)
  have hc : ¬ mk (tk a) < 10 ∧ ¬ 12 < mk (tk a) := by
    obtain ⟨l1, l2, l3, l4, l5, l6⟩ := mk_mid
    rcases h4 with h | h | h <;> rw [h]
    · exact ⟨l1, l2⟩
    · exact ⟨l3, l4⟩
    · exact ⟨l5, l6⟩
  refine ⟨(1, w3), b_v0 hS (bd1T (b_isF hS hk 4 41 (by decide) (by decide) (by omega)) (brT rfl (brF hc.1 (brF hc.2 (bd0T u1 (sqT (by rw [hw3]))))))) (by simp), rfl, ?_, ?_, ?_, ?_, ?_, fm_tr (Nat.le_succ _) (Nat.le_refl _) u4 x2⟩
  · rw [e1, e2]; exact x1
  · rw [e1]
    exact mseg_1 (by rw [x2.1 _ _ _ (by omega) (by omega) (by omega) (by omega) (by omega)]; exact u3)
  · rw [e2]; exact fun j v ev => by simp at ev
  · rw [e1]; show m + 1 + e ≤ 2 * (a + 1); omega
  · rw [e2]; show q + 0 ≤ a + 1; omega
end RPARSE
