-- THE PURE PART: the reference's parser follows the grammar: a single test
section RPARSE
variable {T : List Nat} {tk st ln : Nat → Nat} {N p n : Nat}
theorem b_cmpF {a d m q : Nat} {w : Mm} (h : MSt T tk st ln N p a d m q w) (hk : ∀ j, j < N → KK (tk j)) (hn : ¬ (40 ≤ tk a ∧ tk a ≤ 44)) (R1 R2 R3 R4 R5 R6 : Mm → Option (Int32 × Mm)) : bd1 (f_X15_isSign 60 w) (fun r9 w10 => br (r9 = 0) (bd1 (f_X15_isSign 62 w10) (fun r11 w12 => br (r11 = 0) (bd1 (f_X15_isSign 61 w12) (fun r13 w14 => br (r13 = 0) (bd1 (f_X15_is 300 w14) (fun r15 w16 => br (r15 = 0) (bd1 (f_X15_is 301 w16) (fun r17 w18 => br (r17 = 0) (br (((-1) : Int32) = (-1)) (some (0, w18)) (R1 w18)) (R2 w18))) (R3 w16))) (R4 w14))) (R5 w12))) (R6 w10)) = some (0, w) :=
  bd1T (b_sF h hk 40 60 (by decide) (by decide) (by omega)) (brT rfl (bd1T (b_sF h hk 41 62 (by decide) (by decide) (by omega)) (brT rfl (bd1T (b_sF h hk 42 61 (by decide) (by decide) (by omega)) (brT rfl (bd1T (b_isF h hk 43 300 (by decide) (by decide) (by omega)) (brT rfl (bd1T (b_isF h hk 44 301 (by decide) (by decide) (by omega)) (brT rfl (brT rfl rfl))))))))))
/-- NAME HEARS NAME of the grammar: a name at a, its marks -/
theorem b_named {a d m q : Nat} {w : Mm} (h : MSt T tk st ln N p a d m q w) (hk : ∀ j, j < N → KK (tk j)) (h24 : tk a = 24) (ha : a + 2 ≤ N) (ha3 : tk (a + 1) = 3 → a + 3 ≤ N) (hm : m < 799) (hq : q < 400) : ∃ w', f_X15_isNamed 6 w = some (if tk (a + 1) = 3 then 1 else 0, w') ∧ (tk (a + 1) = 3 → MSt T tk st ln N p (a + 2) d (m + 2) (q + 1) w') ∧ (tk (a + 1) ≠ 3 → gI w' 32 0 9 = nI (a + 1)) ∧ gI w' 53 p m = 17 ∧ gI w' 53 p (m + 1) = nI (a + 1) ∧ gI w' 54 p q = nI (m + 1) ∧ FM p m q w w' := by
  obtain ⟨w1, u1, u2, u3, u4⟩ := b_put h (mk 24) (by omega)
  obtain ⟨v1, v2⟩ := m_adv u2 ha (rol_0 (by omega))
  obtain ⟨w3, x1, x2, x3, x4, x5, x6⟩ := b_name v1 hk 6 (by omega) hq ha3 (fun h3 => by
    unfold rol
    rw [if_pos h3, if_neg (by omega), Nat.add_sub_cancel, if_neg (by omega), if_neg (by omega), if_neg (by omega), if_neg (by omega), if_pos h24])
  refine ⟨w3, ?_, x2, x3, ?_, x4, x5, fm_tr (Nat.le_succ _) (Nat.le_refl _) u4 (fm_tr (Nat.le_refl _) (Nat.le_refl _) v2 x6)⟩
  · unfold f_X15_isNamed
    rw [h.1.1]
    refine gdT ((vB_nI (by have := h.2.2.2.2.2.1; omega)).mpr (by have := h.2.2.2.2.2.1; omega)) ?_
    rw [nI_clamp (by have := h.2.2.2.2.2.1; omega), h.2.1 a (by omega), h24]
    refine bd0T u1 (sqT (bd1T x1 ?_))
    by_cases q3 : tk (a + 1) = 3
    · rw [if_pos q3]; rfl
    · rw [if_neg q3]; rfl
  · rw [x6.1 _ _ _ (by omega) (by omega) (by omega) (by omega) (by omega), v2.1 _ _ _ (by omega) (by omega) (by omega) (by omega) (by omega), u3]
    rfl
end RPARSE
