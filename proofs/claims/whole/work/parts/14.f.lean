-- THE PURE PART: the reference's lines that make hedges and roses
section RPARSE
variable {T : List Nat} {tk st ln : Nat → Nat} {N p : Nat}
theorem b_lineN (hN : ∀ j, j + 1 ≤ N → (tk j = 1 ∨ tk j = 2) ∨ j + 2 ≤ N) (hk : ∀ j, j < N → KK (tk j)) {a m q e : Nat} {w : Mm} (hS : MSt T tk st ln N p a 0 m q w) (hm : m + e ≤ 2 * a) (hq : q ≤ a) (hn : ¬ (tk a = 11 ∨ tk a = 12 ∨ tk a = 14)) : ∃ out, f_X15_isLine w = some out ∧ RM T tk st ln N p 0 m q e w (zLine tk a) out := by
  have hN4 := hS.2.2.2.2.2.1
  have haN := hS.2.2.2.2.2.2.1
  have hka := hk a (by omega)
  have c11 : ¬ mk (tk a) = 4 := fun h => hn (Or.inl ((mk_inj hka (by decide : KK 11)).mp h))
  have c12 : ¬ mk (tk a) = 5 := fun h => hn (Or.inr (Or.inl ((mk_inj hka (by decide : KK 12)).mp h)))
  have c14 : ¬ mk (tk a) = 7 := fun h => hn (Or.inr (Or.inr ((mk_inj hka (by decide : KK 14)).mp h)))
  have run : ∀ X, bd1 (f_X15_eat 0 w) (fun r7 w8 => br (r7 = 0) (bd1 (f_X15_eat 2 w8) (fun r9 w10 => br (r9 = 0) (some (0, w10)) (bd1 (f_X15_eatAs 40 2 w10) (fun r11 w12 => br (r11 = 0) (some (0, w12)) (bd1 (f_X15_eat 3 w12) (fun r13 w14 => br (r13 = 0) (some (0, w14)) (bd1 (f_X15_eatAs 41 9 w14) (fun r15 w16 => br (r15 = 0) (some (0, w16)) (some (1, w16)))))))))) (bd1 (f_X15_eatAs 40 1 w8) (fun r17 w18 => br (r17 = 0) (some (0, w18)) (bd1 (f_X15_eat 1 w18) (fun r19 w20 => br (r19 = 0) (some (0, w20)) (bd1 (f_X15_eatAs 41 9 w20) (fun r21 w22 => br (r21 = 0) (some (0, w22)) (some (1, w22))))))))) = X → f_X15_isLine w = X := fun X hX => by
    unfold f_X15_isLine
    rw [hS.1.1]
    refine gdT ((vB_nI (by omega)).mpr (by omega)) ?_
    rw [nI_clamp (by omega), hS.2.1 a (by omega)]
    exact sqT (brF c11 (brF c12 (brF c14 hX)))
  -- what follows the first word
  have tail : ∀ (r1 kk : Nat) (cc : Int32) (w1 : Mm), KK kk → mk kk = cc → (kk = 8 ∨ kk = 10) → (tk (a + 1) = 3 → rol tk (a + 1) = r1) → MSt T tk st ln N p (a + 1) 0 m q w1 → FM p m q w w1 → ∃ out, bd1 (f_X15_eatAs 40 (nI r1) w1) (fun r17 w18 => br (r17 = 0) (some (0, w18)) (bd1 (f_X15_eat cc w18) (fun r19 w20 => br (r19 = 0) (some (0, w20)) (bd1 (f_X15_eatAs 41 (nI 9) w20) (fun r21 w22 => br (r21 = 0) (some (0, w22)) (some (1, w22))))))) = some out ∧ RM T tk st ln N p 0 m q e w (tkz tk 3 (a + 1) (tkz tk kk (a + 2) (tkz tk 4 (a + 3) (.inr (a + 4, []))))) out := by
    intro r1 kk cc w1 hK hc h8 hr hS1 hF1
    refine rm_tkAs (Q := RM T tk st ln N p 0 m q e w) hN hk hS1 (by decide : KK 3) (by decide) (by decide) hr (fun _ w' g u => ⟨rfl, g, fm_tr (Nat.le_refl _) (Nat.le_refl _) hF1 u⟩) fun h3 w2 hS2 u2 => ?_
    have hF2 := fm_tr (Nat.le_refl _) (Nat.le_refl _) hF1 u2
    refine rm_tk (Q := RM T tk st ln N p 0 m q e w) hN hk hS2 hK hc (by omega) (fun h => rol_0 (by omega)) (fun _ => rm_fl hS2 hF2) fun hkk w3 hS3 u3 => ?_
    have hF3 := fm_tr (Nat.le_refl _) (Nat.le_refl _) hF2 u3
    refine rm_tkAs (Q := RM T tk st ln N p 0 m q e w) hN hk hS3 (by decide : KK 4) (by decide) (by decide) (fun h4 => ?_) (fun _ w' g u => ⟨rfl, g, fm_tr (Nat.le_refl _) (Nat.le_refl _) hF3 u⟩) fun h4 w4 hS4 u4 => ?_
    · have h4' : tk (a + 1 + 1 + 1) = 4 := h4
      have hkk' : tk (a + 1 + 1) = kk := hkk
      show rol tk (a + 1 + 1 + 1) = 9
      unfold rol
      rw [if_neg (by omega), if_pos h4', if_neg (by omega), Nat.add_sub_cancel, if_pos (by omega)]
    · have hF4 := fm_tr (Nat.le_refl _) (Nat.le_refl _) hF3 u4
      exact ⟨(1, w4), rfl, rm_mono hF4 (rm_ok hS4 (by omega) (by omega))⟩
  unfold zLine
  by_cases q7 : tk a = 7
  · rw [if_pos q7]
    have h2 : a + 2 ≤ N := by have := hN a haN; omega
    obtain ⟨w1, t1, t2, t3⟩ := b_eatT hS hk 7 0 (by decide) (by decide) q7 h2 (rol_0 (by omega))
    obtain ⟨out, k1, k2⟩ := tail 1 8 1 w1 (by decide) (by decide) (Or.inl rfl) (fun h3 => by unfold rol; rw [if_pos h3, if_neg (by omega), Nat.add_sub_cancel, if_pos q7]) t2 t3
    exact ⟨out, run _ (bd1T t1 (brF (by decide) k1)), k2⟩
  · rw [if_neg q7]
    have n7 := b_eatF hS hk 7 0 (by decide) (by decide) q7
    by_cases q9 : tk a = 9
    · rw [if_pos q9]
      have h2 : a + 2 ≤ N := by have := hN a haN; omega
      obtain ⟨w1, t1, t2, t3⟩ := b_eatT hS hk 9 2 (by decide) (by decide) q9 h2 (rol_0 (by omega))
      obtain ⟨out, k1, k2⟩ := tail 2 10 3 w1 (by decide) (by decide) (Or.inr rfl) (fun h3 => by unfold rol; rw [if_pos h3, if_neg (by omega), Nat.add_sub_cancel, if_neg (by omega), if_pos q9]) t2 t3
      exact ⟨out, run _ (bd1T n7 (brT rfl (bd1T t1 (brF (by decide) k1)))), k2⟩
    · rw [if_neg q9, if_neg hn]
      exact ⟨(0, w), run _ (bd1T n7 (brT rfl (bd1T (b_eatF hS hk 9 2 (by decide) (by decide) q9) (brT rfl rfl)))), rm_fl hS fm_rf⟩
end RPARSE
