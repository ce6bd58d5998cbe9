-- THE PURE PART: the mean
theorem z_meanPetals {P : Nat → Nat → Mm → Prop} {b t : Nat} {w : Mm} (hP : Stb P) (hI : Iv P b t w) (ht : t + 1 ≤ 512) : CN (f_X12_meanPetals w) f_X15_meanPetals (Iv P b (t + 1)) := by
  obtain ⟨H, R, S, hA, hB, hO, ht0, hb, hp⟩ := hI
  have hH := hO.1.1.1
  have hR := hO.1.1.2.1
  have hE : EqR w (pI w 32 0 0 0) := eqr_pI (by omega)
  have hB1 := rb_o (c := 32) (k := 0) (i := 0) (v := 0) hB (by omega)
  have hI' : Iv P b (t + 1) (pI w 32 0 0 0) := ⟨H, R, S, ra_o hA hH hR (by omega), hB1, ok_mono hO (by omega), ht, bt_eqr hb hE, hP _ _ _ _ hE hp⟩
  obtain ⟨⟨p1, p2, p3, p4, p5, p6, p7, p8⟩, -⟩ := id hB1
  by_cases r0 : R = 0
  · subst r0
    refine ⟨FP.dconst0, w, pI w 32 0 0 0, ?_, ?_, hI'⟩
    · unfold f_X12_meanPetals
      rw [hA.1.2]
      exact brT rfl rfl
    · unfold f_X15_meanPetals
      refine sqT (gdT p1 (sqT (gdT p2 ?_)))
      rw [p6]
      exact brT rfl rfl
  · have hne : ¬ nI R = 0 := nI_ne0 (by omega) (by omega)
    refine ⟨FP.ddiv (FP.i2d (sumI R (sg S 5))) (FP.i2d (nI R)), w, pI w 32 0 0 0, ?_, ?_, hI'⟩
    · unfold f_X12_meanPetals
      rw [hA.1.2]
      refine brF hne (bd1T (a_sumP' (B := 376320 * t) (by omega) (by omega) (by omega) hA hR hO.2) ?_)
      rw [hA.1.2, l2d_i2d]
      exact gdT (decide_eq_true (div_nn (by omega) hR)) rfl
    · unfold f_X15_meanPetals
      refine sqT (gdT p1 (sqT (gdT p2 ?_)))
      rw [p6]
      refine brF hne (bd1T (b_sumP' hB1 hR) (gdT p1 (sqT (gdT p2 ?_))))
      rw [p6]
      exact gdT (decide_eq_true (div_nn (by omega) hR)) rfl
