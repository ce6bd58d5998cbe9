-- THE PURE PART: the checksum of the reference
theorem eqr_nw {w : Mm} {c k st : Nat} (hc : 63 < c) : EqR w (nw w c k st) := ⟨fun c' k' i q => by rw [gI_nw, if_neg (by omega)], fun c' k' i q => by rw [gL_nw, if_neg (by omega)], fun c' k' i q => by rw [gR_nw, if_neg (by omega)], fun a q => by rw [gS_nw, if_neg (by omega)], by rw [gZ_nw]; omega⟩
theorem b_digest {B : Int} {b H R : Nat} {S : Gs} {w : Mm} (hB0 : B + 784 < 2147483648) (hO : OK B H R S) (hB : RB 0 H R S w) (hb : Bz b w) : ∃ w', f_X15_digest b w = some (dAll S H R, w') ∧ RB 0 H R S w' ∧ EqR w w' ∧ ∀ c k i, c < 32 → gI w' c k i = gI w c k i := by
  have hS := hO.1.1
  have hH := hS.1
  have hR := hS.2.1
  have k0 : (0 : Int32).toNatClampNeg = 0 := by decide
  have k1 : (1 : Int32).toNatClampNeg = 1 := by decide
  have k2 : (2 : Int32).toNatClampNeg = 2 := by decide
  have k3 : (3 : Int32).toNatClampNeg = 3 := by decide
  have k4 : (4 : Int32).toNatClampNeg = 4 := by decide
  have k5 : (5 : Int32).toNatClampNeg = 5 := by decide
  have k6 : (6 : Int32).toNatClampNeg = 6 := by decide
  have k7 : (7 : Int32).toNatClampNeg = 7 := by decide
  have k8 : (8 : Int32).toNatClampNeg = 8 := by decide
  have q0 := rb_nw (c := 65) (k := gZ w) (st := 0) (rb_o (c := 32) (k := 0) (i := 0) (v := 0) hB (by omega)) (by omega) hb.2.2
  have E0 : EqR w (nw (pI w 32 0 0 0) 65 (gZ w) 0) := eqr_tr (eqr_pI (by omega)) (eqr_nw (by omega))
  generalize hu : nw (pI w 32 0 0 0) 65 (gZ w) 0 = u0 at q0 E0
  have hsh : ∀ v : Mm, v.2 = u0.2 → shS v b 65 (gZ w) 0 = true := fun v hv => by
    unfold shS
    rw [gS_2 hv, ← hu]
    show decide (gS (nw (pI w 32 0 0 0) 65 (gZ w) 0) (gZ w) = (65, gZ w, 0)) = true
    rw [gS_nw]
    exact decide_eq_true (if_pos rfl)
  have q1 := rb_o (c := 65) (k := gZ w) (i := 0) (v := nI H) q0 (by omega)
  have q2 := rb_o (c := 65) (k := gZ w) (i := 1) (v := nI R) q1 (by omega)
  have q3 := rb_o (c := 65) (k := gZ w) (i := 2) (v := sg S 0 0) q2 (by omega)
  have q4 := rb_o (c := 65) (k := gZ w) (i := 3) (v := sg S 0 1) q3 (by omega)
  have q5 := rb_o (c := 65) (k := gZ w) (i := 4) (v := sg S 0 2) q4 (by omega)
  have q6 := rb_o (c := 65) (k := gZ w) (i := 5) (v := sg S 0 3) q5 (by omega)
  have q7 := rb_o (c := 65) (k := gZ w) (i := 6) (v := sumI R (sg S 7)) q6 (by omega)
  have q8 := rb_o (c := 65) (k := gZ w) (i := 7) (v := oI (fl S R)) q7 (by omega)
  have E8 : EqR u0 (pI (pI (pI (pI (pI (pI (pI (pI u0 65 (gZ w) 0 (nI H)) 65 (gZ w) 1 (nI R)) 65 (gZ w) 2 (sg S 0 0)) 65 (gZ w) 3 (sg S 0 1)) 65 (gZ w) 4 (sg S 0 2)) 65 (gZ w) 5 (sg S 0 3)) 65 (gZ w) 6 (sumI R (sg S 7))) 65 (gZ w) 7 (oI (fl S R))) := eqr_tr (eqr_tr (eqr_tr (eqr_tr (eqr_tr (eqr_tr (eqr_tr (eqr_pI (by omega)) (eqr_pI (by omega))) (eqr_pI (by omega))) (eqr_pI (by omega))) (eqr_pI (by omega))) (eqr_pI (by omega))) (eqr_pI (by omega))) (eqr_pI (by omega))
  obtain ⟨x, x1, x2, x3⟩ := b_best' (b := b) hB0 hO i20 q8 (bt_eqr hb (eqr_tr E0 E8)).1
  have q9 := rb_o (c := 65) (k := gZ w) (i := 8) (v := (bst S R 20 H).1) x2 (by omega)
  have hx2 : (pI x 65 (gZ w) 8 (bst S R 20 H).1).2 = u0.2 := x3.2
  have E9 : EqR w (pI x 65 (gZ w) 8 (bst S R 20 H).1) := eqr_tr (eqr_tr (eqr_tr E0 E8) (eqr_UB x3)) (eqr_pI (by omega))
  have g65 : ∀ j, j < 8 → gI (pI x 65 (gZ w) 8 (bst S R 20 H).1) 65 (gZ w) j = gI (pI (pI (pI (pI (pI (pI (pI (pI u0 65 (gZ w) 0 (nI H)) 65 (gZ w) 1 (nI R)) 65 (gZ w) 2 (sg S 0 0)) 65 (gZ w) 3 (sg S 0 1)) 65 (gZ w) 4 (sg S 0 2)) 65 (gZ w) 5 (sg S 0 3)) 65 (gZ w) 6 (sumI R (sg S 7))) 65 (gZ w) 7 (oI (fl S R))) 65 (gZ w) j := fun j hj => by
    rw [gI_pI, if_neg (by omega), x3.1 _ _ _ (by unfold ownB; omega)]
  have hit : itr (fun j d => dg d (gI (pI x 65 (gZ w) 8 (bst S R 20 H).1) 65 (gZ w) j)) 9 1063 = dg (dg (dg (dg (dg (dg (dg (dg (dg 1063 (nI H)) (nI R)) (sg S 0 0)) (sg S 0 1)) (sg S 0 2)) (sg S 0 3)) (sg S 0 4)) (oI (fl S R))) (bst S R 20 H).1 := by
    simp only [itr]
    rw [g65 0 (by omega), g65 1 (by omega), g65 2 (by omega), g65 3 (by omega), g65 4 (by omega), g65 5 (by omega), g65 6 (by omega), g65 7 (by omega), hO.1.2.2.2]
    simp [gI_pI]
  refine ⟨_, ?_, q9, E9, fun c k i hc => ?_⟩
  · unfold f_X15_digest
    simp only [k0, k1, k2, k3, k4, k5, k6, k7, k8]
    refine sqT (sqT (gdT (by rw [decide_eq_true_eq]; rfl) (sqT ?_)))
    rw [show gZ (pI w 32 0 0 0) = gZ w from rfl, hu]
    obtain ⟨⟨a1, a2, a3, a4, a5, a6, a7, a8⟩, -⟩ := id q0
    refine gdT a1 (sqT (gdT a2 (gdT rfl (gdT (hsh _ rfl) ?_))))
    rw [a5]
    refine sqT ?_
    obtain ⟨⟨a1, a2, a3, a4, a5, a6, a7, a8⟩, -⟩ := id q1
    refine gdT a1 (sqT (gdT a2 (gdT rfl (gdT (hsh _ rfl) ?_))))
    rw [a6]
    refine sqT ?_
    obtain ⟨-, ⟨b1, b2, b3, b4⟩, -⟩ := id q2
    refine gdT rfl (gdT (hsh _ rfl) ?_)
    rw [b1]
    refine sqT ?_
    obtain ⟨-, ⟨b1, b2, b3, b4⟩, -⟩ := id q3
    refine gdT rfl (gdT (hsh _ rfl) ?_)
    rw [b2]
    refine sqT ?_
    obtain ⟨-, ⟨b1, b2, b3, b4⟩, -⟩ := id q4
    refine gdT rfl (gdT (hsh _ rfl) ?_)
    rw [b3]
    refine sqT ?_
    obtain ⟨-, ⟨b1, b2, b3, b4⟩, -⟩ := id q5
    refine gdT rfl (gdT (hsh _ rfl) ?_)
    rw [b4]
    refine sqT (bd1T (b_allLeft' q6 hR) (gdT rfl (gdT (hsh _ rfl) (sqT (bd1T (b_full' q7 hR) (gdT rfl (gdT (hsh _ rfl) (sqT (bd1T x1 (gdT rfl (gdT (hsh _ x3.2) (sqT (gdT (hsh _ hx2) ?_)))))))))))))
    refine bd1T (b_d117 (hsh _ hx2) 9 0 LF rfl (by unfold LF; omega)) ?_
    rw [hit]
    exact bd1T (b_d150 hS q9 H 0 LF (by omega) (by unfold LF; omega)) (bd1T (b_d304 hS q9 R 0 LF (by omega) (by unfold LF; omega)) rfl)
  · rw [gI_pI, if_neg (by omega), x3.1 _ _ _ (by unfold ownB; omega)]
    simp only [gI_pI]
    rw [if_neg (by omega), if_neg (by omega), if_neg (by omega), if_neg (by omega), if_neg (by omega), if_neg (by omega), if_neg (by omega), if_neg (by omega), ← hu, gI_nw, if_neg (by omega), gI_pI, if_neg (by omega)]
theorem z_digest {P : Nat → Nat → Mm → Prop} {b t : Nat} {w : Mm} (hP : Stb P) (hI : Iv P b t w) (ht : t + 1 ≤ 512) : CN (f_X12_digest w) (f_X15_digest b) (Iv P b (t + 1)) := by
  obtain ⟨H, R, S, hA, hB, hO, ht0, hb, hp⟩ := hI
  obtain ⟨w1, a1, a2, a3⟩ := a_digest (by omega) (by omega) hO hA
  obtain ⟨w2, b1, b2, b3, b4⟩ := b_digest (by omega) hO (rb_UA a3 hB) (bt_eqr hb (eqr_UA a3))
  have hE := eqr_tr (eqr_UA a3) b3
  exact ⟨_, w1, w2, a1, b1, H, R, S, ra_cg a2 hO.1.1.1 hO.1.1.2.1 (fun c k i q => b4 c k i (by omega)), b2, ok_mono hO (by omega), ht, bt_eqr hb hE, hP _ _ _ _ hE hp⟩
