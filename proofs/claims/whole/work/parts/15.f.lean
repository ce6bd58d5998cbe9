-- THE PURE PART: teach
theorem cO_os {tk : Nat → Nat} {E : Nat} : ∀ (os : List (Nat × Oo)) (a : Nat), a ≤ E → OPs tk a E os → cO tk E = cO tk a + os.length
  | [], a, ha, h => by
    obtain ⟨d, rfl⟩ : ∃ d, E = a + d := ⟨E - a, by omega⟩
    rw [cO_no d h]; rfl
  | (b, o) :: os, a, ha, h => by
    obtain ⟨g1, g2, g3, ⟨c, _, g5⟩, g6⟩ := h
    have ih := cO_os os (b + 1) (by omega) g6
    obtain ⟨d, rfl⟩ : ∃ d, b = a + d := ⟨b - a, by omega⟩
    rw [ih, cO_s, if_pos g5.1, cO_no d g3, List.length_cons]
    omega
theorem fE_no {T : List Nat} {tk st ln : Nat → Nat} {N : Nat} (h : fE T tk st ln N = none) : ∀ u, u + 1 < N → ec T tk st ln u = 0 := fun u hu => by
  have : ∀ n i, fnd (fun j => decide (ec T tk st ln j ≠ 0)) n i = none → ∀ k, i ≤ k → k < i + n → ec T tk st ln k = 0 := by
    intro n
    induction n with
    | zero => intro i _ k h1 h2; omega
    | succ n ih =>
      intro i h k h1 h2
      unfold fnd at h
      by_cases q : decide (ec T tk st ln i ≠ 0) = true
      · rw [if_pos q] at h; cases h
      · rw [if_neg q] at h
        by_cases qk : k = i
        · subst qk
          by_cases e : ec T tk st ln k = 0
          · exact e
          · exact (q (decide_eq_true e)).elim
        · exact ih (i + 1) h k (by omega) (by omega)
  exact this (N - 1) 0 h u (Nat.zero_le _) (by omega)
theorem nI_19 {n : Nat} (h1 : 1 ≤ n) (h9 : n ≤ 9) : 1 ≤ (nI n).toInt ∧ (nI n).toInt ≤ 9 := by
  have : n = 1 ∨ n = 2 ∨ n = 3 ∨ n = 4 ∨ n = 5 ∨ n = 6 ∨ n = 7 ∨ n = 8 ∨ n = 9 := by omega
  rcases this with rfl | rfl | rfl | rfl | rfl | rfl | rfl | rfl | rfl <;> decide
/-- the plans and gardens after a reading that failed -/
theorem eqp_fail {z : Nat} {w w1 wA w4 w5 : Mm} (hA : AF z w w1) (hz : gR w 1 0 7 ≠ z + 1) (h7 : 1 ≤ gR w 1 0 7) (eA : wA.2 = w1.2) (iA : ∀ c k i, c ≠ 32 → gI wA c k i = gI w1 c k i) (hB : BF wA w4) (e5 : w5.2 = w4.2) (i5 : ∀ c k i, c ≠ 32 → gI w5 c k i = gI w4 c k i) (hk : gR w 32 0 11 + 10 ≤ gZ w) : EqP w w5 ∧ (∀ c k i, ((11 ≤ c ∧ c ≤ 24) ∨ 55 ≤ c) → gI w5 c k i = gI w c k i) ∧ (gR w5 1 0 8 = gR w 1 0 8) := by
  have ez1 : gZ w1 = gZ w := by show w1.2.2.2.2 = w.2.2.2.2; rw [hA.2.2.2]
  have ezA : gZ wA = gZ w := by
    have : gZ wA = gZ w1 := by show wA.2.2.2.2 = w1.2.2.2.2; rw [eA]
    rw [this, ez1]
  have ez5 : gZ w5 = gZ w4 := by show w5.2.2.2.2 = w4.2.2.2.2; rw [e5]
  have r : ∀ c k i, ¬ (c = 5 ∨ c = 31 ∨ (25 ≤ c ∧ c ≤ 30 ∧ k = z)) → ¬ (c = 32 ∧ k = 0 ∧ i = 12) → ¬ (44 ≤ c ∧ c ≤ 54 ∧ k = gZ w) → gR w5 c k i = gR w c k i := fun c k i q1 q2 q3 => by
    rw [gR_2 e5, hB.2.1 c k i q2 (by rw [ezA]; exact q3), gR_2 eA, hA.2.1 c k i q1]
  have g : ∀ c k i, ¬ (c ≤ 10) → ¬ (31 ≤ c ∧ c ≤ 38) → ¬ (25 ≤ c ∧ c ≤ 30 ∧ k = z) → ¬ (44 ≤ c ∧ c ≤ 54 ∧ k = gZ w) → gI w5 c k i = gI w c k i := fun c k i q1 q2 q3 q4 => by
    rw [i5 _ _ _ (by omega), hB.1 c k i (by omega) (by omega) (by rw [ezA]; exact q4), iA _ _ _ (by omega), hA.1 c k i (by omega) (by omega) (by omega) q3]
  refine ⟨⟨r _ _ _ (by omega) (by omega) (by omega), r _ _ _ (by omega) (by omega) (by omega), fun c i h1 h2 => ⟨g _ _ _ (by omega) (by omega) (by omega) (by omega), r _ _ _ (by omega) (by omega) (by omega)⟩, fun c i h1 h2 => g _ _ _ (by omega) (by omega) (by omega) (by omega), fun a ha => ?_, ?_⟩, fun c k i h => g _ _ _ (by omega) (by omega) (by omega) (by omega), r _ _ _ (by omega) (by omega) (by omega)⟩
  · rw [gS_2 e5, hB.2.2.2.1 a (by rw [ezA]; exact ha), gS_2 eA]
    show w1.2.2.2.1 a = _
    rw [hA.2.2.2]; rfl
  · rw [ez5, ← ezA]; exact hB.2.2.2.2
/-- the whole of teach -/
theorem z_teach {b t : Nat} {w : Mm} (hI : Iv Pp b t w) (ht : t + 1 ≤ 512) : CN (f_X12_teach w) (f_X15_teach b) (Iv Pp b (t + 1)) := by
  obtain ⟨H, R, S, hA, hB, hO, ht0, hb, hp⟩ := id hI
  obtain ⟨hp1, hp2, ⟨T, t1, t2, t3, t4⟩, hp4, hp5⟩ := id hp
  have hH := hO.1.1.1
  have hR := hO.1.1.2.1
  obtain ⟨z, hz, hz8, hz7, hz1⟩ : ∃ z, z < 2 ∧ gR w 1 0 8 = z + 1 ∧ gR w 1 0 7 ≠ z + 1 ∧ (gR w 1 0 7 = 1 ∨ gR w 1 0 7 = 2) := by
    rcases hp4 with ⟨q1, q2⟩ | ⟨q1, q2⟩
    · exact ⟨1, by omega, by omega, by omega, by omega⟩
    · exact ⟨0, by omega, by omega, by omega, by omega⟩
  have hv7 : vok 25 (gR w 1 0 7) = true := by rcases hz1 with q | q <;> rw [q] <;> decide
  obtain ⟨hK, hend⟩ := tkf_T t3
  obtain ⟨p1, p2, p3, p4, p5⟩ := id hK
  obtain ⟨r, w1, a1, a2, a3⟩ := a_teach (T := T) (z := z) (w := w) ⟨t1, t3, fun j x q => (t4 j x q).2⟩ hz hz8 hv7
  have hz125 : b + 125 ≤ gZ w := hb.2.1
  -- the reference reads
  have hAF1 : (∀ c k i, 32 ≤ c → gI w1 c k i = gI w c k i) ∧ (∀ i, gR w1 32 0 i = gR w 32 0 i) ∧ w1.2.2.2 = w.2.2.2 := by
    match zBookO (tkT T) (TKs T).length 0, a3 with
    | .inl e, a3 => exact ⟨fun c k i q => a3.2.2.1 c k i (by omega) (by omega) (by omega) (by omega), fun i => a3.2.2.2.1 32 0 i (by omega), a3.2.2.2.2.2⟩
    | .inr (a, os), a3 =>
      simp only at a3
      match fE T (tkT T) (stT T) (lnT T) (TKs T).length, a3 with
      | some j, a3 => exact ⟨fun c k i q => a3.2.2.1 c k i (by omega) (by omega) (by omega) (by omega), fun i => a3.2.2.2.1 32 0 i (by omega), a3.2.2.2.2.2⟩
      | none, a3 =>
        obtain ⟨_, _, w0, w2, m8, q1, q2, q3, _⟩ := a3
        refine ⟨fun c k i q => ?_, fun i => ?_, ?_⟩
        · rw [q3.1 c k i (by unfold ownA; omega), q2]
          show gI w0 c k i = _
          exact q1.1 c k i (by omega) (by omega) (by omega) (by omega)
        · rw [gR_2 q3.2, q2, gR_pR, if_neg (by omega), gR_pR, if_neg (by omega)]
          exact q1.2.1 _ _ _ (by omega)
        · rw [q3.2, q2]; exact q1.2.2.2
  obtain ⟨ia, ra, sa⟩ := hAF1
  obtain ⟨wA, hwA⟩ : ∃ wA, wA = pI (pI w1 32 0 0 0) 32 0 3 (-1) := ⟨_, rfl⟩
  have iA : ∀ c k i, ¬ (c = 32 ∧ k = 0 ∧ (i = 0 ∨ i = 3)) → gI wA c k i = gI w1 c k i := fun c k i q => by rw [hwA, gI_pI, if_neg (by omega), gI_pI, if_neg (by omega)]
  have eA : wA.2 = w1.2 := by rw [hwA]; rfl
  have ez1 : gZ w1 = gZ w := by show w1.2.2.2.2 = w.2.2.2.2; rw [sa]
  have ezA : gZ wA = gZ w := by
    have : gZ wA = gZ w1 := by show wA.2.2.2.2 = w1.2.2.2.2; rw [eA]
    rw [this, ez1]
  have tA : TM T wA := by
    refine ⟨?_, t3, fun j x q => ?_⟩
    · rw [iA _ _ _ (by omega), ia _ _ _ (by omega)]; exact t2
    · rw [iA _ _ _ (by omega), ia _ _ _ (by omega)]; exact ⟨(t4 j x q).1, (t4 j x q).2.2⟩
  obtain ⟨r', w4, b1, b2, b3, bZ, b4⟩ := b_read (b := b) tA (by omega) (by rw [gR_2 eA, ra, ezA]; omega)
  rw [ezA] at b3 bZ b4
  obtain ⟨w5, hw5⟩ : ∃ w5, w5 = pI w4 32 0 2 0 := ⟨_, rfl⟩
  have i5 : ∀ c k i, ¬ (c = 32 ∧ k = 0 ∧ i = 2) → gI w5 c k i = gI w4 c k i := fun c k i q => by rw [hw5, gI_pI, if_neg (by omega)]
  have e5 : w5.2 = w4.2 := by rw [hw5]; rfl
  have run : ∀ X, br (r' ≤ 0) (gd (vok 44 (gR w5 32 0 12)) (sq (gR w5 32 0 12 - 1) (fun p7 => sq (pR w5 32 0 11 (p7 + 1)) (fun w8 => bd0 (f_X14_begin b 0 w8) (fun w9 => some ((0 : Int32), w9)))))) (some (r', w5)) = X → f_X15_teach b w1 = X := fun X hX => by
    unfold f_X15_teach
    refine sqT (sqT ?_)
    rw [← hwA]
    refine bd1T b1 (sqT ?_)
    rw [← hw5]; exact hX
  -- a reading that fails keeps everything
  have fail : ∀ v : Nat, r = nI v → r' = nI v → 1 ≤ v → v ≤ 5 → AF z w w1 → gI w1 1 0 10 = gI w4 32 0 3 → CN (f_X12_teach w) (f_X15_teach b) (Iv Pp b (t + 1)) := fun v hv hv' h1 h5 hAF hat => by
    obtain ⟨q1, q2, q3⟩ := eqp_fail hAF hz7 (by omega) eA (fun c k i q => iA c k i (by omega)) b2 e5 (fun c k i q => i5 c k i (by omega)) hp5
    refine ⟨r, w1, w5, a1, run _ (brF ?_ (by rw [hv, hv'])), H, R, S, ra_cg hA hH hR (fun c k i q => q2 _ _ _ (by omega)), rb_eqp q1 hp5 (fun c i h1 h2 => q2 _ _ _ (by omega)) hB, ok_mono hO (by omega), ht, bz_eqp hb q1, pl_eqp q1 hp5 hp1, ?_, ⟨[], ?_, ?_, by simp, fun j x q => by simp at q⟩, ?_, ?_⟩
    · rw [hv', show (0 : Int32) = nI 0 from rfl, nI_leI (by omega) (by omega)]; omega
    · rw [i5 _ _ _ (by omega), i5 _ _ _ (by omega), b2.1 1 0 10 (by omega) (by omega) (by omega), iA _ _ _ (by omega)]; exact hat
    · show gI w5 2 0 1 = 0
      rw [i5 _ _ _ (by omega), b2.1 _ _ _ (by omega) (by omega) (by omega), iA _ _ _ (by omega)]; exact a2
    · show gI w5 32 0 2 = 0
      rw [hw5, gI_pI, if_pos ⟨rfl, rfl, rfl⟩]
    · unfold SPl
      rw [q3, q1.1]; exact hp4
    · rw [q1.2.1]; exact Nat.le_trans hp5 q1.2.2.2.2.2
  have hbs := fun a os e => bs_book (tk := tkT T) p5 p2 (TKs T).length 0 a os (by omega) e
  have hgl : ∀ a os, zBookO (tkT T) (TKs T).length 0 = .inr (a, os) → True := fun _ _ _ => trivial
  match hbo : zBookO (tkT T) (TKs T).length 0, a3, b4, hbs with
  | .inl e, a3, b4, _ =>
    obtain ⟨g1, g2, g3⟩ := a3
    obtain ⟨k1, k2⟩ := b4
    exact fail 1 (by rw [g1]; rfl) (by rw [k1]; rfl) (by omega) (by omega) g3 (by rw [g2, k2])
  | .inr (a, os), a3, b4, hbs =>
    obtain ⟨_, n2, n3, n4, n5⟩ := hbs a os rfl
    have hE : a + 1 = (TKs T).length := (hend a (by omega)).mp (Or.inl n3)
    simp only at a3 b4
    have hfe : ∀ j, fE T (tkT T) (stT T) (lnT T) (TKs T).length = some j → ec T (tkT T) (stT T) (lnT T) j ≠ 0 := fun j hj => of_decide_eq_true (fnd_2 _ _ _ hj).2.2
    have hno : fE T (tkT T) (stT T) (lnT T) (TKs T).length = none → ∀ u, u + 1 < (TKs T).length → ec T (tkT T) (stT T) (lnT T) u = 0 := fE_no
    match fE T (tkT T) (stT T) (lnT T) (TKs T).length, a3, b4, hfe, hno with
    | some j, a3, b4, hfe, _ =>
      obtain ⟨g1, g2, g3⟩ := a3
      obtain ⟨k1, k2⟩ := b4
      have := hfe j rfl
      exact fail _ g1 k1 (by omega) ec5 g3 (by rw [g2, k2])
    | none, a3, b4, _, hno =>
      have h0 := hno rfl
      obtain ⟨g1, g2, w0, w2, m8, g3, g4, g5, g6, g7, g8, g9, g10, g11, g12, g13, g14, g15, g16⟩ := a3
      obtain ⟨k1, k2, ⟨c1, c2⟩, ⟨c3, c4⟩, ⟨c5, c6⟩, c7, c8, c9, c10, m38, c11, c12⟩ := b4
      subst g1
      subst k1
      rw [show (TKs T).length - 1 = a by omega] at c1 c2 c3 c4 c5 c6 c7 g9
      obtain ⟨_, e1⟩ := cN_E (tk := tkT T) (r := 1) (E := a) (fun u hu => n4 u (Nat.zero_le _) hu) n3 (Or.inl rfl)
      obtain ⟨_, e2⟩ := cN_E (tk := tkT T) (r := 2) (E := a) (fun u hu => n4 u (Nat.zero_le _) hu) n3 (Or.inr rfl)
      rw [hE] at e1 e2
      rw [e1, e2] at g6
      rw [e1] at g7 g10
      rw [e2] at g8 g11
      -- the state begins
      obtain ⟨p, hp0⟩ : ∃ p, p = gZ w := ⟨_, rfl⟩
      rw [← hp0] at b3 bZ c1 c2 c3 c5 c6 c7 c8 c9 c12
      obtain ⟨w8, hw8⟩ : ∃ w8, w8 = pR w5 32 0 11 (p + 1) := ⟨_, rfl⟩
      have i8 : gI w8 = gI w5 := by rw [hw8]; rfl
      have z8 : gZ w8 = gZ w4 := by rw [hw8, hw5]; rfl
      obtain ⟨w9, s1, s2, s3, s4, s5, s6, ⟨s7, s8, s9, s10⟩, s11⟩ := b_begin (b := b) (w := w8) (by rw [z8]; omega)
      have i9 : ∀ c k i, ¬ (55 ≤ c ∧ c ≤ 62) → ¬ (c = 32 ∧ k = 0 ∧ i = 2) → gI w9 c k i = gI w4 c k i := fun c k i q1 q2 => by rw [s2 c k i q1, i8, i5 c k i q2]
      have i91 : ∀ c k i, ¬ (55 ≤ c ∧ c ≤ 62) → c ≠ 32 → ¬ (34 ≤ c ∧ c ≤ 38) → ¬ (44 ≤ c ∧ c ≤ 54) → gI w9 c k i = gI w1 c k i := fun c k i q1 q2 q3 q4 => by
        rw [i9 c k i q1 (by omega), b2.1 c k i (by omega) q3 (by omega), iA c k i (by omega)]
      have r91 : ∀ c k i, ¬ (55 ≤ c ∧ c ≤ 62) → c ≠ 32 → ¬ (44 ≤ c ∧ c ≤ 54) → gR w9 c k i = gR w1 c k i := fun c k i q1 q2 q4 => by
        rw [s4 c k i q1, hw8, gR_pR, if_neg (by omega), gR_2 e5, b2.2.1 c k i (by omega) (by omega), gR_2 eA]
      have r11 : gR w9 32 0 11 = p + 1 := by rw [s4 _ _ _ (by omega), hw8, gR_pR, if_pos ⟨rfl, rfl, rfl⟩]
      have gS8 : gS w8 = gS w4 := by
        rw [hw8]
        show gS w5 = gS w4
        exact gS_2 e5
      have gS9 : ∀ x, x < p + 11 → gS w9 x = gS w4 x := fun x hx => by rw [s5 x (by rw [z8]; omega), gS8]
      have gS9w : ∀ x, x < p → gS w9 x = gS w x := fun x hx => by
        rw [gS9 x (by omega), b2.2.2.2.1 x (by rw [ezA]; omega), gS_2 eA]
        show w1.2.2.2.1 x = _
        rw [sa]; rfl
      have sh9 : ∀ c, 44 ≤ c → c ≤ 54 → shD w9 c p = true := fun c q1 q2 => by
        have := c8.2 c q1 q2
        unfold shD at this ⊢
        rw [gS9 _ (by
          have hc : c = 44 ∨ c = 45 ∨ c = 46 ∨ c = 47 ∨ c = 48 ∨ c = 49 ∨ c = 50 ∨ c = 51 ∨ c = 52 ∨ c = 53 ∨ c = 54 := by omega
          rcases hc with rfl | rfl | rfl | rfl | rfl | rfl | rfl | rfl | rfl | rfl | rfl <;> simp only [adr] <;> omega)]
        exact this
      -- hushes and patiences
      have num : ∀ u, u < a → (rol (tkT T) u = 1 ∨ rol (tkT T) u = 2) → 1 ≤ (nva T (stT T) (lnT T) (u + 2)).toInt ∧ (nva T (stT T) (lnT T) (u + 2)).toInt ≤ 9 := fun u hu hr => by
        obtain ⟨h3, hu1⟩ := rol_nm (tk := tkT T) (u := u) (by omega) (by omega) (by omega)
        have hrn := rolN h3 hu1
        have hBu : ∀ v, v ≤ u → BS (tkT T) v := fun v hv => n4 v (Nat.zero_le _) (by omega)
        have h79 : tkT T (u - 1) = 7 ∨ tkT T (u - 1) = 9 := by
          by_cases q7 : tkT T (u - 1) = 7
          · exact Or.inl q7
          · rw [if_neg q7] at hrn
            by_cases q9 : tkT T (u - 1) = 9
            · exact Or.inr q9
            · rw [if_neg q9] at hrn
              split at hrn
              · omega
              · split at hrn
                · omega
                · split at hrn
                  · omega
                  · split at hrn
                    · split at hrn <;> omega
                    · omega
        obtain ⟨x1, x2⟩ := new_no hK hBu (by omega) h3 h79
        have h8 : tkT T (u + 1) = 8 ∨ tkT T (u + 1) = 10 := by
          have hb' := hBu (u - 1) (by omega)
          rcases h79 with q | q
          · have := (hb'.2.1 q).2.1
            rw [show u - 1 + 2 = u + 1 by omega] at this; exact Or.inl this
          · have := (hb'.2.2.1 q).2.1
            rw [show u - 1 + 2 = u + 1 by omega] at this; exact Or.inr this
        have r9 : rol (tkT T) (u + 2) = 9 := by rw [rol4 x2, if_neg (by omega), show u + 2 - 1 = u + 1 by omega, if_pos h8]
        have hlt : u + 2 < a := by
          by_cases q : u + 2 = a
          · rw [q] at x2; omega
          · omega
        have hz0 := h0 (u + 2) (by omega)
        unfold ec at hz0
        rw [if_neg (by omega), if_neg (by omega), if_neg (by omega), if_neg (by omega), if_neg (by omega), if_pos r9] at hz0
        by_cases qv : 1 ≤ nV 0 (nm T (stT T) (lnT T) (u + 2)) ∧ nV 0 (nm T (stT T) (lnT T) (u + 2)) ≤ 9
        · exact nI_19 qv.1 qv.2
        · rw [if_neg qv] at hz0; cases hz0
      have at1 : ∀ h, h < (cN (tkT T) 1 a).length → ∃ u, (cN (tkT T) 1 a)[h]? = some u ∧ u < a ∧ rol (tkT T) u = 1 := fun h hh => by
        have e := List.getElem?_eq_getElem hh
        have := cN_2 e
        exact ⟨_, e, this.2⟩
      have at2 : ∀ h, h < (cN (tkT T) 2 a).length → ∃ u, (cN (tkT T) 2 a)[h]? = some u ∧ u < a ∧ rol (tkT T) u = 2 := fun h hh => by
        have e := List.getElem?_eq_getElem hh
        have := cN_2 e
        exact ⟨_, e, this.2⟩
      -- the orders
      have hlen := cO_os os 0 (Nat.zero_le _) n5
      have hlen : os.length = cO (tkT T) a := by rw [hlen]; show _ = 0 + _; omega
      have mAlt : ∀ j, mA T (tkT T) (stT T) (lnT T) j < 16 ∨ a ≤ j := fun j => by
        by_cases q : a ≤ j
        · exact Or.inr q
        · left
          obtain ⟨d, hd⟩ : ∃ d, a = j + d := ⟨a - j, by omega⟩
          have l1 := cN_le (tk := tkT T) (r := 1) (u := j) d
          have l2 := cN_le (tk := tkT T) (r := 2) (u := j) d
          rw [← hd] at l1 l2
          rcases li_r (T := T) (tk := tkT T) (st := stT T) (ln := lnT T) (j := j) (by omega) (by omega) with ⟨i, _, x2, _, x4⟩ | ⟨_, i, _, x2, _, x4⟩ | ⟨x1, x2, _⟩
          · omega
          · omega
          · unfold mA; rw [x1, x2]; decide
      obtain ⟨ods, o1, o2, o3, o4⟩ := all_ods (N := (TKs T).length) (E := a) (p := p) (nv := nva T (stT T) (lnT T)) (m8 := m8) (m38 := m38) (mf := mA T (tkT T) (stT T) (lnT T)) (w := w4) p5 p2 hE ⟨g7, g8⟩ (fun j hj h3 => mv_ok (fun u hu => h0 u (by omega)) hj (fun h4 => g15 j (by omega) h3 h4) (fun h4 => c11 j (by omega) h3 h4)) (fun j hj h4 => g16 j (by omega) h4) (fun j hj h3 h4 => ⟨g15 j (by omega) h3 h4, by have := mAlt j; omega⟩) (fun b hb hob => by
        obtain ⟨x1, x2, x3⟩ := c7 b hb hob
        refine ⟨x1, fun y1 y2 => ?_, fun y1 y2 y3 y4 => ?_⟩
        · rw [x2 y1 y2, mB_n]
          rw [rol_o1 hob y2]; split <;> omega
        · rw [x3 y1 y2 y3 y4, mB_n]
          rw [rol_o3 y3 y4]; omega) os 0 0 0 n5 c9 c12 rfl (by omega) (by omega)
      have hRA : RA 0 (cN (tkT T) 1 a).length (cN (tkT T) 2 a).length (S0 (gI w0 26 z) (gI w0 27 z)) w9 := ra_cg g6 g7 g8 (fun c k i q => i91 _ _ _ (by omega) (by omega) (by omega) (by omega))
      have hRB : RB 0 (cN (tkT T) 1 a).length (cN (tkT T) 2 a).length (S0 (gI w0 26 z) (gI w0 27 z)) w9 := by
        have ep : gR w9 32 0 11 - 1 = p := by rw [r11, Nat.add_sub_cancel]
        refine ⟨⟨by rw [r11]; exact vok44, by rw [ep]; exact sh9 44 (by omega) (by omega), by rw [ep]; exact sh9 45 (by omega) (by omega), by rw [ep]; exact sh9 46 (by omega) (by omega), by rw [ep, i9 _ _ _ (by omega) (by omega)]; exact c1, by rw [ep, i9 _ _ _ (by omega) (by omega)]; exact c2, fun h hh => ?_, fun h hh => ?_⟩, ⟨s7, s8, s9, s10⟩, fun h hh => ⟨s11 _ _ (by omega) (by omega) (by omega), s11 _ _ (by omega) (by omega) (by omega), s11 _ _ (by omega) (by omega) (by omega), fun q x hx => by simp [sr_S0] at hx⟩, fun h hh => ⟨s11 _ _ (by omega) (by omega) (by omega), s11 _ _ (by omega) (by omega) (by omega), s11 _ _ (by omega) (by omega) (by omega)⟩⟩
        · obtain ⟨u, y1, y2, y3⟩ := at1 h hh
          rw [ep, i9 _ _ _ (by omega) (by omega), c5 h u y1, sg_S0, if_pos rfl, g10 h u y1]
        · obtain ⟨u, y1, y2, y3⟩ := at2 h hh
          rw [ep, i9 _ _ _ (by omega) (by omega), c6 h u y1, sg_S0, if_neg (by decide), if_pos rfl, g11 h u y1]
      have hOK : OK (376320 * ((t + 1 : Nat) : Int)) (cN (tkT T) 1 a).length (cN (tkT T) 2 a).length (S0 (gI w0 26 z) (gI w0 27 z)) := ok_S0 (by omega) g7 g8 (fun h hh => by
        obtain ⟨u, y1, y2, y3⟩ := at1 h hh
        rw [g10 h u y1]; exact num u y2 (Or.inl y3)) (fun h hh => by
        obtain ⟨u, y1, y2, y3⟩ := at2 h hh
        rw [g11 h u y1]; exact num u y2 (Or.inr y3))
      have r17 : gR w9 1 0 7 = z + 1 ∧ gR w9 1 0 8 = gR w 1 0 7 := by
        rw [r91 _ _ _ (by omega) (by omega) (by omega), r91 _ _ _ (by omega) (by omega) (by omega), gR_2 g5.2, g4, gR_pR, if_pos ⟨rfl, rfl, rfl⟩, gR_pR, if_neg (by omega), gR_pR, if_pos ⟨rfl, rfl, rfl⟩]
        exact ⟨rfl, rfl⟩
      have hz9 : p + 11 ≤ gZ w9 := by rw [z8] at s6; omega
      have i90 : ∀ c k i, 25 ≤ c → c ≤ 30 → gI w9 c k i = gI w0 c k i := fun c k i q1 q2 => by
        rw [i91 _ _ _ (by omega) (by omega) (by omega) (by omega), g5.1 _ _ _ (by unfold ownA; omega), g4]; rfl
      have r90 : ∀ c k i, 25 ≤ c → c ≤ 30 → gR w9 c k i = gR w0 c k i := fun c k i q1 q2 => by
        rw [r91 _ _ _ (by omega) (by omega) (by omega), gR_2 g5.2, g4, gR_pR, if_neg (by omega), gR_pR, if_neg (by omega)]
      have hPL : PL (cN (tkT T) 1 a).length (cN (tkT T) 2 a).length w9 := by
        refine ⟨ods, ⟨by rw [r17.1]; exact vok25 hz, ?_, ?_, ?_⟩, ⟨fun c q1 q2 => ?_, ?_, by omega, fun j od hj => ?_⟩, o3⟩
        · rw [r17.1, Nat.add_sub_cancel, i90 _ _ _ (by omega) (by omega), o2, List.length_map]; exact g12
        · rw [o2, List.length_map]; exact g13
        · rw [r17.1, Nat.add_sub_cancel, o2]
          intro j k x y hx
          obtain ⟨y1, y2, y3⟩ := g14 j k x y hx
          rw [i90 _ _ _ (by omega) (by omega), i90 _ _ _ (by omega) (by omega), r90 _ _ _ (by omega) (by omega)]
          exact ⟨y1, y2, y3⟩
        · rw [r11, Nat.add_sub_cancel]; exact sh9 c q1 q2
        · rw [r11, Nat.add_sub_cancel, i9 _ _ _ (by omega) (by omega), c3, o1, hlen]
        · rw [r11, Nat.add_sub_cancel]
          have := o4 j od hj
          rw [Nat.zero_add] at this
          obtain ⟨y1, y2, y3, x, y, v, y4, y5, y6, y7, y8, y9, y10, y11⟩ := this
          have q : ∀ c i, 44 ≤ c → c ≤ 54 → gI w9 c p i = gI w4 c p i := fun c i q1 q2 => i9 _ _ _ (by omega) (by omega)
          exact ⟨by rw [q _ _ (by omega) (by omega)]; exact y1, fun h => by rw [q _ _ (by omega) (by omega)]; exact y2 h, by rw [q _ _ (by omega) (by omega)]; exact y3, x, y, v, by rw [q _ _ (by omega) (by omega)]; exact y4, by rw [q _ _ (by omega) (by omega)]; exact y5, by rw [q _ _ (by omega) (by omega)]; exact y6, fun h => ⟨(y7 h).1, fun j v hv => by rw [q _ _ (by omega) (by omega)]; exact (y7 h).2 j v hv⟩, y8, y9, y10, fun j v hv => by rw [q _ _ (by omega) (by omega)]; exact y11 j v hv⟩
      refine ⟨0, w1, w9, a1, run _ (brT (by decide) ?_), _, _, _, hRA, hRB, hOK, ht, ⟨fun c k q => ?_, by omega, by rw [r11]; omega⟩, hPL, ?_, ⟨[], ?_, ?_, by simp, fun j x q => by simp at q⟩, ?_, by rw [r11]; omega⟩
      · have r12 : gR w5 32 0 12 = p + 1 := by rw [gR_2 e5]; exact b3
        rw [r12]
        refine gdT vok44 (sqT (sqT ?_))
        rw [Nat.add_sub_cancel, ← hw8]
        exact bd0T s1 rfl
      · have := adr_lt (b := b) q
        rw [gS9w _ (by omega)]; exact hb.1 c k q
      · rw [i91 _ _ _ (by omega) (by omega) (by omega) (by omega), g2, i9 _ _ _ (by omega) (by omega), k2, hwA, gI_pI, if_pos ⟨rfl, rfl, rfl⟩]
      · show gI w9 2 0 1 = 0
        rw [i91 _ _ _ (by omega) (by omega) (by omega) (by omega)]; exact a2
      · show gI w9 32 0 2 = 0
        rw [s2 _ _ _ (by omega), i8, hw5, gI_pI, if_pos ⟨rfl, rfl, rfl⟩]
      · unfold SPl
        rw [r17.1, r17.2]
        omega
