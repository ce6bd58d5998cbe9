-- THE PURE PART: the reference's orders, from their first word on
section RPARSE
variable {T : List Nat} {tk st ln : Nat → Nat} {N p : Nat}
theorem ro_fl {m q k e a d m' q' : Nat} {w w1 : Mm} (h : MSt T tk st ln N p a d m' q' w1) (u : FO p m q k w w1) : RO T tk st ln N p m q k e w (.inl a) (0, w1) := ⟨rfl, h.1.1, u⟩
theorem ro_gd {m q k e : Nat} {w : Mm} {res : Oz} {out : Int32 × Mm} (h : RO T tk st ln N p m q k e w res out) : gd (decide (out.1 &&& 1 = out.1)) (some (out.1, out.2)) = some out := by
  have : out.1 = 0 ∨ out.1 = 1 := by
    match res, h with
    | .inl b, h => exact Or.inl h.1
    | .inr (a, o1, o2), h => exact Or.inr h.1
  obtain ⟨r, w'⟩ := out
  rcases this with h | h
  · simp only at h
    subst h
    show gd (decide ((0 : Int32) &&& 1 = 0)) (some ((0 : Int32), w')) = _
    exact gdT (by decide) rfl
  · simp only at h
    subst h
    show gd (decide ((1 : Int32) &&& 1 = 1)) (some ((1 : Int32), w')) = _
    exact gdT (by decide) rfl
/-- the sum or the names are read: the second place and the test -/
theorem b_ord1 (hN : ∀ j, j + 1 ≤ N → (tk j = 1 ∨ tk j = 2) ∨ j + 2 ≤ N) (hk : ∀ j, j < N → KK (tk j)) {a m q m1 q1 k e : Nat} {o1 : List Ps} {w w1 : Mm} (hS : MSt T tk st ln N p a 0 m1 q1 w1) (e1 : m1 = m + (mcs (nva T st ln) o1).length) (e2 : q1 = q + (opn (nva T st ln) m o1).length) (hM : MSEG p m (mcs (nva T st ln) o1) w1) (hO : OSEG p q (opn (nva T st ln) m o1) w1) (hm : m1 + e ≤ 2 * a) (hq : q1 ≤ a) (hF : FO p m q k w w1) (h5 : gI w1 44 p 5 = nI (k + 1)) (h50 : k < 16 → gI w1 50 p k = nI m) : ∃ out, puR 51 (nI (min k 16)) w1 (fun w4 => ordE (nI (min k 16)) w4) = some out ∧ RO T tk st ln N p m q k e w (bnO tk (.inr (a, o1))) out := by
  obtain ⟨s1, s2⟩ := m_rec (c := 51) (i := min k 16) (k := k) (v := nI m1) hS (Or.inl ⟨by omega, by omega, by omega⟩)
  obtain ⟨out, t1, t2⟩ := b_ord2 (e := e) (m := m) (q := q) (k := k) (o1 := o1) (w := w) hN hk s1 e1 e2 (mseg_p hM (by omega)) (oseg_p hO (by omega)) hm hq (fo_tr (by omega) (by omega) (Nat.le_refl _) hF s2) (by rw [gI_pI, if_neg (by omega)]; exact h5) (fun hk' => ⟨by rw [gI_pI, if_neg (by omega)]; exact h50 hk', by rw [gI_pI, if_pos ⟨rfl, rfl, by omega⟩]⟩)
  exact ⟨out, b_rec hS (by omega) (by omega) t1, t2⟩
theorem b_order (hN : ∀ j, j + 1 ≤ N → (tk j = 1 ∨ tk j = 2) ∨ j + 2 ≤ N) (hk : ∀ j, j < N → KK (tk j)) {a m q k e : Nat} {w : Mm} (hS : MSt T tk st ln N p a 0 m q w) (hm : m + e ≤ 2 * a) (hq : q ≤ a) (h3 : tk a = 11 ∨ tk a = 12 ∨ tk a = 14) (h5 : gI w 44 p 5 = nI k) (hk5 : k < 500) : ∃ out, f_X15_isOrder (mk (tk a)) w = some out ∧ RO T tk st ln N p m q k e w (bnO tk (zOr1 tk a)) out := by
  have haN := hS.2.2.2.2.2.2.1
  have hN4 := hS.2.2.2.2.2.1
  have h2 : a + 2 ≤ N := by have := hN a haN; omega
  have hr : rol tk a = 3 := by
    unfold rol
    rw [if_neg (by omega), if_neg (by omega), if_pos h3]
  obtain ⟨s1, s2⟩ := m_ordw hS h2 hr
  obtain ⟨w3, hw3⟩ : ∃ w3, w3 = pI (pI w 37 0 a 3) 32 0 9 ((gI (pI w 37 0 a 3) 32 0 9) + 1) := ⟨_, rfl⟩
  rw [← hw3] at s1 s2
  have g5 : gI w3 44 p 5 = nI k := by rw [s2.1 _ _ _ (by omega) (by omega) (by omega) (by omega) (by omega)]; exact h5
  obtain ⟨u1, u2⟩ := m_rec (c := 44) (i := 5) (k := k) (v := nI (k + 1)) s1 (Or.inr ⟨rfl, rfl⟩)
  obtain ⟨w4, hw4⟩ : ∃ w4, w4 = pI w3 44 p 5 (nI (k + 1)) := ⟨_, rfl⟩
  rw [← hw4] at u1 u2
  obtain ⟨v1, v2⟩ := m_rec (c := 50) (i := min k 16) (k := k) (v := nI m) u1 (Or.inl ⟨by omega, by omega, by omega⟩)
  obtain ⟨w5, hw5⟩ : ∃ w5, w5 = pI w4 50 p (min k 16) (nI m) := ⟨_, rfl⟩
  rw [← hw5] at v1 v2
  have f5 : FO p m q k w w5 := fo_tr (Nat.le_refl _) (Nat.le_refl _) (Nat.le_refl _) (fo_tr (Nat.le_refl _) (Nat.le_refl _) (Nat.le_refl _) (fo_fm s2) u2) v2
  have c5 : gI w5 44 p 5 = nI (k + 1) := by rw [hw5, gI_pI, if_neg (by omega), hw4, gI_pI, if_pos ⟨rfl, rfl, rfl⟩]
  have c50 : k < 16 → gI w5 50 p k = nI m := fun hk' => by rw [hw5, gI_pI, if_pos ⟨rfl, rfl, by omega⟩]
  have run : ∀ X, ordB (mk (tk a)) (nI (min k 16)) w5 = X → f_X15_isOrder (mk (tk a)) w = X := fun X hX => by
    have hx := s1.2.2.2.1
    rw [ord_eq, hS.1.1]
    refine gdT ((vB_nI (by omega)).mpr (by omega)) ?_
    rw [nI_clamp (by omega)]
    refine sqT (sqT ?_)
    rw [← hw3, hx.1]
    refine gdT vok44 (sqT (gdT ?_ ?_))
    · exact hx.2 44 (by omega) (by omega)
    · rw [Nat.add_sub_cancel, g5, jmin16 (by omega)]
      refine sqT (gdT vok44 (sqT (gdT ?_ (gdT ?_ (sqT ?_)))))
      · exact hx.2 44 (by omega) (by omega)
      · exact hx.2 44 (by omega) (by omega)
      · rw [g5, nI_1, ← hw4]
        refine b_rec u1 (by omega) (by omega) ?_
        rw [← hw5]; exact hX
  have fin : ∀ {a1 : Nat} {w1 : Mm} {o1 : List Ps} {m1 q1 : Nat}, MSt T tk st ln N p a1 0 m1 q1 w1 → m1 = m + (mcs (nva T st ln) o1).length → q1 = q + (opn (nva T st ln) m o1).length → MSEG p m (mcs (nva T st ln) o1) w1 → OSEG p q (opn (nva T st ln) m o1) w1 → m1 + e ≤ 2 * a1 → q1 ≤ a1 → FM p m q w5 w1 → ∃ out, puR 51 (nI (min k 16)) w1 (fun w4 => ordE (nI (min k 16)) w4) = some out ∧ RO T tk st ln N p m q k e w (bnO tk (.inr (a1, o1))) out := fun g1 g2 g3 g4 g5 g6 g7 g8 =>
    b_ord1 hN hk g1 g2 g3 g4 g5 g6 g7 (fo_tr (Nat.le_refl _) (Nat.le_refl _) (Nat.le_refl _) f5 (fo_fm g8)) (by rw [g8.1 _ _ _ (by omega) (by omega) (by omega) (by omega) (by omega)]; exact c5) (fun hk' => by rw [g8.1 _ _ _ (by omega) (by omega) (by omega) (by omega) (by omega)]; exact c50 hk')
  have hro5 : tk (a + 1) = 3 → rol tk (a + 1) = (if tk a = 14 then 5 else 4) := fun h => by
    unfold rol
    rw [if_pos h, if_neg (by omega), Nat.add_sub_cancel, if_neg (by omega), if_neg (by omega)]
    by_cases q : tk a = 14
    · rw [if_neg (by omega), if_pos (by omega), if_pos q]
    · rw [if_pos (by omega), if_neg q]
  obtain ⟨out, r1, r2⟩ : ∃ out, ordB (mk (tk a)) (nI (min k 16)) w5 = some out ∧ RO T tk st ln N p m q k e w (bnO tk (zOr1 tk a)) out := by
    unfold ordB zOr1
    by_cases q14 : tk a = 14
    · rw [if_pos q14, q14]
      have goal : ∃ out, bd1 (f_X15_eatAs 40 5 w5) (fun r w1 => br (r = 0) (some (0, w1)) (bd1 (f_X15_eat 8 w1) (fun r w2 => br (r = 0) (some (0, w2)) (bd1 (g_X15_isSum w2) (fun r w3 => br (r = 0) (some (0, w3)) (puR 51 (nI (min k 16)) w3 (fun w4 => ordE (nI (min k 16)) w4))))))) = some out ∧ RO T tk st ln N p m q k e w (bnO tk (tkz tk 3 (a + 1) (tkz tk 15 (a + 2) (zSum tk (a + 3))))) out := by
        refine rm_tkAs (Q := fun r out => RO T tk st ln N p m q k e w (bnO tk r) out) hN hk v1 (by decide : KK 3) (by decide) (by decide) (ro := 5) (fun h => by rw [hro5 h, if_pos q14]) (fun _ w' g u => ⟨rfl, g, fo_tr (Nat.le_refl _) (Nat.le_refl _) (Nat.le_refl _) f5 (fo_fm u)⟩) fun h3 w6 hS6 u6 => ?_
        refine rm_tk (Q := fun r out => RO T tk st ln N p m q k e w (bnO tk r) out) hN hk hS6 (by decide : KK 15) (by decide) (by omega) (fun h => rol_0 (by omega)) (fun _ => ro_fl hS6 (fo_tr (Nat.le_refl _) (Nat.le_refl _) (Nat.le_refl _) f5 (fo_fm u6))) fun hkk w7 hS7 u7 => ?_
        have u67 := fm_tr (Nat.le_refl _) (Nat.le_refl _) u6 u7
        have hkk' : tk (a + 2) = 15 := hkk
        obtain ⟨⟨r, w8⟩, y1, y2⟩ := b_sumZ (e := e) hN hk hS7 (by omega) (by omega) (show pvk tk (a + 1 + 1 + 1) from ⟨by omega, by rw [Nat.add_sub_cancel, hkk]; decide, by rw [Nat.add_sub_cancel, hkk]; decide⟩)
        have y2 : RM T tk st ln N p 0 m q e w7 (zSum tk (a + 3)) (r, w8) := y2
        match zSum tk (a + 3), y2 with
        | .inl b, y2 =>
          obtain ⟨g1, g2, g3⟩ := y2
          simp only at g1 g2 g3
          subst g1
          exact ⟨(0, w8), bd1T y1 (brT rfl rfl), rfl, g2, fo_tr (Nat.le_refl _) (Nat.le_refl _) (Nat.le_refl _) f5 (fo_fm (fm_tr (Nat.le_refl _) (Nat.le_refl _) u67 g3))⟩
        | .inr (a2, o2), y2 =>
          obtain ⟨g1, g2, g3, g4, g5, g6, g7⟩ := y2
          simp only at g1 g2 g3 g4 g5 g6 g7
          subst g1
          obtain ⟨out, z1, z2⟩ := fin g2 rfl rfl g3 g4 g5 g6 (fm_tr (Nat.le_refl _) (Nat.le_refl _) u67 g7)
          exact ⟨out, bd1T y1 (brF (by decide) z1), z2⟩
      obtain ⟨out, z1, z2⟩ := goal
      exact ⟨out, brT (by decide) z1, z2⟩
    · rw [if_neg q14]
      have goal : ∃ out, bd1 (f_X15_eatAs 40 4 w5) (fun r w1 => br (r = 0) (some (0, w1)) (bd1 (f_X15_eat 6 w1) (fun r w2 => br (r = 0) (some (0, w2)) (bd1 (f_X15_eatAs 40 5 w2) (fun r w3 => br (r = 0) (some (0, w3)) (puR 51 (nI (min k 16)) w3 (fun w4 => ordE (nI (min k 16)) w4))))))) = some out ∧ RO T tk st ln N p m q k e w (bnO tk (tkz tk 3 (a + 1) (tkz tk 13 (a + 2) (tkz tk 3 (a + 3) (.inr (a + 4, [])))))) out := by
        refine rm_tkAs (Q := fun r out => RO T tk st ln N p m q k e w (bnO tk r) out) hN hk v1 (by decide : KK 3) (by decide) (by decide) (ro := 4) (fun h => by rw [hro5 h, if_neg q14]) (fun _ w' g u => ⟨rfl, g, fo_tr (Nat.le_refl _) (Nat.le_refl _) (Nat.le_refl _) f5 (fo_fm u)⟩) fun h3 w6 hS6 u6 => ?_
        refine rm_tk (Q := fun r out => RO T tk st ln N p m q k e w (bnO tk r) out) hN hk hS6 (by decide : KK 13) (by decide) (by omega) (fun h => rol_0 (by omega)) (fun _ => ro_fl hS6 (fo_tr (Nat.le_refl _) (Nat.le_refl _) (Nat.le_refl _) f5 (fo_fm u6))) fun hkk w7 hS7 u7 => ?_
        have u67 := fm_tr (Nat.le_refl _) (Nat.le_refl _) u6 u7
        refine rm_tkAs (Q := fun r out => RO T tk st ln N p m q k e w (bnO tk r) out) hN hk hS7 (by decide : KK 3) (by decide) (by decide) (ro := 5) (fun h => ?_) (fun _ w' g u => ⟨rfl, g, fo_tr (Nat.le_refl _) (Nat.le_refl _) (Nat.le_refl _) f5 (fo_fm (fm_tr (Nat.le_refl _) (Nat.le_refl _) u67 u))⟩) fun h3' w8 hS8 u8 => ?_
        · have hkk' : tk (a + 1 + 1) = 13 := hkk
          have h' : tk (a + 1 + 1 + 1) = 3 := h
          show rol tk (a + 1 + 1 + 1) = 5
          unfold rol
          rw [if_pos h', if_neg (by omega), Nat.add_sub_cancel, if_neg (by omega), if_neg (by omega), if_neg (by omega), if_pos (by omega)]
        · exact fin hS8 (by simp [mcs]) (by simp [opn]) (fun j v x => by simp [mcs] at x) (fun j v x => by simp [opn] at x) (by omega) (by omega) (fm_tr (Nat.le_refl _) (Nat.le_refl _) u67 u8)
      obtain ⟨out, z1, z2⟩ := goal
      refine ⟨out, brF ?_ z1, z2⟩
      rcases h3 with h | h | h
      · rw [h]; decide
      · rw [h]; decide
      · exact (q14 h).elim
  exact ⟨out, run _ r1, r2⟩
end RPARSE
