-- THE PURE PART: the class is taught
def tkT (T : List Nat) (j : Nat) : Nat := ((TKs T).getD j (1, 0, 0)).1
def stT (T : List Nat) (j : Nat) : Nat := ((TKs T).getD j (1, 0, 0)).2.1
def lnT (T : List Nat) (j : Nat) : Nat := ((TKs T).getD j (1, 0, 0)).2.2
theorem tk_get {T : List Nat} {j : Nat} (hj : j < (TKs T).length) : (TKs T)[j]? = some (tkT T j, stT T j, lnT T j) := by
  unfold tkT stT lnT
  rw [List.getD_eq_getElem?_getD, List.getElem?_eq_getElem hj]
  rfl
theorem tkf_T {T : List Nat} (hT : T.length ≤ 2000) : TKF T (tkT T) (stT T) (lnT T) (TKs T).length ∧ ∀ j, j < (TKs T).length → ((tkT T j = 1 ∨ tkT T j = 2) ↔ j + 1 = (TKs T).length) := by
  obtain ⟨h1, h2, h3⟩ := scn_r (T := T) 400 0 0 rfl (Nat.zero_le _)
  have h1 : (TKs T).length ≤ 401 := h1
  have h2 : 1 ≤ (TKs T).length := h2
  have key : ∀ j, j < (TKs T).length → tkR T (tkT T j) (stT T j) (lnT T j) ∧ ((tkT T j = 1 ∨ tkT T j = 2) ↔ j + 1 = (TKs T).length) := fun j hj => h3 j _ _ _ (tk_get hj)
  refine ⟨⟨h2, h1, hT, fun j hj => ⟨?_, (key j hj).1⟩, fun j hj => ?_⟩, fun j hj => (key j hj).2⟩
  · exact scn_KK 401 0 0 _ (List.mem_of_getElem? (tk_get hj))
  · by_cases q : j + 1 = (TKs T).length
    · exact Or.inl ((key j (by omega)).2.mpr q)
    · exact Or.inr (by omega)
theorem gl_book {tk : Nat → Nat} {N : Nat} (hN : ∀ j, j + 1 ≤ N → (tk j = 1 ∨ tk j = 2) ∨ j + 2 ≤ N) (h4 : N ≤ 401) : ∀ n a a' o, a + 1 ≤ N → zBook tk n a = .inr (a', o) → a + o.length ≤ a' ∧ a' + 1 ≤ N
  | 0, a, a', o, _, h => by cases h
  | n + 1, a, a', o, ha, h => by
    rw [zBook] at h
    by_cases q1 : tk a = 1
    · rw [if_pos q1] at h; cases h; exact ⟨by simp, ha⟩
    · rw [if_neg q1] at h
      have hg := gl_line hN h4 ha
      match zLine tk a, h, hg with
      | .inl b, h, _ => cases h
      | .inr (a1, o1), h, hg =>
        simp only [Gl] at hg
        simp only at h
        obtain ⟨t, h⟩ := tkz_ok h
        have h2 : a1 + 2 ≤ N := by have := hN a1 hg.1; omega
        match hb : zBook tk n (a1 + 1), h with
        | .inl b, h => cases h
        | .inr (a2, o2), h =>
          cases h
          obtain ⟨k1, k2⟩ := gl_book hN h4 n (a1 + 1) _ _ h2 hb
          rw [List.length_append]
          exact ⟨by omega, k2⟩
theorem gl_bookF {tk : Nat → Nat} {N : Nat} (hN : ∀ j, j + 1 ≤ N → (tk j = 1 ∨ tk j = 2) ∨ j + 2 ≤ N) (h4 : N ≤ 401) : ∀ n a e, a + 1 ≤ N → N ≤ a + n → zBook tk n a = .inl e → e < N
  | 0, a, e, h1, h2, h => by omega
  | n + 1, a, e, ha, h2, h => by
    rw [zBook] at h
    by_cases q1 : tk a = 1
    · rw [if_pos q1] at h; cases h
    · rw [if_neg q1] at h
      have hg := gl_line hN h4 ha
      match zLine tk a, h, hg with
      | .inl b, h, hg => cases h; exact hg.2
      | .inr (a1, o1), h, hg =>
        simp only [Gl] at hg
        simp only at h
        unfold tkz at h
        by_cases q : tk a1 = 34
        · rw [if_pos q] at h
          have h2' : a1 + 2 ≤ N := by have := hN a1 hg.1; omega
          match hb : zBook tk n (a1 + 1), h with
          | .inl b, h => cases h; exact gl_bookF hN h4 n (a1 + 1) _ h2' (by omega) hb
          | .inr (a2, o2), h => cases h
        · rw [if_neg q] at h; cases h; exact hg.1
/-- what teaching leaves alone in the class -/
def AF (z : Nat) (w w' : Mm) : Prop := (∀ c k i, ¬ (c = 1 ∧ k = 0 ∧ i = 10) → ¬ (2 ≤ c ∧ c ≤ 10) → c ≠ 31 → ¬ (25 ≤ c ∧ c ≤ 30 ∧ k = z) → gI w' c k i = gI w c k i) ∧ (∀ c k i, ¬ (c = 5 ∨ c = 31 ∨ (25 ≤ c ∧ c ≤ 30 ∧ k = z)) → gR w' c k i = gR w c k i) ∧ (∀ c k i, ¬ (c ≤ 10) → gL w' c k i = gL w c k i) ∧ w'.2.2.2 = w.2.2.2
theorem af_tr {z : Nat} {w w1 w2 : Mm} (h : AF z w w1) (g : AF z w1 w2) : AF z w w2 := ⟨fun c k i q1 q2 q3 q4 => (g.1 c k i q1 q2 q3 q4).trans (h.1 c k i q1 q2 q3 q4), fun c k i q => (g.2.1 c k i q).trans (h.2.1 c k i q), fun c k i q => (g.2.2.1 c k i q).trans (h.2.2.1 c k i q), g.2.2.2.trans h.2.2.2⟩
theorem af_scf {z i : Nat} {w w' : Mm} (h : SCF i w w') : AF z w w' := ⟨fun c k j q1 q2 q3 q4 => h.1 c k j (by omega) (by omega), fun c k j q => h.2.2.1 c k j (by omega), fun c k j q => h.2.1 c k j (by omega) (by omega), h.2.2.2⟩
theorem af_fc {z s : Nat} {w w' : Mm} (h : FC z s w w') : AF z w w' := ⟨fun c k j q1 q2 q3 q4 => h.1 c k j q3 (by omega) (by omega), fun c k j q => h.2.2.1 c k j (by omega) (by omega), fun c k j q => h.2.1 c k j, h.2.2.2⟩
theorem af_fk {z : Nat} {w w' : Mm} (h : FK z w w') : AF z w w' := ⟨fun c k j q1 q2 q3 q4 => h.1 c k j (by omega) (by omega) (by omega) (by omega), fun c k j q => by rw [gR_22 h.2.2], fun c k j q => h.2.1 c k j (by omega), by rw [h.2.2]⟩
theorem af_fl {z : Nat} {w w' : Mm} (h : FL z w w') : AF z w w' := ⟨fun c k j q1 q2 q3 q4 => h.1 c k j (by omega), fun c k j q => by rw [gR_2 h.2], fun c k j q => by rw [gL_2 h.2], by rw [h.2]⟩
theorem af_p {z c k i : Nat} {v : Int32} {w : Mm} (hc : (c = 1 ∧ k = 0 ∧ i = 10) ∨ (2 ≤ c ∧ c ≤ 10) ∨ (25 ≤ c ∧ c ≤ 30 ∧ k = z)) : AF z w (pI w c k i v) := ⟨fun c' k' i' q1 q2 q3 q4 => by rw [gI_pI, if_neg (by omega)], fun _ _ _ _ => rfl, fun _ _ _ _ => rfl, rfl⟩
/-- the steps of the book, linked, are the class's plan -/
def TA1 (T : List Nat) (z : Nat) (r : Int32) (w w1 : Mm) : Prop := gI w1 2 0 1 = 0 ∧ match zBookO (tkT T) (TKs T).length 0 with
  | .inl e => r = 1 ∧ gI w1 1 0 10 = nI (stT T e) ∧ AF z w w1
  | .inr (_, os) => match fE T (tkT T) (stT T) (lnT T) (TKs T).length with
    | some j => r = nI (ec T (tkT T) (stT T) (lnT T) j) ∧ gI w1 1 0 10 = nI (stT T j) ∧ AF z w w1
    | none => r = 0 ∧ gI w1 1 0 10 = -1 ∧ ∃ w0 w2 m8, AF z w w0 ∧ w2 = pR (pR w0 1 0 8 (gR w 1 0 7)) 1 0 7 (z + 1) ∧ UA 0 w2 w1 ∧ RA 0 (cN (tkT T) 1 (TKs T).length).length (cN (tkT T) 2 (TKs T).length).length (S0 (gI w0 26 z) (gI w0 27 z)) w1 ∧
      (cN (tkT T) 1 (TKs T).length).length ≤ 8 ∧ (cN (tkT T) 2 (TKs T).length).length ≤ 8 ∧ cO (tkT T) ((TKs T).length - 1) ≤ 16 ∧
      (∀ i u, (cN (tkT T) 1 (TKs T).length)[i]? = some u → gI w0 26 z i = nva T (stT T) (lnT T) (u + 2)) ∧ (∀ i u, (cN (tkT T) 2 (TKs T).length)[i]? = some u → gI w0 27 z i = nva T (stT T) (lnT T) (u + 2)) ∧
      gI w0 25 z 7 = nI (os.flatMap fun x => oS (tkT T) x.1 x.2).length ∧ (os.flatMap fun x => oS (tkT T) x.1 x.2).length ≤ 400 ∧ CSEG z 0 ((os.flatMap fun x => oS (tkT T) x.1 x.2).map (lnk m8)) w0 ∧
      (∀ u, u + 1 < (TKs T).length → tkT T u = 3 → 4 ≤ rol (tkT T) u → m8 u = nI (mA T (tkT T) (stT T) (lnT T) u)) ∧ (∀ u, u + 1 < (TKs T).length → tkT T u = 4 → m8 u = nva T (stT T) (lnT T) u)
theorem cN_E {tk : Nat → Nat} {r E : Nat} (hB : ∀ u, u < E → BS tk u) (h1 : tk E = 1) (hr : r = 1 ∨ r = 2) : cN tk r (E - 2) = cN tk r E ∧ cN tk r (E + 1) = cN tk r E := by
  have key : ∀ u, u < E → E ≤ u + 2 → rol tk u ≠ r := fun u q1 q2 e => by
    obtain ⟨h3, hu⟩ := rol_nm (tk := tk) (u := u) (by omega) (by omega) (by omega)
    rw [rolN h3 hu] at e
    have hb := hB (u - 1) (by omega)
    by_cases q7 : tk (u - 1) = 7
    · obtain ⟨k1, k2, k3⟩ := hb.2.1 q7
      rw [show u - 1 + 2 = u + 1 by omega] at k2
      rw [show u - 1 + 3 = u + 2 by omega] at k3
      by_cases q : E = u + 1
      · subst q; omega
      · have : E = u + 2 := by omega
        subst this; omega
    · rw [if_neg q7] at e
      by_cases q9 : tk (u - 1) = 9
      · obtain ⟨k1, k2, k3⟩ := hb.2.2.1 q9
        rw [show u - 1 + 2 = u + 1 by omega] at k2
        rw [show u - 1 + 3 = u + 2 by omega] at k3
        by_cases q : E = u + 1
        · subst q; omega
        · have : E = u + 2 := by omega
          subst this; omega
      · rw [if_neg q9] at e
        split at e
        · omega
        · split at e
          · omega
          · split at e
            · omega
            · split at e
              · split at e <;> omega
              · omega
  have hx : rol tk E = 0 := rolX (by omega) (by omega) (by unfold isO; omega)
  refine ⟨?_, cN_n (by omega)⟩
  by_cases q0 : E = 0
  · subst q0; rfl
  · by_cases q1 : E = 1
    · subst q1
      rw [show (1 : Nat) - 2 = 0 by omega, show (1 : Nat) = 0 + 1 from rfl, cN_n (key 0 (by omega) (by omega))]
    · obtain ⟨u, rfl⟩ : ∃ u, E = u + 1 + 1 := ⟨E - 2, by omega⟩
      rw [show u + 1 + 1 - 2 = u by omega, cN_n (key (u + 1) (by omega) (by omega)), cN_n (key u (by omega) (by omega))]
theorem a_teach {T : List Nat} {z : Nat} {w : Mm} (hC : TC T w) (hz : z < 2) (h8 : gR w 1 0 8 = z + 1) (h7 : vok 25 (gR w 1 0 7) = true) : ∃ r w1, f_X12_teach w = some (r, w1) ∧ TA1 T z r w w1 := by
  obtain ⟨hK, hend⟩ := tkf_T hC.2.1
  obtain ⟨p1, p2, p3, p4, p5⟩ := id hK
  obtain ⟨w1, a1, a2, a3, a4⟩ := a_scan' hC
  have k5 : ∀ j, j < (TKs T).length → gR w1 5 0 j = tkT T j ∧ gI w1 6 0 j = nI (stT T j) ∧ (tkT T j = 3 → gL w1 7 0 j = kyN T (stT T) (lnT T) j) ∧ (tkT T j = 4 → gI w1 8 0 j = nva T (stT T) (lnT T) j) := fun j hj => by
    have := a3 j _ _ _ (tk_get hj)
    rw [Nat.zero_add] at this
    exact this
  have hv25 : vok 25 (z + 1) = true := vok25 hz
  -- the spare plan is cleared
  obtain ⟨w5, hw5⟩ : ∃ w5, w5 = pI (pI (pI (pI w1 2 0 1 0) 25 z 2 0) 25 z 3 0) 25 z 7 0 := ⟨_, rfl⟩
  have f5 : AF z w w5 := by
    rw [hw5]
    exact af_tr (af_scf a2) (af_tr (af_p (by omega)) (af_tr (af_p (by omega)) (af_tr (af_p (by omega)) (af_p (by omega)))))
  have r8 : ∀ w', AF z w w' → gR w' 1 0 8 = z + 1 := fun w' h => by rw [h.2.1 _ _ _ (by omega)]; exact h8
  have e5 : ∀ c k i, ¬ (c = 2 ∨ c = 25) → gI w5 c k i = gI w1 c k i := fun c k i q => by
    rw [hw5, gI_pI, if_neg (by omega), gI_pI, if_neg (by omega), gI_pI, if_neg (by omega), gI_pI, if_neg (by omega)]
  have c2 : gI w5 2 0 1 = 0 := by rw [hw5, gI_pI, if_neg (by omega), gI_pI, if_neg (by omega), gI_pI, if_neg (by omega), gI_pI, if_pos ⟨rfl, rfl, rfl⟩]
  have c25 : gI w5 25 z 2 = 0 ∧ gI w5 25 z 3 = 0 ∧ gI w5 25 z 7 = 0 := by
    rw [hw5]
    refine ⟨?_, ?_, ?_⟩
    · rw [gI_pI, if_neg (by omega), gI_pI, if_neg (by omega), gI_pI, if_pos ⟨rfl, rfl, rfl⟩]
    · rw [gI_pI, if_neg (by omega), gI_pI, if_pos ⟨rfl, rfl, rfl⟩]
    · rw [gI_pI, if_pos ⟨rfl, rfl, rfl⟩]
  have run1 : ∀ X, bd1 (f_X7_readsInto z w5) (fun r8 w9 => br (r8 = 0) (bd1 (f_X11_start (gI w9 31 0 2) w9) (fun r22 w23 => sq (pI w23 1 0 10 r22) (fun w24 => some (1, w24)))) (gd (vok 25 (gR w9 1 0 8)) (sq (gR w9 1 0 8 - 1) (fun p11 => bd1 (f_X5_check p11 w9) (fun r12 w13 => br (r12 = 0) (sq (pI w13 1 0 10 (-1)) (fun w14 => gd (vok 25 (gR w14 1 0 8)) (sq (gR w14 1 0 8 - 1) (fun p16 => bd0 (f_X8_link p16 w14) (fun w17 => bd0 (f_X12_beginSparePlan w17) (fun w18 => some (0, w18))))))) (bd1 (f_X11_start (gI w13 9 0 2) w13) (fun r19 w20 => sq (pI w20 1 0 10 r19) (fun w21 => some (r12, w21))))))))) = X → f_X12_teach w = X := fun X hX => by
    unfold f_X12_teach
    refine bd0T a1 (sqT ?_)
    have r2 : gR (pI w1 2 0 1 0) 1 0 8 = z + 1 := by
      show gR w1 1 0 8 = _
      rw [(af_scf (z := z) a2).2.1 _ _ _ (by omega)]; exact h8
    rw [r2]
    refine gdT hv25 (sqT (bd0T (w := w5) ?_ ?_))
    · unfold f_X8_clear
      rw [Nat.add_sub_cancel, hw5]; rfl
    · rw [r8 w5 f5]
      refine gdT hv25 (sqT ?_)
      rw [Nat.add_sub_cancel]
      exact hX
  have ht5 : ∀ j, j < (TKs T).length → gR w5 5 0 j = tkT T j := fun j hj => by
    have : gR w5 = gR w1 := by rw [hw5]; rfl
    rw [this]; exact (k5 j hj).1
  obtain ⟨⟨r, w9⟩, b1, b2⟩ := c_reads p5 (fun j hj => ⟨(p4 j hj).1.1, (p4 j hj).1.2.1⟩) ⟨p1, p2⟩ hz ht5 c25.2.2
  have hpr : AF z w5 (pR w5 31 0 1 (z + 1)) := ⟨fun _ _ _ _ _ _ _ => rfl, fun c k i q => by rw [gR_pR, if_neg (by omega)], fun _ _ _ _ => rfl, rfl⟩
  -- where a token begins
  have start : ∀ w' e, AF z w w' → gI w' 4 0 4 = nI ((TKs T).length - 1) → gI w' 6 0 e = nI (stT T e) → e < (TKs T).length → f_X11_start (nI e) w' = some (nI (stT T e), w') := fun w' e _ h4 h6 he => by
    unfold f_X11_start
    refine bd1T (c_has h4 p2 he) (brF (by decide) (gdT ((vB_nI (by omega)).mpr (by omega)) ?_))
    rw [nI_clamp (by omega), h6]
  have hfc : ∀ w', FC z 0 (pR w5 31 0 1 (z + 1)) w' → (∀ c k i, c ≠ 31 → ¬ (25 ≤ c ∧ c ≤ 30 ∧ k = z) → gI w' c k i = gI w5 c k i) := fun w' h c k i q1 q2 => h.1 c k i q1 (by omega) (by omega)
  unfold TA1
  rw [zBook_O] at b2
  have hbs := fun a os e => bs_book (tk := tkT T) p5 p2 (TKs T).length 0 a os (by omega) e
  have hgl : ∀ a o, zBook (tkT T) (TKs T).length 0 = .inr (a, o) → o.length ≤ 400 := fun a o e => by
    have := gl_book p5 p2 _ 0 a o (by omega) e
    omega
  rw [zBook_O] at hgl
  have hfail : ∀ e, zBookO (tkT T) (TKs T).length 0 = .inl e → e < (TKs T).length := fun e he => by
    have hg := gl_bookF p5 p2 (TKs T).length 0 e (by omega) (by omega) (by rw [zBook_O, he]; rfl)
    exact hg
  match hbo : zBookO (tkT T) (TKs T).length 0, b2, hbs, hgl, hfail with
  | .inl e, b2, _, _, hfail =>
    obtain ⟨g1, g2, g3⟩ := b2
    simp only at g1 g2 g3
    subst g1
    have he := hfail e rfl
    have hAF : AF z w w9 := af_tr f5 (af_tr hpr (af_fc g3))
    have hst := start w9 e hAF (by rw [hfc w9 g3 _ _ _ (by omega) (by omega), e5 _ _ _ (by omega)]; exact a4) (by rw [hfc w9 g3 _ _ _ (by omega) (by omega), e5 _ _ _ (by omega)]; exact (k5 e he).2.1) he
    refine ⟨1, pI w9 1 0 10 (nI (stT T e)), run1 _ (bd1T b1 (brT rfl ?_)), ?_, rfl, ?_, af_tr hAF (af_p (by omega))⟩
    · rw [g2]; exact bd1T hst rfl
    · rw [gI_pI, if_neg (by omega), hfc w9 g3 _ _ _ (by omega) (by omega)]; exact c2
    · rw [gI_pI, if_pos ⟨rfl, rfl, rfl⟩]
  | .inr (a, os), b2, hbs, hgl, _ =>
    obtain ⟨g1, g2, g3, g4⟩ := b2
    simp only at g1 g2 g3 g4
    subst g1
    obtain ⟨_, n2, n3, n4, n5⟩ := hbs a os rfl
    have hgl := hgl _ _ rfl
    have hE : a + 1 = (TKs T).length := (hend a (by omega)).mp (Or.inl n3)
    have h1' : ∀ u, u < (TKs T).length → (tkT T u = 1 ↔ u + 1 = (TKs T).length) := fun u hu => by
      refine ⟨fun q => (hend u hu).mp (Or.inl q), fun q => ?_⟩
      have : u = a := by omega
      subst this; exact n3
    have hBS : ∀ u, u + 1 < (TKs T).length → BS (tkT T) u := fun u hu => n4 u (Nat.zero_le _) (by omega)
    have hAF : AF z w w9 := af_tr f5 (af_tr hpr (af_fc g4))
    have i9 := hfc w9 g4
    have hCI : CI T (tkT T) (stT T) (lnT T) (TKs T).length z 0 (pI w9 9 0 1 0) := by
      have gi : ∀ c k i, c ≠ 9 → c ≠ 31 → ¬ (c = 2 ∨ c = 25) → ¬ (25 ≤ c ∧ c ≤ 30 ∧ k = z) → gI (pI w9 9 0 1 0) c k i = gI w1 c k i := fun c k i q1 q2 q3 q4 => by
        rw [gI_pI, if_neg (by omega), i9 _ _ _ q2 q4, e5 _ _ _ q3]
      have gr : ∀ j, gR (pI w9 9 0 1 0) 5 0 j = gR w5 5 0 j := fun j => by
        show gR w9 5 0 j = _
        rw [g4.2.2.1 _ _ _ (by omega) (by omega), gR_pR, if_neg (by omega)]
      have gl : ∀ j, gL (pI w9 9 0 1 0) 7 0 j = gL w1 7 0 j := fun j => by
        show gL w9 7 0 j = _
        rw [g4.2.1]
        show gL w5 7 0 j = _
        rw [hw5]; rfl
      refine ⟨⟨fun u hu => by rw [gr, ht5 u hu], by rw [gi _ _ _ (by omega) (by omega) (by omega) (by omega)]; exact a4, fun u hu h3 => by rw [gl]; exact (k5 u hu).2.2.1 h3, fun u hu h3 => by rw [gi _ _ _ (by omega) (by omega) (by omega) (by omega)]; exact (k5 u hu).2.2.2 h3⟩, ⟨?_, ?_, Nat.zero_le 8, Nat.zero_le 8⟩, ⟨fun i u q => ?_, fun i u q => ?_⟩, ⟨fun i u q => ?_, fun i u q => ?_⟩, ⟨?_, Nat.zero_le 16⟩, fun u hu => by omega⟩
      · show gI (pI w9 9 0 1 0) 25 z 2 = 0
        rw [gI_pI, if_neg (by omega), g4.1 _ _ _ (by omega) (by omega) (by omega)]; exact c25.1
      · show gI (pI w9 9 0 1 0) 25 z 3 = 0
        rw [gI_pI, if_neg (by omega), g4.1 _ _ _ (by omega) (by omega) (by omega)]; exact c25.2.1
      · cases q
      · cases q
      · cases q
      · cases q
      · show gI (pI w9 9 0 1 0) 9 0 1 = 0
        rw [gI_pI, if_pos ⟨rfl, rfl, rfl⟩]
    obtain ⟨r12, w13, d1, d2, d3⟩ := c_check hK hBS h1' hCI
    have hAF13 : AF z w w13 := af_tr hAF (af_fk d2)
    have r9 := r8 w9 hAF
    have run2 : ∀ X, br (r12 = 0) (sq (pI w13 1 0 10 (-1)) (fun w14 => gd (vok 25 (gR w14 1 0 8)) (sq (gR w14 1 0 8 - 1) (fun p16 => bd0 (f_X8_link p16 w14) (fun w17 => bd0 (f_X12_beginSparePlan w17) (fun w18 => some (0, w18))))))) (bd1 (f_X11_start (gI w13 9 0 2) w13) (fun r19 w20 => sq (pI w20 1 0 10 r19) (fun w21 => some (r12, w21)))) = X → f_X12_teach w = X := fun X hX => by
      refine run1 _ (bd1T b1 (brF (by decide) ?_))
      rw [r9, Nat.add_sub_cancel]
      exact gdT hv25 (sqT (bd1T d1 hX))
    have i13 : ∀ c k i, c ≠ 9 → c ≠ 31 → c ≠ 8 → ¬ (25 ≤ c ∧ c ≤ 30 ∧ k = z) → gI w13 c k i = gI w5 c k i := fun c k i q1 q2 q3 q4 => by
      rw [d2.1 _ _ _ (by omega) (by omega) (by omega) (by omega), i9 _ _ _ q2 q4]
    have c213 : gI w13 2 0 1 = 0 := by rw [i13 _ _ _ (by omega) (by omega) (by omega) (by omega)]; exact c2
    simp only
    have hfe : ∀ j, fE T (tkT T) (stT T) (lnT T) (TKs T).length = some j → j < (TKs T).length ∧ ec T (tkT T) (stT T) (lnT T) j ≠ 0 := fun j hj => by
      obtain ⟨_, q2, q3⟩ := fnd_2 _ _ _ hj
      exact ⟨by omega, of_decide_eq_true q3⟩
    match fE T (tkT T) (stT T) (lnT T) (TKs T).length, d3, hfe with
    | some j, d3, hfe =>
      obtain ⟨q1, q2⟩ := d3
      obtain ⟨hj, hne⟩ := hfe j rfl
      have h5 := ec5 (T := T) (tk := tkT T) (st := stT T) (ln := lnT T) (j := j)
      have hst := start w13 j hAF13 (by rw [i13 _ _ _ (by omega) (by omega) (by omega) (by omega), e5 _ _ _ (by omega)]; exact a4) (by rw [i13 _ _ _ (by omega) (by omega) (by omega) (by omega), e5 _ _ _ (by omega)]; exact (k5 j hj).2.1) hj
      refine ⟨r12, pI w13 1 0 10 (nI (stT T j)), run2 _ (brF ?_ ?_), ?_, q1, ?_, af_tr hAF13 (af_p (by omega))⟩
      · rw [q1, show (0 : Int32) = nI 0 from rfl, nI_eq (by omega) (by omega)]; exact hne
      · rw [q2]; exact bd1T hst rfl
      · rw [gI_pI, if_neg (by omega)]; exact c213
      · rw [gI_pI, if_pos ⟨rfl, rfl, rfl⟩]
    | none, d3, _ =>
      obtain ⟨q1, q2⟩ := d3
      subst q1
      obtain ⟨⟨c5, c4, c7, c8⟩, ⟨x1, x2, x3, x4⟩, _, ⟨y1, y2⟩, ⟨z1, z2⟩, mm⟩ := q2
      have eE : (TKs T).length - 1 = a := by omega
      rw [eE] at x1 x2 x3 x4 y1 y2 z1 z2 mm
      obtain ⟨u1, u2⟩ := cN_E (tk := tkT T) (r := 1) (fun u hu => hBS u (by omega)) n3 (Or.inl rfl)
      obtain ⟨v1, v2⟩ := cN_E (tk := tkT T) (r := 2) (fun u hu => hBS u (by omega)) n3 (Or.inr rfl)
      rw [u1] at x1 y1
      rw [v1] at x2 y2
      rw [← hE, u2, v2]
      have hAF14 : AF z w (pI w13 1 0 10 (-1)) := af_tr hAF13 (af_p (by omega))
      have g14 : ∀ c k i, c ≠ 1 → gI (pI w13 1 0 10 (-1)) c k i = gI w13 c k i := fun c k i q => by rw [gI_pI, if_neg (by omega)]
      have hC14 : CSEG z 0 (os.flatMap fun x => oS (tkT T) x.1 x.2) (pI w13 1 0 10 (-1)) := fun j k x y e => by
        obtain ⟨s1, s2, s3⟩ := g3 j k x y e
        refine ⟨?_, ?_, ?_⟩
        · show gR w13 28 z (0 + j) = k
          rw [gR_22 d2.2.2]; exact s1
        · rw [g14 _ _ _ (by omega), d2.1 _ _ _ (by omega) (by omega) (by omega) (by omega)]; exact s2
        · rw [g14 _ _ _ (by omega), d2.1 _ _ _ (by omega) (by omega) (by omega) (by omega)]; exact s3
      have h714 : gI (pI w13 1 0 10 (-1)) 25 z 7 = nI (os.flatMap fun x => oS (tkT T) x.1 x.2).length := by
        rw [g14 _ _ _ (by omega), d2.1 _ _ _ (by omega) (by omega) (by omega) (by omega)]; exact g2
      obtain ⟨w17, l1, l2, l3⟩ := c_link (N := (TKs T).length) ⟨p1, p2⟩ (by rw [g14 _ _ _ (by omega)]; exact c4) h714 hgl hC14
      have hAF17 : AF z w w17 := af_tr hAF14 (af_fl l2)
      have i17 : ∀ c k i, c ≠ 1 → ¬ ((c = 29 ∨ c = 30) ∧ k = z) → gI w17 c k i = gI w13 c k i := fun c k i q1 q2 => by rw [l2.1 _ _ _ q2, g14 _ _ _ q1]
      obtain ⟨w18, hw18⟩ : ∃ w18, w18 = pR (pR w17 1 0 8 (gR w 1 0 7)) 1 0 7 (z + 1) := ⟨_, rfl⟩
      have i18 : gI w18 = gI w17 := by rw [hw18]; rfl
      obtain ⟨w19, s1, s2, s3⟩ := a_begin (z := z) (w := w18) x3 x4 (by rw [i18, i17 _ _ _ (by omega) (by omega)]; exact x1) (by rw [i18, i17 _ _ _ (by omega) (by omega)]; exact x2)
      rw [i18] at s3
      refine ⟨0, w19, run2 _ (brT rfl (sqT ?_)), ?_, rfl, ?_, w17, w18, m8w (TKs T).length (pI w13 1 0 10 (-1)), hAF17, hw18, s2, s3, x3, x4, by rw [hE, eE]; exact z2, fun i u q => ?_, fun i u q => ?_, ?_, hgl, l3, fun u hu h3 h4 => ?_, fun u hu h4 => ?_⟩
      · rw [r8 _ hAF14]
        refine gdT hv25 (sqT ?_)
        rw [Nat.add_sub_cancel]
        refine bd0T l1 (bd0T (w := w19) ?_ rfl)
        unfold f_X12_beginSparePlan
        rw [r8 _ hAF17]
        refine gdT hv25 (sqT ?_)
        have r7 : gR w17 1 0 7 = gR w 1 0 7 := hAF17.2.1 _ _ _ (by omega)
        rw [r7]
        refine gdT h7 (sqT ?_)
        have hv7 : gR w 1 0 7 - 1 + 1 = gR w 1 0 7 := (vok_pos h7).symm
        rw [hv7, Nat.add_sub_cancel]
        refine sqT (sqT ?_)
        rw [← hw18]
        exact bd0T s1 rfl
      · rw [s2.1 _ _ _ (by unfold ownA; omega), i18, i17 _ _ _ (by omega) (by omega)]; exact c213
      · rw [s2.1 _ _ _ (by unfold ownA; omega), i18, l2.1 _ _ _ (by omega), gI_pI, if_pos ⟨rfl, rfl, rfl⟩]
      · rw [i17 _ _ _ (by omega) (by omega)]; exact y1 i u q
      · rw [i17 _ _ _ (by omega) (by omega)]; exact y2 i u q
      · rw [l2.1 _ _ _ (by omega)]; exact h714
      · unfold m8w
        rw [if_pos (by omega), g14 _ _ _ (by omega)]
        exact mm u (by omega) h3 h4
      · unfold m8w
        rw [if_pos (by omega), g14 _ _ _ (by omega)]
        exact c8 u (by omega) h4
