-- THE PURE PART: the reference reads the book
theorem mseg_fo {p i m q k : Nat} {a : List Int32} {w w' : Mm} (h : MSEG p i a w) (u : FO p m q k w w') (hm : i + a.length ≤ m) : MSEG p i a w' := fun j v e => by
  have hj := (List.getElem?_eq_some_iff.mp e).1
  rw [u.1 _ _ _ (by omega) (by omega) (by omega) (by omega) (by omega) (by omega)]; exact h j v e
theorem oseg_fo {p i m q k : Nat} {a : List Nat} {w w' : Mm} (h : OSEG p i a w) (u : FO p m q k w w') (hm : i + a.length ≤ q) : OSEG p i a w' := fun j v e => by
  have hj := (List.getElem?_eq_some_iff.mp e).1
  rw [u.1 _ _ _ (by omega) (by omega) (by omega) (by omega) (by omega) (by omega)]; exact h j v e
theorem zLineO_z {tk : Nat → Nat} {a a1 : Nat} {o : Option Oo} (e : zLineO tk a = .inr (a1, o)) : ∃ o', zLine tk a = .inr (a1, o') := by
  unfold zLineO at e
  by_cases h : tk a = 11 ∨ tk a = 12 ∨ tk a = 14
  · rw [if_pos h] at e
    have e1 : zLine tk a = oRz tk a (bnO tk (zOr1 tk a)) := by
      unfold zLine
      rw [if_neg (by omega), if_neg (by omega), if_pos h, zOrd_O]
    rw [e1]
    match bnO tk (zOr1 tk a), e with
    | .inl b, e => cases e
    | .inr (b, o2), e => cases e; exact ⟨_, rfl⟩
  · rw [if_neg h] at e
    match zLine tk a, e with
    | .inl b, e => cases e
    | .inr (b, o2), e => cases e; exact ⟨_, rfl⟩
section RPARSE
variable {T : List Nat} {tk st ln : Nat → Nat} {N p : Nat}
theorem rbo_mono {m q k e : Nat} {w w1 : Mm} {res : Bkz} {out : Nat × Mm} (u : FO p m q k w w1) (h : RBo T tk st ln N p m q k e w1 res out) : RBo T tk st ln N p m q k e w res out := by
  match res, h with
  | .inl b, h => exact ⟨h.1, h.2.1, fo_tr (Nat.le_refl _) (Nat.le_refl _) (Nat.le_refl _) u h.2.2⟩
  | .inr (a, os), h =>
    obtain ⟨h1, h2, h3, h4, h5, h6, h7, h8⟩ := h
    exact ⟨h1, h2, h3, h4, h5, h6, fo_tr (Nat.le_refl _) (Nat.le_refl _) (Nat.le_refl _) u h7, h8⟩
theorem rbo_cons {a m q k e m1 q1 : Nat} {o : Oo} {w w1 : Mm} {res : Bkz} {out : Nat × Mm} (h : RBo T tk st ln N p m1 q1 (k + 1) e w1 res out) (em : m1 = m + (mcs (nva T st ln) (vO o)).length) (eq : q1 = q + (opn (nva T st ln) m (vO o)).length) (hM : MSEG p m (mcs (nva T st ln) (vO o)) w1) (hO : OSEG p q (opn (nva T st ln) m (vO o)) w1) (u : FO p m q k w w1) (hr : k < 16 → gI w1 50 p k = nI m ∧ gI w1 51 p k = nI (m + (mcs (nva T st ln) o.1).length) ∧ gI w1 52 p k = nI (m + (mcs (nva T st ln) (vO o)).length)) : RBo T tk st ln N p m q k e w (addO a (some o) res) out := by
  match res, h with
  | .inl b, h => exact ⟨h.1, h.2.1, fo_tr (by omega) (by omega) (Nat.le_succ _) u h.2.2⟩
  | .inr (a2, os), h =>
    obtain ⟨h1, h2, h3, h4, h5, h6, h7, h8, h9⟩ := h
    have ev : vOs ((a, o) :: os) = vO o ++ vOs os := by unfold vOs; rw [List.flatMap_cons]
    have eL : m + (mcs (nva T st ln) (vO o ++ vOs os)).length = m1 + (mcs (nva T st ln) (vOs os)).length := by rw [mcs_app, List.length_append, em, Nat.add_assoc]
    have eO : opn (nva T st ln) m (vO o ++ vOs os) = opn (nva T st ln) m (vO o) ++ opn (nva T st ln) m1 (vOs os) := by rw [opn_app, em]
    have eQ : q + (opn (nva T st ln) m (vO o ++ vOs os)).length = q1 + (opn (nva T st ln) m1 (vOs os)).length := by rw [eO, List.length_append, eq, Nat.add_assoc]
    show RBo T tk st ln N p m q k e w (.inr (a2, (a, o) :: os)) out
    refine ⟨h1, ?_, ?_, ?_, ?_, ?_, fo_tr (by omega) (by omega) (Nat.le_succ _) u h7, ⟨fun hk => ?_, ?_⟩, h9⟩
    · rw [ev, eL, eQ]; exact h2
    · rw [ev, mcs_app]
      exact mseg_app (mseg_fo hM h7 (by omega)) (by rw [← em]; exact h3)
    · rw [ev, eO]
      exact oseg_app (oseg_fo hO h7 (by omega)) (by rw [← eq]; exact h4)
    · rw [ev, eL]; exact h5
    · rw [ev, eQ]; exact h6
    · obtain ⟨r1, r2, r3⟩ := hr hk
      refine ⟨?_, ?_, ?_⟩
      · rw [h7.1 _ _ _ (by omega) (by omega) (by omega) (by omega) (by omega) (by omega)]; exact r1
      · rw [h7.1 _ _ _ (by omega) (by omega) (by omega) (by omega) (by omega) (by omega)]; exact r2
      · rw [h7.1 _ _ _ (by omega) (by omega) (by omega) (by omega) (by omega) (by omega)]; exact r3
    · rw [← em]; exact h8
theorem b_bookL (hN : ∀ j, j + 1 ≤ N → (tk j = 1 ∨ tk j = 2) ∨ j + 2 ≤ N) (hk : ∀ j, j < N → KK (tk j)) {e : Nat} : ∀ n a m q k f w, MSt T tk st ln N p a 0 m q w → m + e ≤ 2 * a → q ≤ a → k ≤ a → gI w 44 p 5 = nI k → N ≤ a + n → n + 1 ≤ f → ∃ out, f_X15_isBook_L0 f w = some out ∧ RBo T tk st ln N p m q k e w (zBookO tk n a) out
  | 0, a, m, q, k, f, w => fun hS hm hq hka h5 hn hf => by have := hS.2.2.2.2.2.2.1; omega
  | n + 1, a, m, q, k, f, w => fun hS hm hq hka h5 hn hf => by
    have h4 := hS.2.2.2.2.2.1
    have ha := hS.2.2.2.2.2.2.1
    obtain ⟨f', rfl⟩ : ∃ f', f = f' + 1 := ⟨f - 1, by omega⟩
    rw [f_X15_isBook_L0, zBookO]
    have hi := b_is hS hk 1 900 (by decide) (by decide)
    by_cases q1 : tk a = 1
    · rw [if_pos q1] at hi ⊢
      refine ⟨(1, w), bd1T hi (brF (by decide) rfl), rfl, ?_, fun j v x => by simp [mcs, vOs] at x, fun j v x => by simp [opn, vOs] at x, ?_, ?_, fo_fm fm_rf, trivial, q1⟩
      · simpa [mcs, opn, vOs] using hS
      · simpa [mcs, vOs] using hm
      · simpa [opn, vOs] using hq
    · rw [if_neg q1] at hi ⊢
      obtain ⟨⟨r, w1⟩, e1, e2⟩ := b_line (e := e) hN hk hS hm hq h5 (by omega)
      have hz : ∀ a1 o, zLineO tk a = .inr (a1, o) → a ≤ a1 := fun a1 o ee => by
        obtain ⟨o', e'⟩ := zLineO_z ee
        have hg := gl_line hN h4 ha
        rw [e'] at hg
        exact hg.2.2
      match zLineO tk a, e2, hz with
      | .inl b, e2, _ =>
        obtain ⟨g1, g2, g3⟩ := e2
        simp only at g1 g2 g3
        subst g1
        exact ⟨(0, w1), bd1T hi (brT rfl (bd1T e1 (brT rfl rfl))), rfl, g2, g3⟩
      | .inr (a1, some (o1, o2)), e2, hz =>
        obtain ⟨g1, g2, g3, g4, g5, g6, g7, g8, g9⟩ := e2
        simp only at g1 g2 g3 g4 g5 g6 g7 g8 g9
        have hle := hz _ _ rfl
        subst g1
        simp only
        have h1 := g2.2.2.2.2.2.2.1
        by_cases q34 : tk a1 = 34
        · rw [if_pos q34]
          have h2 : a1 + 2 ≤ N := by have := hN a1 h1; omega
          obtain ⟨w2, t1, t2, t3⟩ := b_eST g2 hk 34 59 (by decide) (by decide) q34 h2 (rol_0 (by omega))
          obtain ⟨out, k1, k2⟩ := b_bookL (e := e) hN hk n (a1 + 1) _ _ (k + 1) f' w2 t2 (by omega) (by omega) (by omega) (by rw [t3.1 _ _ _ (by omega) (by omega) (by omega) (by omega) (by omega)]; exact g8) (by omega) (by omega)
          refine ⟨out, bd1T hi (brT rfl (bd1T e1 (brF (by decide) (bd1T t1 (brF (by decide) k1))))), rbo_cons k2 rfl rfl (mseg_fm g3 t3 (Nat.le_refl _)) (oseg_fm g4 t3 (Nat.le_refl _)) (fo_tr (by omega) (by omega) (Nat.le_refl _) g7 (fo_fm t3)) fun hk' => ?_⟩
          obtain ⟨r1, r2, r3⟩ := g9 hk'
          refine ⟨?_, ?_, ?_⟩
          · rw [t3.1 _ _ _ (by omega) (by omega) (by omega) (by omega) (by omega)]; exact r1
          · rw [t3.1 _ _ _ (by omega) (by omega) (by omega) (by omega) (by omega)]; exact r2
          · rw [t3.1 _ _ _ (by omega) (by omega) (by omega) (by omega) (by omega)]; exact r3
        · rw [if_neg q34]
          exact ⟨(0, w1), bd1T hi (brT rfl (bd1T e1 (brF (by decide) (bd1T (b_eSF g2 hk 34 59 (by decide) (by decide) q34) (brT rfl rfl))))), rfl, g2.1.1, g7⟩
      | .inr (a1, none), e2, hz =>
        obtain ⟨g1, g2, g3, g4, g5⟩ := e2
        simp only at g1 g2 g3 g4 g5
        have hle := hz _ _ rfl
        subst g1
        simp only
        have h1 := g2.2.2.2.2.2.2.1
        by_cases q34 : tk a1 = 34
        · rw [if_pos q34]
          have h2 : a1 + 2 ≤ N := by have := hN a1 h1; omega
          obtain ⟨w2, t1, t2, t3⟩ := b_eST g2 hk 34 59 (by decide) (by decide) q34 h2 (rol_0 (by omega))
          have f2 := fm_tr (Nat.le_refl _) (Nat.le_refl _) g5 t3
          obtain ⟨out, k1, k2⟩ := b_bookL (e := e) hN hk n (a1 + 1) _ _ k f' w2 t2 (by omega) (by omega) (by omega) (by rw [f2.1 _ _ _ (by omega) (by omega) (by omega) (by omega) (by omega)]; exact h5) (by omega) (by omega)
          refine ⟨out, bd1T hi (brT rfl (bd1T e1 (brF (by decide) (bd1T t1 (brF (by decide) k1))))), ?_⟩
          have e3 : addO a none (zBookO tk n (a1 + 1)) = zBookO tk n (a1 + 1) := by
            unfold addO
            match zBookO tk n (a1 + 1) with
            | .inl b => rfl
            | .inr (a2, os) => rfl
          rw [e3]
          exact rbo_mono (fo_fm f2) k2
        · rw [if_neg q34]
          exact ⟨(0, w1), bd1T hi (brT rfl (bd1T e1 (brF (by decide) (bd1T (b_eSF g2 hk 34 59 (by decide) (by decide) q34) (brT rfl rfl))))), rfl, g2.1.1, fo_fm g5⟩
end RPARSE
