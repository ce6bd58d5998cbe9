-- THE PURE PART: the shape of the book
def BS (tk : Nat → Nat) (j : Nat) : Prop := (tk j = 3 → 1 ≤ j ∧ (tk (j - 1) = 7 ∨ tk (j - 1) = 9 ∨ (11 ≤ tk (j - 1) ∧ tk (j - 1) ≤ 14) ∨ tk (j - 1) = 23 ∨ tk (j - 1) = 24)) ∧ (tk j = 7 → tk (j + 1) = 3 ∧ tk (j + 2) = 8 ∧ tk (j + 3) = 4) ∧ (tk j = 9 → tk (j + 1) = 3 ∧ tk (j + 2) = 10 ∧ tk (j + 3) = 4) ∧ (tk j = 8 → 2 ≤ j ∧ tk (j - 1) = 3 ∧ tk (j - 2) = 7) ∧ (tk j = 10 → 2 ≤ j ∧ tk (j - 1) = 3 ∧ tk (j - 2) = 9) ∧ (tk j = 13 → 2 ≤ j ∧ tk (j - 1) = 3 ∧ (tk (j - 2) = 11 ∨ tk (j - 2) = 12))
abbrev isO (k : Nat) : Prop := k = 11 ∨ k = 12 ∨ k = 14
/-- an order's line begins at a and ends at a' -/
def OSh (tk : Nat → Nat) (a a' : Nat) (o : Oo) : Prop := isO (tk a) ∧ tk (a + 1) = 3 ∧ ∃ a1, a + 4 ≤ a1 ∧ a1 ≤ a' ∧ (tk a = 14 → tk (a + 2) = 15 ∧ zSum tk (a + 3) = .inr (a1, o.1)) ∧ (tk a ≠ 14 → tk (a + 2) = 13 ∧ tk (a + 3) = 3 ∧ o.1 = [] ∧ a1 = a + 4) ∧ (o.2 = none ∨ ∃ o2, o.2 = some o2 ∧ a1 < a' ∧ zTst tk (a1 + 1) = .inr (a', o2))
/-- the orders of [a, a') begin where the list says -/
def OPs (tk : Nat → Nat) : Nat → Nat → List (Nat × Oo) → Prop
  | a, a', [] => ∀ j, a ≤ j → j < a' → ¬ isO (tk j)
  | a, a', (b, o) :: os => a ≤ b ∧ b < a' ∧ (∀ j, a ≤ j → j < b → ¬ isO (tk j)) ∧ (∃ c, c ≤ a' ∧ OSh tk b c o) ∧ OPs tk (b + 1) a' os
section BSS
variable {tk : Nat → Nat} {N : Nat}
theorem bs_gs {a a' : Nat} (h : GS tk a a') : ∀ j, a ≤ j → j < a' → BS tk j ∧ ¬ isO (tk j) := fun j h1 h2 => by
  obtain ⟨g1, g2⟩ := h.2 j h1 h2
  exact ⟨⟨fun q => by have := g2 q; omega, fun q => by omega, fun q => by omega, fun q => by omega, fun q => by omega, fun q => by omega⟩, by unfold isO; omega⟩
theorem bs_1 {j : Nat} (h : tk j = 15 ∨ tk j = 16 ∨ tk j = 34 ∨ tk j = 11 ∨ tk j = 12 ∨ tk j = 14 ∨ tk j = 4) : BS tk j := ⟨fun q => by omega, fun q => by omega, fun q => by omega, fun q => by omega, fun q => by omega, fun q => by omega⟩
theorem bs_n {j : Nat} (h : tk j = 3) (h1 : 1 ≤ j) (h2 : tk (j - 1) = 7 ∨ tk (j - 1) = 9 ∨ (11 ≤ tk (j - 1) ∧ tk (j - 1) ≤ 14)) : BS tk j := ⟨fun q => ⟨h1, by omega⟩, fun q => by omega, fun q => by omega, fun q => by omega, fun q => by omega, fun q => by omega⟩
theorem gs_sum (hN : ∀ j, j + 1 ≤ N → (tk j = 1 ∨ tk j = 2) ∨ j + 2 ≤ N) (h4 : N ≤ 401) {a a' : Nat} {o : List Ps} (ha : a + 1 ≤ N) (e : zSum tk a = .inr (a', o)) : GS tk a a' := by
  have h := (zSum_eq hN h4 ha).1
  rw [e] at h
  exact pz_ind gs_all _ _ _ _ _ _ _ (by omega) h
theorem gs_tst (hN : ∀ j, j + 1 ≤ N → (tk j = 1 ∨ tk j = 2) ∨ j + 2 ≤ N) (h4 : N ≤ 401) {a a' : Nat} {o : List Ps} (ha : a + 1 ≤ N) (e : zTst tk a = .inr (a', o)) : GS tk a a' := by
  have h := (zTst_eq hN h4 ha).1
  rw [e] at h
  exact pz_ind gs_all _ _ _ _ _ _ _ (by omega) h
theorem tkz_ok {k a : Nat} {r : Rz} {x : Nat × List Ps} (h : tkz tk k a r = .inr x) : tk a = k ∧ r = .inr x := by
  unfold tkz at h
  by_cases q : tk a = k
  · rw [if_pos q] at h; exact ⟨q, h⟩
  · rw [if_neg q] at h; cases h
/-- the shape of an order's line -/
theorem bs_ord (hN : ∀ j, j + 1 ≤ N → (tk j = 1 ∨ tk j = 2) ∨ j + 2 ≤ N) (h4 : N ≤ 401) {a a' : Nat} {o1 : List Ps} {o2 : Option (List Ps)} (ha : a + 1 ≤ N) (h3 : isO (tk a)) (e : bnO tk (zOr1 tk a) = .inr (a', o1, o2)) : (∀ j, a ≤ j → j < a' → BS tk j) ∧ (∀ j, a + 1 ≤ j → j < a' → ¬ isO (tk j)) ∧ OSh tk a a' (o1, o2) ∧ a' + 1 ≤ N := by
  have h2 : a + 2 ≤ N := by have := hN a ha; unfold isO at h3; omega
  -- the part behind the first words
  have tail : ∀ a1 o, bnO tk (.inr (a1, o)) = .inr (a', o1, o2) → a1 + 1 ≤ N → o1 = o ∧ a1 ≤ a' ∧ a' + 1 ≤ N ∧ (∀ j, a1 ≤ j → j < a' → BS tk j ∧ ¬ isO (tk j)) ∧ (o2 = none ∨ ∃ o3, o2 = some o3 ∧ a1 < a' ∧ zTst tk (a1 + 1) = .inr (a', o3)) := by
    intro a1 o e h1
    unfold bnO at e
    simp only at e
    by_cases q : tk a1 = 16
    · rw [if_pos q] at e
      have h2 : a1 + 2 ≤ N := by have := hN a1 h1; omega
      have hg := gl_tst hN h4 h2
      match ht : zTst tk (a1 + 1), e, hg with
      | .inl b, e, _ => cases e
      | .inr (b, o3), e, hg =>
        cases e
        have g := gs_tst hN h4 h2 ht
        refine ⟨rfl, by have := g.1; omega, hg.1, fun j q1 q2 => ?_, Or.inr ⟨_, rfl, (by have := g.1; omega), rfl⟩⟩
        by_cases qj : j = a1
        · subst qj; exact ⟨bs_1 (by omega), by unfold isO; omega⟩
        · exact bs_gs g j (by omega) q2
    · rw [if_neg q] at e
      cases e
      exact ⟨rfl, Nat.le_refl _, h1, fun j q1 q2 => by omega, Or.inl rfl⟩
  have hg := gl_or1 hN h4 ha h3
  unfold zOr1 at e hg
  by_cases q : tk a = 14
  · rw [if_pos q] at e hg
    match hz : tkz tk 3 (a + 1) (tkz tk 15 (a + 2) (zSum tk (a + 3))), e, hg with
    | .inl b, e, _ => cases e
    | .inr (a1, o), e, hg =>
      have hg1 : a1 + 1 ≤ N := by
        rcases hg with hg | ⟨p, hg, _⟩
        · exact hg.1
        · cases hg
      obtain ⟨t1, hz⟩ := tkz_ok hz
      obtain ⟨t2, hz⟩ := tkz_ok hz
      have h3' : a + 3 ≤ N := by have := hN (a + 1) h2; omega
      have h4' : a + 4 ≤ N := by have := hN (a + 2) h3'; omega
      obtain ⟨rfl, k1, k2, k3, k4⟩ := tail a1 o e hg1
      have g := gs_sum hN h4 h4' hz
      have hlt : a + 4 ≤ a1 := by
        have hh := (zSum_eq hN h4 h4').2
        rw [hz] at hh
        have := hh.2.2.2 (by omega)
        omega
      have all : ∀ j, a + 1 ≤ j → j < a' → BS tk j ∧ ¬ isO (tk j) := fun j q1 q2 => by
        by_cases qa : j < a + 3
        · rcases (by omega : j = a + 1 ∨ j = a + 2) with rfl | rfl
          · exact ⟨bs_n t1 (by omega) (by rw [Nat.add_sub_cancel]; omega), by unfold isO; omega⟩
          · exact ⟨bs_1 (by omega), by unfold isO; omega⟩
        · by_cases qb : j < a1
          · exact bs_gs g j (by omega) qb
          · exact k3 j (by omega) q2
      refine ⟨fun j q1 q2 => ?_, fun j q1 q2 => (all j q1 q2).2, ⟨h3, t1, a1, hlt, k1, fun _ => ⟨t2, hz⟩, fun n => (n q).elim, k4⟩, k2⟩
      by_cases qj : j = a
      · subst qj; exact bs_1 (by omega)
      · exact (all j (by omega) q2).1
  · rw [if_neg q] at e hg
    match hz : tkz tk 3 (a + 1) (tkz tk 13 (a + 2) (tkz tk 3 (a + 3) (.inr (a + 4, [])))), e, hg with
    | .inl b, e, _ => cases e
    | .inr (a1, o), e, hg =>
      have hg1 : a1 + 1 ≤ N := by
        rcases hg with hg | ⟨p, hg, _⟩
        · exact hg.1
        · cases hg
      obtain ⟨t1, hz⟩ := tkz_ok hz
      obtain ⟨t2, hz⟩ := tkz_ok hz
      obtain ⟨t3, hz⟩ := tkz_ok hz
      cases hz
      obtain ⟨rfl, k1, k2, k3, k4⟩ := tail _ _ e hg1
      have all : ∀ j, a + 1 ≤ j → j < a' → BS tk j ∧ ¬ isO (tk j) := fun j q1 q2 => by
        by_cases qa : j < a + 4
        · unfold isO at h3
          rcases (by omega : j = a + 1 ∨ j = a + 2 ∨ j = a + 3) with rfl | rfl | rfl
          · exact ⟨bs_n t1 (by omega) (by rw [Nat.add_sub_cancel]; omega), by unfold isO; omega⟩
          · exact ⟨⟨fun q => by omega, fun q => by omega, fun q => by omega, fun q => by omega, fun q => by omega, fun _ => ⟨by omega, t1, by rw [show a + 2 - 2 = a by omega]; omega⟩⟩, by unfold isO; omega⟩
          · exact ⟨bs_n t3 (by omega) (by rw [show a + 3 - 1 = a + 2 by omega]; omega), by unfold isO; omega⟩
        · exact k3 j (by omega) q2
      refine ⟨fun j q1 q2 => ?_, fun j q1 q2 => (all j q1 q2).2, ⟨h3, t1, a + 4, Nat.le_refl _, k1, fun n => (q n).elim, fun _ => ⟨t2, t3, rfl, rfl⟩, k4⟩, k2⟩
      by_cases qj : j = a
      · subst qj; exact bs_1 (by unfold isO at h3; omega)
      · exact (all j (by omega) q2).1
/-- the shape of a line -/
theorem bs_line (hN : ∀ j, j + 1 ≤ N → (tk j = 1 ∨ tk j = 2) ∨ j + 2 ≤ N) (h4 : N ≤ 401) {a a' : Nat} {o : Option Oo} (ha : a + 1 ≤ N) (e : zLineO tk a = .inr (a', o)) : a < a' ∧ a' + 1 ≤ N ∧ (∀ j, a ≤ j → j < a' → BS tk j) ∧ (o = none → ∀ j, a ≤ j → j < a' → ¬ isO (tk j)) ∧ (∀ oo, o = some oo → (∀ j, a + 1 ≤ j → j < a' → ¬ isO (tk j)) ∧ OSh tk a a' oo) := by
  unfold zLineO at e
  by_cases h : tk a = 11 ∨ tk a = 12 ∨ tk a = 14
  · rw [if_pos h] at e
    match hb : bnO tk (zOr1 tk a), e with
    | .inl b, e => cases e
    | .inr (a1, o1, o2), e =>
      cases e
      obtain ⟨g1, g2, g3, g4⟩ := bs_ord hN h4 ha h hb
      obtain ⟨_, _, a1, k1, k2, _⟩ := id g3
      exact ⟨by omega, g4, g1, fun q => (by cases q), fun oo q => (by cases q; exact ⟨g2, g3⟩)⟩
  · rw [if_neg h] at e
    have hg := gl_line hN h4 ha
    match hz : zLine tk a, e, hg with
    | .inl b, e, _ => cases e
    | .inr (a1, o1), e, hg =>
      cases e
      have hg1 : a' + 1 ≤ N := hg.1
      unfold zLine at hz
      rw [if_neg h] at hz
      by_cases q7 : tk a = 7
      · rw [if_pos q7] at hz
        obtain ⟨t1, hz⟩ := tkz_ok hz
        obtain ⟨t2, hz⟩ := tkz_ok hz
        obtain ⟨t3, hz⟩ := tkz_ok hz
        cases hz
        have all : ∀ j, a ≤ j → j < a + 4 → BS tk j ∧ ¬ isO (tk j) := fun j q1 q2 => by
          rcases (by omega : j = a ∨ j = a + 1 ∨ j = a + 2 ∨ j = a + 3) with rfl | rfl | rfl | rfl
          · exact ⟨⟨fun q => by omega, fun q => ⟨t1, t2, t3⟩, fun q => by omega, fun q => by omega, fun q => by omega, fun q => by omega⟩, by unfold isO; omega⟩
          · exact ⟨bs_n t1 (by omega) (by rw [Nat.add_sub_cancel]; omega), by unfold isO; omega⟩
          · exact ⟨⟨fun q => by omega, fun q => by omega, fun q => by omega, fun q => ⟨by omega, t1, q7⟩, fun q => by omega, fun q => by omega⟩, by unfold isO; omega⟩
          · exact ⟨bs_1 (by omega), by unfold isO; omega⟩
        exact ⟨by omega, hg1, fun j q1 q2 => (all j q1 q2).1, fun _ j q1 q2 => (all j q1 q2).2, fun oo q => (by cases q)⟩
      · rw [if_neg q7] at hz
        by_cases q9 : tk a = 9
        · rw [if_pos q9] at hz
          obtain ⟨t1, hz⟩ := tkz_ok hz
          obtain ⟨t2, hz⟩ := tkz_ok hz
          obtain ⟨t3, hz⟩ := tkz_ok hz
          cases hz
          have all : ∀ j, a ≤ j → j < a + 4 → BS tk j ∧ ¬ isO (tk j) := fun j q1 q2 => by
            rcases (by omega : j = a ∨ j = a + 1 ∨ j = a + 2 ∨ j = a + 3) with rfl | rfl | rfl | rfl
            · exact ⟨⟨fun q => by omega, fun q => by omega, fun q => ⟨t1, t2, t3⟩, fun q => by omega, fun q => by omega, fun q => by omega⟩, by unfold isO; omega⟩
            · exact ⟨bs_n t1 (by omega) (by rw [Nat.add_sub_cancel]; omega), by unfold isO; omega⟩
            · exact ⟨⟨fun q => by omega, fun q => by omega, fun q => by omega, fun q => by omega, fun q => ⟨by omega, t1, q9⟩, fun q => by omega⟩, by unfold isO; omega⟩
            · exact ⟨bs_1 (by omega), by unfold isO; omega⟩
          exact ⟨by omega, hg1, fun j q1 q2 => (all j q1 q2).1, fun _ j q1 q2 => (all j q1 q2).2, fun oo q => (by cases q)⟩
        · rw [if_neg q9] at hz; cases hz
theorem ops_pre : ∀ (os : List (Nat × Oo)) {a b c : Nat}, a ≤ b → (∀ j, a ≤ j → j < b → ¬ isO (tk j)) → OPs tk b c os → OPs tk a c os
  | [], a, b, c, hab, h, g => fun j q1 q2 => by
    by_cases q : j < b
    · exact h j q1 q
    · exact g j (by omega) q2
  | (x, o) :: os, a, b, c, hab, h, g => by
    obtain ⟨g1, g2, g3, g4, g5⟩ := g
    refine ⟨by omega, g2, fun j q1 q2 => ?_, g4, g5⟩
    by_cases q : j < b
    · exact h j q1 q
    · exact g3 j (by omega) q2
/-- the shape of the book -/
theorem bs_book (hN : ∀ j, j + 1 ≤ N → (tk j = 1 ∨ tk j = 2) ∨ j + 2 ≤ N) (h4 : N ≤ 401) : ∀ n a a' os, a + 1 ≤ N → zBookO tk n a = .inr (a', os) → a ≤ a' ∧ a' + 1 ≤ N ∧ tk a' = 1 ∧ (∀ j, a ≤ j → j < a' → BS tk j) ∧ OPs tk a a' os
  | 0, a, a', os, ha, h => by cases h
  | n + 1, a, a', os, ha, h => by
    rw [zBookO] at h
    by_cases q1 : tk a = 1
    · rw [if_pos q1] at h
      cases h
      exact ⟨Nat.le_refl _, ha, q1, fun j h1 h2 => by omega, fun j h1 h2 => by omega⟩
    · rw [if_neg q1] at h
      match hz : zLineO tk a, h with
      | .inl b, h => cases h
      | .inr (a1, o), h =>
        obtain ⟨g1, g2, g3, g4, g5⟩ := bs_line hN h4 ha hz
        simp only at h
        by_cases q34 : tk a1 = 34
        · rw [if_pos q34] at h
          have h2 : a1 + 2 ≤ N := by have := hN a1 g2; omega
          match hb : zBookO tk n (a1 + 1), h with
          | .inl b, h => cases h
          | .inr (a2, os1), h =>
            obtain ⟨k1, k2, k3, k4, k5⟩ := bs_book hN h4 n (a1 + 1) a2 os1 h2 hb
            have all : ∀ j, a ≤ j → j < a2 → BS tk j := fun j q1 q2 => by
              by_cases qa : j < a1
              · exact g3 j q1 qa
              · by_cases qb : j = a1
                · subst qb; exact bs_1 (by omega)
                · exact k4 j (by omega) q2
            have n34 : ¬ isO (tk a1) := by unfold isO; omega
            cases o with
            | none =>
              have g4 := g4 rfl
              cases h
              refine ⟨by omega, k2, k3, all, ops_pre _ (by omega) (fun j q1 q2 => ?_) k5⟩
              by_cases qa : j < a1
              · exact g4 j q1 qa
              · have : j = a1 := by omega
                subst this; exact n34
            | some oo =>
              have g4 := g5 oo rfl
              cases h
              refine ⟨by omega, k2, k3, all, Nat.le_refl _, by omega, fun j q1 q2 => by omega, ⟨a1, by omega, g4.2⟩, ops_pre _ (by omega) (fun j q1 q2 => ?_) k5⟩
              by_cases qa : j < a1
              · exact g4.1 j q1 qa
              · have : j = a1 := by omega
                subst this; exact n34
        · rw [if_neg q34] at h; cases h
end BSS
