-- THE PURE PART: induction over the grammar
def GRc (tk : Nat → Nat) (P : Nat → Nat → Nat → Nat → List Ps → Prop) : Prop :=
  (∀ w a a1 a2 o1 o2, P 1 0 a a1 o1 → P 4 0 a1 a2 o2 → P 0 w a a2 (o1 ++ o2)) ∧
  (∀ w a a1 a2 o1 o2, tk a = 26 → P 1 0 (a + 1) a1 o1 → P 4 w a1 a2 o2 → P 4 w a a2 (o1 ++ [sp 26] ++ o2)) ∧
  (∀ w a a1 a2 o1 o2, tk a = 27 → P 1 0 (a + 1) a1 o1 → P 4 1 a1 a2 o2 → P 4 w a a2 ((if w = 1 then [sp 27] else []) ++ o1 ++ o2)) ∧
  (∀ w a, P 4 w a a (if w = 1 then [sp 27] else [])) ∧
  (∀ w a a1 o, tk a = 25 → P 1 0 (a + 1) a1 o → P 1 w a a1 (o ++ [sp 25])) ∧
  (∀ w a a1 o, tk a = 32 → P 0 0 (a + 1) a1 o → tk a1 = 33 → P 1 w a (a1 + 1) o) ∧
  (∀ w a, tk a = 24 → tk (a + 1) = 3 → tk (a + 2) = 23 → tk (a + 3) = 3 → P 1 w a (a + 4) [(24, nI (a + 1), nI (a + 3))]) ∧
  (∀ w a a1 a2 o1 o2, P 2 0 a a1 o1 → (40 ≤ tk a1 ∧ tk a1 ≤ 44) → P 2 0 (a1 + 1) a2 o2 → P 1 w a a2 (o1 ++ o2 ++ [sp (tk a1)])) ∧
  (∀ w a a1 a2 o1 o2, P 3 0 a a1 o1 → P 5 1 a1 a2 o2 → P 2 w a a2 (o1 ++ o2)) ∧
  (∀ w a a1 a2 o1 o2, (tk a = 38 ∨ tk a = 39) → P 3 0 (a + 1) a1 o1 → P 5 w a1 a2 o2 → P 5 w a a2 (o1 ++ [sp (tk a)] ++ o2)) ∧
  (∀ w a a1 a2 o1 o2, (tk a = 36 ∨ tk a = 37) → P 3 0 (a + 1) a1 o1 → P 5 (tk a) a1 a2 o2 → P 5 w a a2 ((if w = 1 then [] else [sp w]) ++ o1 ++ o2)) ∧
  (∀ w a, P 5 w a a (if w = 1 then [] else [sp w])) ∧
  (∀ w a, (tk a = 4 ∨ tk a = 17 ∨ tk a = 18 ∨ tk a = 19) → P 3 w a (a + 1) [(tk a, nI a, -1)]) ∧
  (∀ w a, (tk a = 20 ∨ tk a = 21 ∨ tk a = 22) → tk (a + 1) = 23 → tk (a + 2) = 3 → P 3 w a (a + 3) [(tk a, nI (a + 2), -1)]) ∧
  (∀ w a a1 o, tk a = 37 → P 3 0 (a + 1) a1 o → P 3 w a a1 (o ++ [sp 5])) ∧
  (∀ w a a1 o, tk a = 30 → P 2 0 (a + 1) a1 o → tk a1 = 31 → P 3 w a (a1 + 1) o) ∧
  (∀ w a a1 a2 o1 o2, (tk a = 28 ∨ tk a = 29) → tk (a + 1) = 30 → P 2 0 (a + 2) a1 o1 → tk a1 = 35 → P 2 0 (a1 + 1) a2 o2 → tk a2 = 31 → P 3 w a (a2 + 1) (o1 ++ o2 ++ [sp (tk a)]))
theorem bdz_ok {X : Option Rz} {K : Nat → List Ps → Option Rz} {r : Nat × List Ps} (h : bdz X K = some (.inr r)) : ∃ a o, X = some (.inr (a, o)) ∧ K a o = some (.inr r) := by
  match X, h with
  | some (.inr (a, o)), h => exact ⟨a, o, rfl, h⟩
theorem emz_ok {X : Option Rz} {p : List Ps} {a' : Nat} {o' : List Ps} (h : emz p X = some (.inr (a', o'))) : ∃ o, X = some (.inr (a', o)) ∧ o' = p ++ o := by
  match X, h with
  | some (.inr (a, o)), h => cases h; exact ⟨o, rfl, rfl⟩
theorem pz_ind {tk : Nat → Nat} {P : Nat → Nat → Nat → Nat → List Ps → Prop} (hG : GRc tk P) : ∀ n v d w a a' o, v ≤ 5 → PZ tk n v d w a = some (.inr (a', o)) → P v w a a' o
  | 0, v, d, w, a, a', o => fun _ h => by cases h
  | n + 1, v, d, w, a, a', o => fun hv h => by
    have ih := pz_ind hG n
    obtain ⟨h0, h4a, h4b, h4c, h1a, h1b, h1c, h1d, h2, h5a, h5b, h5c, h3a, h3b, h3c, h3d, h3e⟩ := hG
    rw [PZ] at h
    have e : v = 0 ∨ v = 1 ∨ v = 2 ∨ v = 3 ∨ v = 4 ∨ v = 5 := by omega
    rcases e with rfl | rfl | rfl | rfl | rfl | rfl
    · rw [if_pos rfl] at h
      unfold zT at h
      obtain ⟨a1, o1, e1, e2⟩ := bdz_ok h
      obtain ⟨o2, e3, rfl⟩ := emz_ok e2
      exact h0 w a a1 a' o1 o2 (ih _ _ _ _ _ _ (by omega) e1) (ih _ _ _ _ _ _ (by omega) e3)
    · rw [if_neg (by decide), if_pos rfl] at h
      unfold zS at h
      by_cases q25 : tk a = 25
      · rw [if_pos q25] at h
        by_cases q : 8 ≤ d
        · rw [if_pos q] at h; cases h
        · rw [if_neg q] at h
          obtain ⟨a1, o1, e1, e2⟩ := bdz_ok h
          cases e2
          exact h1a w a _ o1 q25 (ih _ _ _ _ _ _ (by omega) e1)
      · rw [if_neg q25] at h
        by_cases q32 : tk a = 32
        · rw [if_pos q32] at h
          by_cases q : 8 ≤ d
          · rw [if_pos q] at h; cases h
          · rw [if_neg q] at h
            obtain ⟨a1, o1, e1, e2⟩ := bdz_ok h
            by_cases q33 : tk a1 = 33
            · rw [if_pos q33] at e2
              cases e2
              exact h1b w a a1 _ q32 (ih _ _ _ _ _ _ (by omega) e1) q33
            · rw [if_neg q33] at e2; cases e2
        · rw [if_neg q32] at h
          by_cases q24 : tk a = 24
          · rw [if_pos q24] at h
            by_cases r1 : tk (a + 1) = 3
            · rw [if_pos r1] at h
              by_cases r2 : tk (a + 2) = 23
              · rw [if_pos r2] at h
                by_cases r3 : tk (a + 3) = 3
                · rw [if_pos r3] at h
                  cases h
                  exact h1c w a q24 r1 r2 r3
                · rw [if_neg r3] at h; cases h
              · rw [if_neg r2] at h; cases h
            · rw [if_neg r1] at h; cases h
          · rw [if_neg q24] at h
            obtain ⟨a1, o1, e1, e2⟩ := bdz_ok h
            by_cases q40 : 40 ≤ tk a1 ∧ tk a1 ≤ 44
            · rw [if_pos q40] at e2
              obtain ⟨a2, o2, e3, e4⟩ := bdz_ok e2
              cases e4
              exact h1d w a a1 _ o1 o2 (ih _ _ _ _ _ _ (by omega) e1) q40 (ih _ _ _ _ _ _ (by omega) e3)
            · rw [if_neg q40] at e2; cases e2
    · rw [if_neg (by decide), if_neg (by decide), if_pos rfl] at h
      unfold zE at h
      obtain ⟨a1, o1, e1, e2⟩ := bdz_ok h
      obtain ⟨o2, e3, rfl⟩ := emz_ok e2
      exact h2 w a a1 a' o1 o2 (ih _ _ _ _ _ _ (by omega) e1) (ih _ _ _ _ _ _ (by omega) e3)
    · rw [if_neg (by decide), if_neg (by decide), if_neg (by decide), if_pos rfl] at h
      unfold zV at h
      by_cases q4 : tk a = 4 ∨ tk a = 17 ∨ tk a = 18 ∨ tk a = 19
      · rw [if_pos q4] at h
        cases h
        exact h3a w a q4
      · rw [if_neg q4] at h
        by_cases q20 : tk a = 20 ∨ tk a = 21 ∨ tk a = 22
        · rw [if_pos q20] at h
          by_cases r1 : tk (a + 1) = 23
          · rw [if_pos r1] at h
            by_cases r2 : tk (a + 2) = 3
            · rw [if_pos r2] at h
              cases h
              exact h3b w a q20 r1 r2
            · rw [if_neg r2] at h; cases h
          · rw [if_neg r1] at h; cases h
        · rw [if_neg q20] at h
          by_cases q37 : tk a = 37
          · rw [if_pos q37] at h
            by_cases q : 8 ≤ d
            · rw [if_pos q] at h; cases h
            · rw [if_neg q] at h
              obtain ⟨a1, o1, e1, e2⟩ := bdz_ok h
              cases e2
              exact h3c w a _ o1 q37 (ih _ _ _ _ _ _ (by omega) e1)
          · rw [if_neg q37] at h
            by_cases q30 : tk a = 30
            · rw [if_pos q30] at h
              by_cases q : 8 ≤ d
              · rw [if_pos q] at h; cases h
              · rw [if_neg q] at h
                obtain ⟨a1, o1, e1, e2⟩ := bdz_ok h
                by_cases q31 : tk a1 = 31
                · rw [if_pos q31] at e2
                  cases e2
                  exact h3d w a a1 _ q30 (ih _ _ _ _ _ _ (by omega) e1) q31
                · rw [if_neg q31] at e2; cases e2
            · rw [if_neg q30] at h
              by_cases q28 : tk a = 28 ∨ tk a = 29
              · rw [if_pos q28] at h
                by_cases q : 8 ≤ d
                · rw [if_pos q] at h; cases h
                · rw [if_neg q] at h
                  by_cases q30 : tk (a + 1) = 30
                  · rw [if_pos q30] at h
                    obtain ⟨a1, o1, e1, e2⟩ := bdz_ok h
                    by_cases q35 : tk a1 = 35
                    · rw [if_pos q35] at e2
                      obtain ⟨a2, o2, e3, e4⟩ := bdz_ok e2
                      by_cases q31 : tk a2 = 31
                      · rw [if_pos q31] at e4
                        cases e4
                        exact h3e w a a1 a2 o1 o2 q28 q30 (ih _ _ _ _ _ _ (by omega) e1) q35 (ih _ _ _ _ _ _ (by omega) e3) q31
                      · rw [if_neg q31] at e4; cases e4
                    · rw [if_neg q35] at e2; cases e2
                  · rw [if_neg q30] at h; cases h
              · rw [if_neg q28] at h; cases h
    · rw [if_neg (by decide), if_neg (by decide), if_neg (by decide), if_neg (by decide), if_pos rfl] at h
      unfold zTL at h
      by_cases q26 : tk a = 26
      · rw [if_pos q26] at h
        obtain ⟨a1, o1, e1, e2⟩ := bdz_ok h
        obtain ⟨o2, e3, rfl⟩ := emz_ok e2
        exact h4a w a a1 a' o1 o2 q26 (ih _ _ _ _ _ _ (by omega) e1) (ih _ _ _ _ _ _ (by omega) e3)
      · rw [if_neg q26] at h
        by_cases q27 : tk a = 27
        · rw [if_pos q27] at h
          obtain ⟨a1, o1, e1, e2⟩ := bdz_ok h
          obtain ⟨o2, e3, rfl⟩ := emz_ok e2
          exact h4b w a a1 a' o1 o2 q27 (ih _ _ _ _ _ _ (by omega) e1) (ih _ _ _ _ _ _ (by omega) e3)
        · rw [if_neg q27] at h
          cases h
          exact h4c w a
    · rw [if_neg (by decide), if_neg (by decide), if_neg (by decide), if_neg (by decide), if_neg (by decide)] at h
      unfold zEL at h
      by_cases q38 : tk a = 38 ∨ tk a = 39
      · rw [if_pos q38] at h
        obtain ⟨a1, o1, e1, e2⟩ := bdz_ok h
        obtain ⟨o2, e3, rfl⟩ := emz_ok e2
        exact h5a w a a1 a' o1 o2 q38 (ih _ _ _ _ _ _ (by omega) e1) (ih _ _ _ _ _ _ (by omega) e3)
      · rw [if_neg q38] at h
        by_cases q36 : tk a = 36 ∨ tk a = 37
        · rw [if_pos q36] at h
          obtain ⟨a1, o1, e1, e2⟩ := bdz_ok h
          obtain ⟨o2, e3, rfl⟩ := emz_ok e2
          exact h5b w a a1 a' o1 o2 q36 (ih _ _ _ _ _ _ (by omega) e1) (ih _ _ _ _ _ _ (by omega) e3)
        · rw [if_neg q36] at h
          cases h
          exact h5c w a
