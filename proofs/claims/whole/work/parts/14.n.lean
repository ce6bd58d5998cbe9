-- THE PURE PART: the shape of what was read
def tkO (tk : Nat → Nat) (j : Nat) : Prop := ¬ (7 ≤ tk j ∧ tk j ≤ 16) ∧ (tk j = 3 → 1 ≤ j ∧ (tk (j - 1) = 23 ∨ tk (j - 1) = 24))
def GS (tk : Nat → Nat) (a a' : Nat) : Prop := a ≤ a' ∧ ∀ j, a ≤ j → j < a' → tkO tk j
section GSS
variable {tk : Nat → Nat}
theorem gs_2 {a b c : Nat} (h : GS tk a b) (g : GS tk b c) : GS tk a c := ⟨Nat.le_trans h.1 g.1, fun j h1 h2 => by
  by_cases q : j < b
  · exact h.2 j h1 q
  · exact g.2 j (by omega) h2⟩
theorem gs_1 {a : Nat} (h : ¬ (7 ≤ tk a ∧ tk a ≤ 16)) (g : tk a ≠ 3) : GS tk a (a + 1) := ⟨Nat.le_succ _, fun j h1 h2 => by
  have : j = a := by omega
  subst this
  exact ⟨h, fun q => (g q).elim⟩⟩
theorem gs_n {a : Nat} (g : tk a = 3) (h1 : 1 ≤ a) (h2 : tk (a - 1) = 23 ∨ tk (a - 1) = 24) : GS tk a (a + 1) := ⟨Nat.le_succ _, fun j h3 h4 => by
  have : j = a := by omega
  subst this
  exact ⟨by omega, fun _ => ⟨h1, h2⟩⟩⟩
theorem gs_all : GRc tk (fun _ _ a a' _ => GS tk a a') := by
  refine ⟨?_, ?_, ?_, ?_, ?_, ?_, ?_, ?_, ?_, ?_, ?_, ?_, ?_, ?_, ?_, ?_, ?_⟩
  · intro w a a1 a2 o1 o2 h1 h2
    exact gs_2 h1 h2
  · intro w a a1 a2 o1 o2 q h1 h2
    exact gs_2 (gs_1 (by omega) (by omega)) (gs_2 h1 h2)
  · intro w a a1 a2 o1 o2 q h1 h2
    exact gs_2 (gs_1 (by omega) (by omega)) (gs_2 h1 h2)
  · intro w a
    exact ⟨Nat.le_refl _, fun j h1 h2 => by omega⟩
  · intro w a a1 o q h1
    exact gs_2 (gs_1 (by omega) (by omega)) h1
  · intro w a a1 o q h1 q1
    exact gs_2 (gs_2 (gs_1 (by omega) (by omega)) h1) (gs_1 (by omega) (by omega))
  · intro w a q q1 q2 q3
    exact gs_2 (gs_1 (by omega) (by omega)) (gs_2 (gs_n q1 (by omega) (Or.inr q)) (gs_2 (gs_1 (a := a + 2) (by omega) (by omega)) (gs_n (a := a + 3) q3 (by omega) (Or.inl q2))))
  · intro w a a1 a2 o1 o2 h1 q h2
    exact gs_2 h1 (gs_2 (gs_1 (by omega) (by omega)) h2)
  · intro w a a1 a2 o1 o2 h1 h2
    exact gs_2 h1 h2
  · intro w a a1 a2 o1 o2 q h1 h2
    exact gs_2 (gs_1 (by omega) (by omega)) (gs_2 h1 h2)
  · intro w a a1 a2 o1 o2 q h1 h2
    exact gs_2 (gs_1 (by omega) (by omega)) (gs_2 h1 h2)
  · intro w a
    exact ⟨Nat.le_refl _, fun j h1 h2 => by omega⟩
  · intro w a q
    exact gs_1 (by omega) (by omega)
  · intro w a q q1 q2
    exact gs_2 (gs_1 (by omega) (by omega)) (gs_2 (gs_1 (a := a + 1) (by omega) (by omega)) (gs_n (a := a + 2) q2 (by omega) (Or.inl q1)))
  · intro w a a1 o q h1
    exact gs_2 (gs_1 (by omega) (by omega)) h1
  · intro w a a1 o q h1 q1
    exact gs_2 (gs_2 (gs_1 (by omega) (by omega)) h1) (gs_1 (by omega) (by omega))
  · intro w a a1 a2 o1 o2 q q1 h1 q2 h2 q3
    exact gs_2 (gs_1 (by omega) (by omega)) (gs_2 (gs_1 (a := a + 1) (by omega) (by omega)) (gs_2 h1 (gs_2 (gs_1 (by omega) (by omega)) (gs_2 h2 (gs_1 (by omega) (by omega))))))
end GSS
