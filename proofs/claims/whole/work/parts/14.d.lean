-- THE PURE PART: the kinds of tokens; the reference's sums and tests
theorem tok1_KK (l : List Nat) : KK (tok1 l).1 := by
  have hk := tok1_k l
  refine ⟨hk.1, hk.2, ?_⟩
  cases l with
  | nil => exact ⟨by decide, by decide⟩
  | cons c t =>
    unfold tok1
    simp only
    by_cases hl : isLt c = true
    · rw [if_pos hl]
      split
      · rcases wk_r ((c :: t).take (wl (c :: t))) with r | r <;> (simp only; omega)
      · exact ⟨by decide, by decide⟩
    · rw [if_neg hl]
      by_cases hd : isDg c = true
      · rw [if_pos hd]
        split
        · exact ⟨by simp, by simp⟩
        · exact ⟨by decide, by decide⟩
      · rw [if_neg hd]
        rcases sy_r c (decide (t.head? = some 61)) with r | r
        · rw [r]; exact ⟨by decide, by decide⟩
        · omega
theorem scn_KK {T : List Nat} : ∀ (n i p : Nat), ∀ x ∈ scn T n i p, KK x.1
  | 0, i, p, x, h => by simp [scn] at h
  | n + 1, i, p, x, h => by
    have ht := tok1_KK (T.drop (p + bl (T.drop p)))
    rw [scn] at h
    rcases List.mem_cons.mp h with h | h
    · subst h
      show KK (if i = 400 ∧ (tok1 (T.drop (p + bl (T.drop p)))).1 ≠ 1 then 2 else (tok1 (T.drop (p + bl (T.drop p)))).1)
      split
      · exact ⟨by decide, by decide, by decide, by decide⟩
      · exact ht
    · have : ∀ (c : Prop) [Decidable c] (l : List (Nat × Nat × Nat)), x ∈ (if c then [] else l) → x ∈ l := fun c _ l h => by
        by_cases hc : c
        · rw [if_pos hc] at h; simp at h
        · rw [if_neg hc] at h; exact h
      exact scn_KK n _ _ x (this _ _ h)
section RPARSE
variable {T : List Nat} {tk st ln : Nat → Nat} {N p : Nat}
theorem b_sumZ (hN : ∀ j, j + 1 ≤ N → (tk j = 1 ∨ tk j = 2) ∨ j + 2 ≤ N) (hk : ∀ j, j < N → KK (tk j)) {a m q e : Nat} {w : Mm} (hS : MSt T tk st ln N p a 0 m q w) (hm : m + e ≤ 2 * a) (hq : q ≤ a) (hp : pvk tk a) : ∃ out, g_X15_isSum w = some out ∧ RM T tk st ln N p 0 m q e w (zSum tk a) out := by
  obtain ⟨out, h1, h2⟩ := (b_all (p := p) (st := st) (ln := ln) (T := T) hN hk 4020).1 2 0 0 a m q e 60 w _ (by omega) hS hm hq hp (by decide) (zSum_eq hN hS.2.2.2.2.2.1 hS.2.2.2.2.2.2.1).1
  exact ⟨out, h1, h2⟩
theorem b_tstZ (hN : ∀ j, j + 1 ≤ N → (tk j = 1 ∨ tk j = 2) ∨ j + 2 ≤ N) (hk : ∀ j, j < N → KK (tk j)) {a m q e : Nat} {w : Mm} (hS : MSt T tk st ln N p a 0 m q w) (hm : m + e ≤ 2 * a) (hq : q ≤ a) (hp : pvk tk a) : ∃ out, g_X15_isTest w = some out ∧ RM T tk st ln N p 0 m q e w (zTst tk a) out := by
  obtain ⟨out, h1, h2⟩ := (b_all (p := p) (st := st) (ln := ln) (T := T) hN hk 4020).1 0 0 0 a m q e 60 w _ (by omega) hS hm hq hp (by decide) (zTst_eq hN hS.2.2.2.2.2.1 hS.2.2.2.2.2.2.1).1
  exact ⟨out, h1, h2⟩
end RPARSE
