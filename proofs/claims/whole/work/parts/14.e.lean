-- THE PURE PART: tokens of a line, one after another, in the reference
section RPARSE
variable {T : List Nat} {tk st ln : Nat → Nat} {N p : Nat}
theorem rm_tk {Q : Rz → Int32 × Mm → Prop} {a d m q k : Nat} {c : Int32} {w : Mm} {r : Rz} {K : Mm → Option (Int32 × Mm)} (hN : ∀ j, j + 1 ≤ N → (tk j = 1 ∨ tk j = 2) ∨ j + 2 ≤ N) (hk : ∀ j, j < N → KK (tk j)) (hS : MSt T tk st ln N p a d m q w) (hj : KK k) (hc : mk k = c) (h12 : k ≠ 1 ∧ k ≠ 2) (hr : tk a = k → rol tk a = 0) (hf : tk a ≠ k → Q (.inl a) (0, w)) (hK : tk a = k → ∀ w', MSt T tk st ln N p (a + 1) d m q w' → FM p m q w w' → ∃ out, K w' = some out ∧ Q r out) : ∃ out, bd1 (f_X15_eat c w) (fun r1 w1 => br (r1 = 0) (some (0, w1)) (K w1)) = some out ∧ Q (tkz tk k a r) out := by
  have haN := hS.2.2.2.2.2.2.1
  unfold tkz
  by_cases h : tk a = k
  · rw [if_pos h]
    have h2 : a + 2 ≤ N := by have := hN a haN; omega
    obtain ⟨w', t1, t2, t3⟩ := b_eatT hS hk k c hj hc h h2 (hr h)
    obtain ⟨out, k1, k2⟩ := hK h w' t2 t3
    exact ⟨out, bd1T t1 (brF (by decide) k1), k2⟩
  · rw [if_neg h]
    exact ⟨(0, w), bd1T (b_eatF hS hk k c hj hc h) (brT rfl rfl), hf h⟩
theorem rm_tkAs {Q : Rz → Int32 × Mm → Prop} {a d m q k ro : Nat} {c : Int32} {w : Mm} {r : Rz} {K : Mm → Option (Int32 × Mm)} (hN : ∀ j, j + 1 ≤ N → (tk j = 1 ∨ tk j = 2) ∨ j + 2 ≤ N) (hk : ∀ j, j < N → KK (tk j)) (hS : MSt T tk st ln N p a d m q w) (hj : KK k) (hc : mk k = c) (h12 : k ≠ 1 ∧ k ≠ 2) (hr : tk a = k → rol tk a = ro) (hf : tk a ≠ k → ∀ w', gI w' 32 0 9 = nI a → FM p m q w w' → Q (.inl a) (0, w')) (hK : tk a = k → ∀ w', MSt T tk st ln N p (a + 1) d m q w' → FM p m q w w' → ∃ out, K w' = some out ∧ Q r out) : ∃ out, bd1 (f_X15_eatAs c (nI ro) w) (fun r1 w1 => br (r1 = 0) (some (0, w1)) (K w1)) = some out ∧ Q (tkz tk k a r) out := by
  have haN := hS.2.2.2.2.2.2.1
  obtain ⟨w', t1, t2, t3, t4⟩ := b_eatAs hS hk k c ro hj hc (fun h => by have := hN a haN; omega) hr
  unfold tkz
  by_cases h : tk a = k
  · rw [if_pos h]
    rw [if_pos h] at t1
    obtain ⟨out, k1, k2⟩ := hK h w' (t2 h) t4
    exact ⟨out, bd1T t1 (brF (by decide) k1), k2⟩
  · rw [if_neg h]
    rw [if_neg h] at t1
    exact ⟨(0, w'), bd1T t1 (brT rfl rfl), hf h w' (t3 h) t4⟩
end RPARSE
