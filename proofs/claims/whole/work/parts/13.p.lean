-- THE PURE PART: the class's parser, all together; its lines
theorem c_all {tk : Nat → Nat} {N z : Nat} (hN : ∀ j, j + 1 ≤ N → (tk j = 1 ∨ tk j = 2) ∨ j + 2 ≤ N) (hk : ∀ j, j < N → 1 ≤ tk j ∧ tk j ≤ 44) : ∀ n, CP tk N z n ∧ CL4 tk N z n ∧ CL5 tk N z n
  | 0 => ⟨fun v d x a s m w res _ _ _ _ _ e => by simp [PZ] at e, fun d x a s m f u w res _ _ _ _ _ _ _ e => by simp [PZ] at e, fun d x a s m f u w res _ _ _ _ _ _ _ e => by simp [PZ] at e⟩
  | n + 1 => by
    obtain ⟨h1, h2, h3⟩ := c_all (z := z) hN hk n
    exact ⟨cp_step hN hk (PZ_g hN) h1 h2 h3, cl4_step hN (PZ_g hN) h1 h2, cl5_step hN hk (PZ_g hN) h1 h3⟩
/-- a sum, a test at depth 0: fuel enough -/
def zSum (tk : Nat → Nat) (a : Nat) : Rz := (PZ tk 4020 2 0 0 a).getD (.inl a)
def zTst (tk : Nat → Nat) (a : Nat) : Rz := (PZ tk 4020 0 0 0 a).getD (.inl a)
theorem zSum_eq {tk : Nat → Nat} {N a : Nat} (hN : ∀ j, j + 1 ≤ N → (tk j = 1 ∨ tk j = 2) ∨ j + 2 ≤ N) (h4 : N ≤ 401) (ha : a + 1 ≤ N) : PZ tk 4020 2 0 0 a = some (zSum tk a) ∧ Gz N 4020 2 0 a (some (zSum tk a)) := by
  have hg := PZ_g hN 4020 2 0 0 a (by omega) ha
  unfold zSum
  cases e : PZ tk 4020 2 0 0 a with
  | none =>
    rw [e] at hg
    simp only [Gz, rkz] at hg
    simp at hg
    omega
  | some r => rw [e] at hg; exact ⟨rfl, hg⟩
theorem zTst_eq {tk : Nat → Nat} {N a : Nat} (hN : ∀ j, j + 1 ≤ N → (tk j = 1 ∨ tk j = 2) ∨ j + 2 ≤ N) (h4 : N ≤ 401) (ha : a + 1 ≤ N) : PZ tk 4020 0 0 0 a = some (zTst tk a) ∧ Gz N 4020 0 0 a (some (zTst tk a)) := by
  have hg := PZ_g hN 4020 0 0 0 a (by omega) ha
  unfold zTst
  cases e : PZ tk 4020 0 0 0 a with
  | none =>
    rw [e] at hg
    simp only [Gz, rkz] at hg
    simp at hg
    omega
  | some r => rw [e] at hg; exact ⟨rfl, hg⟩
-- LINES: what a line adds (steps), or where it fails
def tkz (tk : Nat → Nat) (k a : Nat) (r : Rz) : Rz := if tk a = k then r else .inl a
/-- the rest of an order: a test or none, and the order's own step -/
def zWhen (tk : Nat → Nat) (a0 a : Nat) : Rz := if tk a = 16 then (match zTst tk (a + 1) with
  | .inl e => .inl e
  | .inr (a1, o) => .inr (a1, o ++ [(tk a0, nI (a0 + 1), nI (if tk a0 = 14 then a0 + 1 else a0 + 3))])) else .inr (a, [sp 6, (tk a0, nI (a0 + 1), nI (if tk a0 = 14 then a0 + 1 else a0 + 3))])
def zOrd (tk : Nat → Nat) (a : Nat) : Rz := if tk a = 14 then tkz tk 3 (a + 1) (tkz tk 15 (a + 2) (match zSum tk (a + 3) with
  | .inl e => .inl e
  | .inr (a1, o) => prz o (zWhen tk a a1))) else tkz tk 3 (a + 1) (tkz tk 13 (a + 2) (tkz tk 3 (a + 3) (zWhen tk a (a + 4))))
def zLine (tk : Nat → Nat) (a : Nat) : Rz := if tk a = 7 then tkz tk 3 (a + 1) (tkz tk 8 (a + 2) (tkz tk 4 (a + 3) (.inr (a + 4, []))))
  else if tk a = 9 then tkz tk 3 (a + 1) (tkz tk 10 (a + 2) (tkz tk 4 (a + 3) (.inr (a + 4, []))))
  else if tk a = 11 ∨ tk a = 12 ∨ tk a = 14 then zOrd tk a else .inl a
def zBook (tk : Nat → Nat) : Nat → Nat → Rz
  | 0, a => .inl a
  | n + 1, a => if tk a = 1 then .inr (a, []) else match zLine tk a with
    | .inl e => .inl e
    | .inr (a1, o) => tkz tk 34 a1 (prz o (zBook tk n (a1 + 1)))
section CPARSE
variable {tk : Nat → Nat} {N z : Nat}
theorem c_sum (hN : ∀ j, j + 1 ≤ N → (tk j = 1 ∨ tk j = 2) ∨ j + 2 ≤ N) (hk : ∀ j, j < N → 1 ≤ tk j ∧ tk j ≤ 44) {a s : Nat} {w : Mm} (hS : CSt tk N z a s w) (hs : s ≤ a) : ∃ out, g_X7_sum 0 w = some out ∧ RC tk N z s w (zSum tk a) out := by
  have h4 := hS.2.2.2.2.2.2.1
  have ha := hS.2.2.2.2.2.2.2
  obtain ⟨out, h1, h2⟩ := (c_all hN hk 4020).1 2 0 0 a s 60 w _ (by omega) hS hs (by omega) (by simp [ndC]) (zSum_eq hN h4 ha).1
  exact ⟨out, h1, h2⟩
theorem c_tst (hN : ∀ j, j + 1 ≤ N → (tk j = 1 ∨ tk j = 2) ∨ j + 2 ≤ N) (hk : ∀ j, j < N → 1 ≤ tk j ∧ tk j ≤ 44) {a s : Nat} {w : Mm} (hS : CSt tk N z a s w) (hs : s ≤ a) : ∃ out, g_X7_test 0 w = some out ∧ RC tk N z s w (zTst tk a) out := by
  have h4 := hS.2.2.2.2.2.2.1
  have ha := hS.2.2.2.2.2.2.2
  obtain ⟨out, h1, h2⟩ := (c_all hN hk 4020).1 0 0 0 a s 60 w _ (by omega) hS hs (by omega) (by simp [ndC]) (zTst_eq hN h4 ha).1
  exact ⟨out, h1, h2⟩
end CPARSE
