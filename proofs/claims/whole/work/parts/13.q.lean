-- THE PURE PART: the class reads the book's lines
theorem rc_mono {tk : Nat → Nat} {N z s : Nat} {w w1 : Mm} {res : Rz} {out : Int32 × Mm} (u : FC z s w w1) (h : RC tk N z s w1 res out) : RC tk N z s w res out := by
  match res, h with
  | .inl p, h => exact ⟨h.1, h.2.1, fc_tr (Nat.le_refl _) u h.2.2⟩
  | .inr (a, o), h => exact ⟨h.1, h.2.1, h.2.2.1, fc_tr (Nat.le_refl _) u h.2.2.2⟩
theorem prz_nil {r : Rz} : prz [] r = r := by
  match r with
  | .inl e => rfl
  | .inr (a, o) => rfl
def Gl (N a : Nat) (r : Rz) : Prop := match r with
  | .inl e => a ≤ e ∧ e + 1 ≤ N
  | .inr (a', o) => a' + 1 ≤ N ∧ a + o.length ≤ a' ∧ a ≤ a'
theorem gl_mono {N a b : Nat} {r : Rz} (h : a ≤ b) (g : Gl N b r) : Gl N a r := by
  match r, g with
  | .inl e, g => simp only [Gl] at g ⊢; omega
  | .inr (a', o), g => simp only [Gl] at g ⊢; omega
theorem gl_tkz {tk : Nat → Nat} {N k a : Nat} {r : Rz} (hN : ∀ j, j + 1 ≤ N → (tk j = 1 ∨ tk j = 2) ∨ j + 2 ≤ N) (hk : k ≠ 1 ∧ k ≠ 2) (ha : a + 1 ≤ N) (h : a + 2 ≤ N → Gl N (a + 1) r) : Gl N a (tkz tk k a r) := by
  unfold tkz
  by_cases q : tk a = k
  · rw [if_pos q]
    have := hN a ha
    exact gl_mono (by omega) (h (by omega))
  · rw [if_neg q]
    exact ⟨Nat.le_refl _, ha⟩
theorem rc_tk {tk : Nat → Nat} {N z a s k : Nat} {w : Mm} {r : Rz} {K : Mm → Option (Int32 × Mm)} (hN : ∀ j, j + 1 ≤ N → (tk j = 1 ∨ tk j = 2) ∨ j + 2 ≤ N) (hk : k ≠ 1 ∧ k ≠ 2) (h : CSt tk N z a s w) (hK : ∀ w', CSt tk N z (a + 1) s w' → FC z s w w' → ∃ out, K w' = some out ∧ RC tk N z s w' r out) : ∃ out, bd1 (f_X7_take k w) (fun r1 w1 => br (r1 = 0) (some (0, w1)) (K w1)) = some out ∧ RC tk N z s w (tkz tk k a r) out := by
  have ha := h.2.2.2.2.2.2.2
  unfold tkz
  by_cases q : tk a = k
  · rw [if_pos q]
    have := hN a ha
    obtain ⟨w', t1, t2, t3⟩ := c_take h q (by omega)
    obtain ⟨out, k1, k2⟩ := hK w' t2 t3
    exact ⟨out, bd1T t1 (brF (by decide) k1), rc_mono t3 k2⟩
  · rw [if_neg q]
    exact ⟨(0, w), bd1T (c_takeN h q) (brT rfl rfl), rc_fl h fc_rf⟩
def zOr1 (tk : Nat → Nat) (a : Nat) : Rz := if tk a = 14 then tkz tk 3 (a + 1) (tkz tk 15 (a + 2) (zSum tk (a + 3))) else tkz tk 3 (a + 1) (tkz tk 13 (a + 2) (tkz tk 3 (a + 3) (.inr (a + 4, []))))
def bnz (r : Rz) (K : Nat → Rz) : Rz := match r with
  | .inl e => .inl e
  | .inr (a, o) => prz o (K a)
theorem bnz_tkz {tk : Nat → Nat} {k a : Nat} {r : Rz} {K : Nat → Rz} : bnz (tkz tk k a r) K = tkz tk k a (bnz r K) := by
  unfold tkz
  split <;> rfl
theorem zOrd_eq {tk : Nat → Nat} {a : Nat} : zOrd tk a = bnz (zOr1 tk a) (zWhen tk a) := by
  unfold zOrd zOr1
  by_cases q : tk a = 14
  · rw [if_pos q, if_pos q, bnz_tkz, bnz_tkz]; rfl
  · rw [if_neg q, if_neg q, bnz_tkz, bnz_tkz, bnz_tkz]
    show _ = tkz _ _ _ (tkz _ _ _ (tkz _ _ _ (prz [] _)))
    rw [prz_nil]
section CPARSE
variable {tk : Nat → Nat} {N z : Nat}
theorem gl_sum (hN : ∀ j, j + 1 ≤ N → (tk j = 1 ∨ tk j = 2) ∨ j + 2 ≤ N) (h4 : N ≤ 401) {a : Nat} (ha : a + 1 ≤ N) : Gl N a (zSum tk a) := by
  have h := (zSum_eq hN h4 ha).2
  match zSum tk a, h with
  | .inl e, h => simp only [Gz, Gl] at h ⊢; omega
  | .inr (a', o), h => simp [Gz, Gl, pnz] at h ⊢; omega
theorem gl_tst (hN : ∀ j, j + 1 ≤ N → (tk j = 1 ∨ tk j = 2) ∨ j + 2 ≤ N) (h4 : N ≤ 401) {a : Nat} (ha : a + 1 ≤ N) : Gl N a (zTst tk a) := by
  have h := (zTst_eq hN h4 ha).2
  match zTst tk a, h with
  | .inl e, h => simp only [Gz, Gl] at h ⊢; omega
  | .inr (a', o), h => simp [Gz, Gl, pnz] at h ⊢; omega
theorem gl_or1 (hN : ∀ j, j + 1 ≤ N → (tk j = 1 ∨ tk j = 2) ∨ j + 2 ≤ N) (h4 : N ≤ 401) {a : Nat} (ha : a + 1 ≤ N) (h3 : tk a = 11 ∨ tk a = 12 ∨ tk a = 14) : Gl N (a + 2) (zOr1 tk a) ∨ ∃ e, zOr1 tk a = .inl e ∧ a ≤ e ∧ e + 1 ≤ N := by
  have h2 : a + 2 ≤ N := by have := hN a ha; omega
  have hx : ∀ {r : Rz}, (a + 3 ≤ N → Gl N (a + 2) r ∨ ∃ e, r = .inl e ∧ a ≤ e ∧ e + 1 ≤ N) → Gl N (a + 2) (tkz tk 3 (a + 1) r) ∨ ∃ e, tkz tk 3 (a + 1) r = .inl e ∧ a ≤ e ∧ e + 1 ≤ N := by
    intro r hr
    unfold tkz
    by_cases q : tk (a + 1) = 3
    · rw [if_pos q]; have := hN (a + 1) (by omega); exact hr (by omega)
    · rw [if_neg q]; exact Or.inr ⟨_, rfl, by omega, by omega⟩
  unfold zOr1
  by_cases q : tk a = 14
  · rw [if_pos q]
    refine hx fun h3 => Or.inl (gl_tkz hN (by decide) (by omega) fun h4' => gl_sum hN h4 h4')
  · rw [if_neg q]
    refine hx fun h3 => Or.inl (gl_tkz hN (by decide) (by omega) fun h4' => gl_tkz hN (by decide) (by omega) fun h5 => ⟨by omega, by simp, by omega⟩)
/-- the steps of an order leave room for two more -/
theorem or1_ok (hN : ∀ j, j + 1 ≤ N → (tk j = 1 ∨ tk j = 2) ∨ j + 2 ≤ N) (h4 : N ≤ 401) {a a' : Nat} {o : List Ps} (ha : a + 1 ≤ N) (h3 : tk a = 11 ∨ tk a = 12 ∨ tk a = 14) (e : zOr1 tk a = .inr (a', o)) : a' + 1 ≤ N ∧ a + 2 + o.length ≤ a' := by
  rcases gl_or1 hN h4 ha h3 with h | ⟨p, h, _⟩
  · rw [e] at h; exact ⟨h.1, h.2.1⟩
  · rw [e] at h; cases h
theorem gl_when (hN : ∀ j, j + 1 ≤ N → (tk j = 1 ∨ tk j = 2) ∨ j + 2 ≤ N) (h4 : N ≤ 401) {a0 a b : Nat} (ha : a + 1 ≤ N) (hb : b + 2 ≤ a) : Gl N b (zWhen tk a0 a) := by
  unfold zWhen
  by_cases q : tk a = 16
  · rw [if_pos q]
    have h2 : a + 2 ≤ N := by have := hN a ha; omega
    have h := gl_tst hN h4 h2
    match zTst tk (a + 1), h with
    | .inl e, h => simp only [Gl] at h ⊢; omega
    | .inr (a', o), h =>
      simp only [Gl] at h ⊢
      rw [List.length_append, List.length_singleton]
      omega
  · rw [if_neg q]
    exact ⟨ha, by show b + 2 ≤ a; omega, by omega⟩
theorem gl_line (hN : ∀ j, j + 1 ≤ N → (tk j = 1 ∨ tk j = 2) ∨ j + 2 ≤ N) (h4 : N ≤ 401) {a : Nat} (ha : a + 1 ≤ N) : Gl N a (zLine tk a) := by
  unfold zLine
  by_cases q7 : tk a = 7
  · rw [if_pos q7]
    have h2 : a + 2 ≤ N := by have := hN a ha; omega
    exact gl_mono (by omega) (gl_tkz hN (by decide) h2 fun h3 => gl_tkz hN (by decide) h3 fun h3 => gl_tkz hN (by decide) h3 fun h3 => ⟨h3, Nat.le_refl _, Nat.le_refl _⟩)
  · rw [if_neg q7]
    by_cases q9 : tk a = 9
    · rw [if_pos q9]
      have h2 : a + 2 ≤ N := by have := hN a ha; omega
      exact gl_mono (by omega) (gl_tkz hN (by decide) h2 fun h3 => gl_tkz hN (by decide) h3 fun h3 => gl_tkz hN (by decide) h3 fun h3 => ⟨h3, Nat.le_refl _, Nat.le_refl _⟩)
    · rw [if_neg q9]
      by_cases q : tk a = 11 ∨ tk a = 12 ∨ tk a = 14
      · rw [if_pos q, zOrd_eq]
        rcases gl_or1 hN h4 ha q with h | ⟨e, h, he⟩
        · cases e : zOr1 tk a with
          | inl p => rw [e] at h; exact gl_mono (by omega) h
          | inr x =>
            obtain ⟨a', o⟩ := x
            rw [e] at h
            simp only [Gl] at h
            show Gl N a (prz o (zWhen tk a a'))
            have hw := gl_when (a0 := a) hN h4 (b := a' - 2) h.1 (by omega)
            match zWhen tk a a', hw with
            | .inl e, hw => simp only [Gl, prz] at hw ⊢; omega
            | .inr (a2, o2), hw => simp only [Gl, prz, List.length_append] at hw ⊢; omega
        · rw [h]; exact he
      · rw [if_neg q]; exact ⟨Nat.le_refl _, ha⟩
theorem c_order (hN : ∀ j, j + 1 ≤ N → (tk j = 1 ∨ tk j = 2) ∨ j + 2 ≤ N) (hk : ∀ j, j < N → 1 ≤ tk j ∧ tk j ≤ 44) {a s : Nat} {w : Mm} (hS : CSt tk N z a s w) (hs : s ≤ a) (h3 : tk a = 11 ∨ tk a = 12 ∨ tk a = 14) : ∃ out, f_X7_order w = some out ∧ RC tk N z s w (zOr1 tk a) out := by
  have ha := hS.2.2.2.2.2.2.2
  have hnow := hS.2.1
  have h2 : a + 2 ≤ N := by have := hN a ha; omega
  by_cases q : tk a = 14
  · obtain ⟨w1, t1, t2, t3⟩ := c_take hS q h2
    obtain ⟨out, k1, k2⟩ : ∃ out, bd1 (f_X7_take 3 w1) (fun r11 w12 => br (r11 = 0) (some (0, w12)) (bd1 (f_X7_take 15 w12) (fun r13 w14 => br (r13 = 0) (some (0, w14)) (bd1 (g_X7_sum 0 w14) (fun r15 w16 => br (r15 = 0) (some (0, w16)) (some (1, w16))))))) = some out ∧ RC tk N z s w1 (zOr1 tk a) out := by
      unfold zOr1
      rw [if_pos q]
      refine rc_tk hN (by decide) t2 fun w2 s2 f2 => rc_tk hN (by decide) s2 fun w3 s3 f3 => ?_
      obtain ⟨⟨r, w4⟩, e1, e2⟩ := c_sum hN hk s3 (by omega)
      match zSum tk (a + 3), e2 with
      | .inl p, e2 =>
        obtain ⟨g1, g2, g3⟩ := e2
        simp only at g1 g2 g3
        subst g1
        exact ⟨(0, w4), bd1T e1 (brT rfl rfl), rfl, g2, g3⟩
      | .inr (a1, o), e2 =>
        obtain ⟨g1, g2⟩ := e2
        simp only at g1
        subst g1
        exact ⟨(1, w4), bd1T e1 (brF (by decide) rfl), rfl, g2⟩
    refine ⟨out, ?_, rc_mono t3 k2⟩
    unfold f_X7_order
    exact brT (by rw [hnow]; exact q) (bd1T t1 (brF (by decide) k1))
  · obtain ⟨w1, t1, t2, t3⟩ := c_take hS rfl h2
    obtain ⟨out, k1, k2⟩ : ∃ out, bd1 (f_X7_take 3 w1) (fun r3 w4 => br (r3 = 0) (some (0, w4)) (bd1 (f_X7_take 13 w4) (fun r5 w6 => br (r5 = 0) (some (0, w6)) (bd1 (f_X7_take 3 w6) (fun r7 w8 => br (r7 = 0) (some (0, w8)) (some (1, w8))))))) = some out ∧ RC tk N z s w1 (zOr1 tk a) out := by
      unfold zOr1
      rw [if_neg q]
      refine rc_tk hN (by decide) t2 fun w2 s2 f2 => rc_tk hN (by decide) s2 fun w3 s3 f3 => rc_tk hN (by decide) s3 fun w4 s4 f4 => ⟨(1, w4), rfl, rfl, s4, cseg_nil, fc_rf⟩
    refine ⟨out, ?_, rc_mono t3 k2⟩
    unfold f_X7_order
    refine brF (by rw [hnow]; exact q) ?_
    rw [hnow]
    exact bd1T t1 (brF (by decide) k1)
end CPARSE
