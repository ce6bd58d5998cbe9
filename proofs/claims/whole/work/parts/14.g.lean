-- THE PURE PART: the reference's orders: the first word, the wider frame
/-- what an order's line may touch (k orders were read) -/
def FO (p m q k : Nat) (w w' : Mm) : Prop := (∀ c kk i, ¬ (c = 32 ∧ kk = 0 ∧ (i = 9 ∨ i = 10)) → ¬ (c = 37 ∧ kk = 0) → ¬ (c = 44 ∧ kk = p ∧ (i = 13 ∨ i = 15 ∨ i = 5)) → ¬ (c = 53 ∧ kk = p ∧ m ≤ i) → ¬ (c = 54 ∧ kk = p ∧ q ≤ i) → ¬ (50 ≤ c ∧ c ≤ 52 ∧ kk = p ∧ (k ≤ i ∨ 16 ≤ i)) → gI w' c kk i = gI w c kk i) ∧ w'.2 = w.2
theorem fo_fm {p m q k : Nat} {w w' : Mm} (h : FM p m q w w') : FO p m q k w w' := ⟨fun c kk i q1 q2 q3 q4 q5 _ => h.1 c kk i q1 q2 (by omega) q4 q5, h.2⟩
theorem fo_tr {p m q k m' q' k' : Nat} {w w1 w2 : Mm} (hm : m ≤ m') (hq : q ≤ q') (hk : k ≤ k') (h : FO p m q k w w1) (g : FO p m' q' k' w1 w2) : FO p m q k w w2 := ⟨fun c kk i q1 q2 q3 q4 q5 q6 => (g.1 c kk i q1 q2 q3 (by omega) (by omega) (by omega)).trans (h.1 c kk i q1 q2 q3 q4 q5 q6), g.2.trans h.2⟩
section RPARSE
variable {T : List Nat} {tk st ln : Nat → Nat} {N p a d m q : Nat} {w : Mm}
theorem m_ordw (h : MSt T tk st ln N p a d m q w) (ha : a + 2 ≤ N) (hr : rol tk a = 3) : MSt T tk st ln N p (a + 1) d m q (pI (pI w 37 0 a 3) 32 0 9 ((gI (pI w 37 0 a 3) 32 0 9) + 1)) ∧ FM p m q w (pI (pI w 37 0 a 3) 32 0 9 ((gI (pI w 37 0 a 3) 32 0 9) + 1)) := by
  obtain ⟨⟨h1, h2, h3, h4⟩, h5, h6, h7, h8, h9, h10, h11⟩ := h
  have e1 : gI (pI w 37 0 a 3) 32 0 9 = nI a := by rw [gI_pI, if_neg (by omega)]; exact h1
  rw [e1, nI_1]
  refine ⟨⟨⟨?_, ?_, ?_, ?_⟩, fun j hj => ?_, fun j hj => ?_, mfx_2 rfl h7, mn_cg h8 ?_ fun c j hc => ?_, h9, ha, h11⟩, fun c k i q1 q2 q3 q4 q5 => ?_, rfl⟩
  · rw [gI_pI, if_pos ⟨rfl, rfl, rfl⟩]
  · rw [gI_pI, if_neg (by omega), gI_pI, if_neg (by omega)]; exact h2
  · rw [gI_pI, if_neg (by omega), gI_pI, if_neg (by omega)]; exact h3
  · rw [gI_pI, if_neg (by omega), gI_pI, if_neg (by omega)]; exact h4
  · rw [gI_pI, if_neg (by omega), gI_pI, if_neg (by omega)]; exact h5 j hj
  · rw [gI_pI, if_neg (by omega), gI_pI]
    by_cases q' : j = a
    · subst q'; rw [if_pos ⟨rfl, rfl, rfl⟩, if_pos (by omega), hr]; rfl
    · rw [if_neg (by omega), h6 j hj]
      by_cases q2 : j < a
      · rw [if_pos q2, if_pos (by omega)]
      · rw [if_neg q2, if_neg (by omega)]
  · rw [gI_pI, if_neg (by omega), gI_pI, if_neg (by omega)]
  · rw [gI_pI, if_neg (by omega), gI_pI, if_neg (by omega)]
  · rw [gI_pI, if_neg (by omega), gI_pI, if_neg (by omega)]
/-- a put into the orders' records changes no state of the parser -/
theorem m_rec {c i k : Nat} {v : Int32} (h : MSt T tk st ln N p a d m q w) (hc : (50 ≤ c ∧ c ≤ 52 ∧ (k ≤ i ∨ 16 ≤ i)) ∨ (c = 44 ∧ i = 5)) : MSt T tk st ln N p a d m q (pI w c p i v) ∧ FO p m q k w (pI w c p i v) := by
  obtain ⟨⟨h1, h2, h3, h4⟩, h5, h6, h7, h8, h9, h10, h11⟩ := h
  refine ⟨⟨⟨?_, ?_, ?_, ?_⟩, fun j hj => ?_, fun j hj => ?_, mfx_2 rfl h7, mn_cg h8 ?_ fun c j hc => ?_, h9, h10, h11⟩, fun c kk i q1 q2 q3 q4 q5 q6 => ?_, rfl⟩
  · rw [gI_pI, if_neg (by omega)]; exact h1
  · rw [gI_pI, if_neg (by omega)]; exact h2
  · rw [gI_pI, if_neg (by omega)]; exact h3
  · rw [gI_pI, if_neg (by omega)]; exact h4
  · rw [gI_pI, if_neg (by omega)]; exact h5 j hj
  · rw [gI_pI, if_neg (by omega)]; exact h6 j hj
  · rw [gI_pI, if_neg (by omega)]
  · rw [gI_pI, if_neg (by omega)]
  · rw [gI_pI, if_neg (by omega)]
end RPARSE
