-- THE PURE PART: the reference's parser follows the grammar: values
theorem mkv : ∀ k, k < 45 → k = 0 ∨ k = 5 ∨ k = 6 ∨ (17 ≤ k ∧ k ≤ 22) ∨ (mk k < 10 ∧ mk k < 13) ∨ (¬ mk k < 10 ∧ 12 < mk k ∧ ¬ mk k < 13 ∧ 15 < mk k) := by decide +kernel
def VG (k : Nat) (x2 : Int32) (w4 : Mm) : Option (Int32 × Mm) := bd1 (f_X15_isSign 45 w4) (fun r5 w6 => br (r5 = 0) (bd1 (f_X15_eat 21 w6) (fun r7 w8 => br (r7 = 0) (bd1 (f_X15_eat 22 w8) (fun r11 w12 => br (r11 = 0) (bd1 (grpR k 6 x2 0 w12) (fun r13 w14 => gd (decide (r13 &&& 1 = r13)) (some (r13, w14)))) (bd1 (grpR k 6 x2 1 w12) (fun r15 w16 => gd (decide (r15 &&& 1 = r15)) (some (r15, w16)))))) (bd1 (grpR k 6 x2 1 w8) (fun r9 w10 => gd (decide (r9 &&& 1 = r9)) (some (r9, w10)))))) (bd1 (f_X15_isDeeper w6) (fun r17 w18 => br (r17 = 0) (some (0, w18)) (bd1 (grpR k 5 0 0 w18) (fun r19 w20 => br (r19 = 0) (some (0, w20)) (sq (pI w20 32 0 10 ((gI w20 32 0 10) - 1)) (fun w21 => bd0 (f_X15_put 33 w21) (fun w22 => some (1, w22)))))))))
section RPARSE
variable {T : List Nat} {tk st ln : Nat → Nat} {N p n : Nat}
theorem b_v0 {a d m q k : Nat} {w : Mm} {X : Option (Int32 × Mm)} (hS : MSt T tk st ln N p a d m q w) (hX : bd1 (f_X15_is 41 w) (fun r3 w4 => br (r3 = 0) (br ((mk (tk a)) < 10) (br ((mk (tk a)) < 13) (VG k (mk (tk a)) w4) (br (15 < (mk (tk a))) (VG k (mk (tk a)) w4) none)) (br (12 < (mk (tk a))) (br ((mk (tk a)) < 13) none (br (15 < (mk (tk a))) (VG k (mk (tk a)) w4) (bd0 (f_X15_put (mk (tk a)) w4) (fun w85 => sq (pI w85 32 0 9 ((gI w85 32 0 9) + 1)) (fun w86 => bd1 (f_X15_eat 16 w86) (fun r87 w88 => br (r87 = 0) (some (0, w88)) (br ((mk (tk a)) = 15) (bd1 (f_X15_isName 8 w88) (fun r91 w92 => br (r91 = 0) (some (0, w92)) (some (1, w92)))) (bd1 (f_X15_isName 7 w88) (fun r89 w90 => br (r89 = 0) (some (0, w90)) (some (1, w90))))))))))) (bd0 (f_X15_put (mk (tk a)) w4) (fun w93 => sq (pI w93 32 0 9 ((gI w93 32 0 9) + 1)) (fun w94 => some (1, w94)))))) (bd0 (f_X15_put 32 w4) (fun w95 => bd1 (f_X15_numberAt (gI w95 32 0 9) w95) (fun r96 w97 => bd0 (f_X15_put r96 w97) (fun w98 => sq (pI w98 32 0 9 ((gI w98 32 0 9) + 1)) (fun w99 => some (1, w99)))))))  = X) (hne : X ≠ none) : f_X15_isValue (grpR k) w = X := by
  have hN4 := hS.2.2.2.2.2.1
  have haN := hS.2.2.2.2.2.2.1
  unfold f_X15_isValue
  rw [hS.1.1]
  refine gdT ((vB_nI (by omega)).mpr (by omega)) ?_
  rw [nI_clamp (by omega), hS.2.1 a (by omega)]
  refine sqT ?_
  rw [← hX] at hne
  rw [← hX]
  revert hne
  generalize f_X15_is 41 w = E
  match E with
  | none => intro h; exact (h rfl).elim
  | some (r, w4) =>
    show br (r = 0) _ _ ≠ none → br (r = 0) _ _ = br (r = 0) _ _
    unfold br
    by_cases h0 : r = 0
    · simp only [if_pos h0]
      by_cases h1 : mk (tk a) < 10
      · simp only [if_pos h1]
        by_cases h2 : mk (tk a) < 13
        · simp only [if_pos h2] <;> (intro h; first | trivial | rfl | exact (h rfl).elim)
        · simp only [if_neg h2]
          by_cases h3 : 15 < mk (tk a)
          · simp only [if_pos h3] <;> (intro h; first | trivial | rfl | exact (h rfl).elim)
          · simp only [if_neg h3] <;> (intro h; first | trivial | rfl | exact (h rfl).elim)
      · simp only [if_neg h1]
        by_cases h2 : 12 < mk (tk a)
        · simp only [if_pos h2]
          by_cases h3 : mk (tk a) < 13
          · simp only [if_pos h3] <;> (intro h; first | trivial | rfl | exact (h rfl).elim)
          · simp only [if_neg h3]
            by_cases h4 : 15 < mk (tk a)
            · simp only [if_pos h4] <;> (intro h; first | trivial | rfl | exact (h rfl).elim)
            · simp only [if_neg h4] <;> (intro h; first | trivial | rfl | exact (h rfl).elim)
        · simp only [if_neg h2] <;> (intro h; first | trivial | rfl | exact (h rfl).elim)
    · simp only [if_neg h0] <;> (intro h; first | trivial | rfl | exact (h rfl).elim)
theorem mk_lo {k : Nat} (h : KK k) (h2 : ¬ (17 ≤ k ∧ k ≤ 22)) : (mk k < 10 ∧ mk k < 13) ∨ (¬ mk k < 10 ∧ 12 < mk k ∧ ¬ mk k < 13 ∧ 15 < mk k) := by
  obtain ⟨a1, a2, a3, a4⟩ := h
  rcases mkv k (by omega) with h | h | h | h | h | h
  · omega
  · omega
  · omega
  · exact (h2 h).elim
  · exact Or.inl h
  · exact Or.inr h
/-- values that are neither names' nor plain words nor numbers -/
theorem b_vG {a d m q k : Nat} {w : Mm} {X : Int32 × Mm} (hS : MSt T tk st ln N p a d m q w) (hk : ∀ j, j < N → KK (tk j)) (h4 : tk a ≠ 4) (h2 : ¬ (17 ≤ tk a ∧ tk a ≤ 22)) (hX : VG k (mk (tk a)) w = some X) : f_X15_isValue (grpR k) w = some X := by
  refine b_v0 hS ?_ (by simp)
  refine bd1T (b_isF hS hk 4 41 (by decide) (by decide) h4) (brT rfl ?_)
  rcases mk_lo (hk a (by have := hS.2.2.2.2.2.2.1; omega)) h2 with ⟨l1, l2⟩ | ⟨l1, l2, l3, l4⟩
  · exact brT l1 (brT l2 hX)
  · exact brF l1 (brT l2 (brF l3 (brT l4 hX)))
end RPARSE
