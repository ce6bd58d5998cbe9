-- THE PURE PART: the reference's parser follows the grammar: tests, sums, single tests
section RPARSE
variable {T : List Nat} {tk st ln : Nat → Nat} {N p n : Nat}
theorem b_test (hN : ∀ j, j + 1 ≤ N → (tk j = 1 ∨ tk j = 2) ∨ j + 2 ≤ N) (h1 : RP T tk st ln N p n) (h4 : RL4 T tk st ln N p n) {d a m q e k : Nat} {w : Mm} {res : Rz} (hS : MSt T tk st ln N p a d m q w) (hm : m + e ≤ 2 * a) (hq : q ≤ a) (hp : pvk tk a) (hnd : ndR 0 d ≤ k) (g : zT (PZ tk n) d a = some res) : ∃ out, grpR k 0 0 0 w = some out ∧ RM T tk st ln N p d m q e w res out := by
  have hN4 := hS.2.2.2.2.2.1
  have haN := hS.2.2.2.2.2.2.1
  obtain ⟨k', rfl⟩ : ∃ k', k = k' + 2 := ⟨k - 2, by unfold ndR at hnd; simp at hnd; omega⟩
  have hnd1 : ndR 1 d ≤ k' := by unfold ndR at hnd ⊢; simp at hnd ⊢; omega
  have hnd4 : ndR 4 d ≤ k' := by unfold ndR at hnd ⊢; simp at hnd ⊢; omega
  unfold zT at g
  rcases bdz_in g with ⟨b, e1, rfl⟩ | ⟨a1, o1, e1, e2⟩
  · rcases rp_use h1 (e := e) (by omega) hS hm hq hp hnd1 e1 with ⟨b', w2, r1, r2, r3, r4⟩ | ⟨_, _, _, r1, _⟩
    · cases r1
      refine ⟨(0, w2), ?_, rfl, r3, r4⟩
      have hI : grpR (k' + 1) 1 0 0 w = some (0, w2) := by
        show f_X15_isBoth (grpR k') w = _
        unfold f_X15_isBoth
        exact bd1T r2 (brT rfl rfl)
      show f_X15_isTest (grpR (k' + 1)) w = _
      unfold f_X15_isTest
      exact bd1T hI (brT rfl rfl)
    · cases r1
  · have g1 := PZ_g hN n 1 d 0 a (by omega) (by omega)
    rw [e1] at g1
    simp only [Gz] at g1
    rcases rp_use h1 (e := e) (by omega) hS hm hq hp hnd1 e1 with ⟨_, _, r1, _⟩ | ⟨a1', o1', w2, r1, r2, r3, r4, r5, r6, r7, r8⟩
    · cases r1
    · cases r1
      obtain ⟨r', e3, rfl⟩ := emz_pre e2
      have hP : pnz 4 0 = 0 := rfl
      obtain ⟨out, q1, q2⟩ := h4 d 0 a1 _ _ e k' LF LF w2 _ r3 (by rw [hP]; omega) r7 (by omega) hnd4 (by unfold LF; omega) (by unfold LF; omega) e3
      refine ⟨out, ?_, rm_pre q2 rfl rfl r4 r5 r8⟩
      have hI : grpR (k' + 1) 1 0 0 w = bd1 (f_X15_isBoth_L9 (grpR k') LF w2) (fun t9 w8 => br (t9 = 0) (some ((0 : Int32), w8)) (some (1, w8))) := by
        show f_X15_isBoth (grpR k') w = _
        unfold f_X15_isBoth
        exact bd1T r2 (brF (by decide) rfl)
      show f_X15_isTest (grpR (k' + 1)) w = _
      unfold f_X15_isTest
      rw [hI]
      refine bb.trans ?_
      rw [← q1]
      rfl
theorem b_sum (hN : ∀ j, j + 1 ≤ N → (tk j = 1 ∨ tk j = 2) ∨ j + 2 ≤ N) (h1 : RP T tk st ln N p n) (h5 : RL5 T tk st ln N p n) {d a m q e k : Nat} {w : Mm} {res : Rz} (hS : MSt T tk st ln N p a d m q w) (hm : m + e ≤ 2 * a) (hq : q ≤ a) (hp : pvk tk a) (hnd : ndR 2 d ≤ k) (g : zE (PZ tk n) d a = some res) : ∃ out, grpR k 3 0 0 w = some out ∧ RM T tk st ln N p d m q e w res out := by
  have hN4 := hS.2.2.2.2.2.1
  have haN := hS.2.2.2.2.2.2.1
  obtain ⟨k', rfl⟩ : ∃ k', k = k' + 2 := ⟨k - 2, by unfold ndR at hnd; simp at hnd; omega⟩
  have hnd1 : ndR 3 d ≤ k' := by unfold ndR at hnd ⊢; simp at hnd ⊢; omega
  have hnd5 : ndR 5 d ≤ k' := by unfold ndR at hnd ⊢; simp at hnd ⊢; omega
  unfold zE at g
  rcases bdz_in g with ⟨b, e1, rfl⟩ | ⟨a1, o1, e1, e2⟩
  · rcases rp_use h1 (e := e) (by omega) hS hm hq hp hnd1 e1 with ⟨b', w2, r1, r2, r3, r4⟩ | ⟨_, _, _, r1, _⟩
    · cases r1
      refine ⟨(0, w2), ?_, rfl, r3, r4⟩
      have hI : grpR (k' + 1) 4 0 0 w = some (0, w2) := by
        show f_X15_isProduct (grpR k') w = _
        unfold f_X15_isProduct
        exact bd1T r2 (brT rfl rfl)
      show f_X15_isSum (grpR (k' + 1)) w = _
      unfold f_X15_isSum
      exact bd1T hI (brT rfl rfl)
    · cases r1
  · have g1 := PZ_g hN n 3 d 0 a (by omega) (by omega)
    rw [e1] at g1
    simp only [Gz] at g1
    rcases rp_use h1 (e := e) (by omega) hS hm hq hp hnd1 e1 with ⟨_, _, r1, _⟩ | ⟨a1', o1', w2, r1, r2, r3, r4, r5, r6, r7, r8⟩
    · cases r1
    · cases r1
      obtain ⟨r', e3, rfl⟩ := emz_pre e2
      have hP : pnz 5 1 = 0 := rfl
      obtain ⟨out, q1, q2⟩ := h5 d 1 a1 _ _ e k' LF LF w2 _ r3 (by rw [hP]; omega) r7 (Or.inl rfl) hnd5 (by unfold LF; omega) (by unfold LF; omega) e3
      refine ⟨out, ?_, rm_pre q2 rfl rfl r4 r5 r8⟩
      have hI : grpR (k' + 1) 4 0 0 w = bd1 (f_X15_isProduct_L9 (grpR k') LF w2) (fun t9 w8 => br (t9 = 0) (some ((0 : Int32), w8)) (some (1, w8))) := by
        show f_X15_isProduct (grpR k') w = _
        unfold f_X15_isProduct
        exact bd1T r2 (brF (by decide) rfl)
      show f_X15_isSum (grpR (k' + 1)) w = _
      unfold f_X15_isSum
      rw [hI]
      refine bb.trans ?_
      rw [← q1]
      rfl
theorem b_isT {a d m q : Nat} {w : Mm} (h : MSt T tk st ln N p a d m q w) (hk : ∀ j, j < N → KK (tk j)) (j : Nat) (c : Int32) (hj : KK j) (hc : mk j = c) (hn : tk a = j) : f_X15_is c w = some (1, w) := by rw [b_is h hk j c hj hc, if_pos hn]
theorem b_isF {a d m q : Nat} {w : Mm} (h : MSt T tk st ln N p a d m q w) (hk : ∀ j, j < N → KK (tk j)) (j : Nat) (c : Int32) (hj : KK j) (hc : mk j = c) (hn : tk a ≠ j) : f_X15_is c w = some (0, w) := by rw [b_is h hk j c hj hc, if_neg hn]
/-- the comparison behind a sum -/
theorem b_cmpR {a d m q : Nat} {w : Mm} {X : Option (Int32 × Mm)} (h : MSt T tk st ln N p a d m q w) (hk : ∀ j, j < N → KK (tk j)) (R : Mm → Option (Int32 × Mm)) (hn : 40 ≤ tk a ∧ tk a ≤ 44) (hX : bd1 (R (pI w 32 0 9 ((gI w 32 0 9) + 1))) (fun r w6 => br (r = 0) (some (0, w6)) (bd0 (f_X15_put (mop (tk a)) w6) (fun w7 => some (1, w7)))) = X) : bd1 (f_X15_isSign 60 w) (fun r9 w10 => br (r9 = 0) (bd1 (f_X15_isSign 62 w10) (fun r11 w12 => br (r11 = 0) (bd1 (f_X15_isSign 61 w12) (fun r13 w14 => br (r13 = 0) (bd1 (f_X15_is 300 w14) (fun r15 w16 => br (r15 = 0) (bd1 (f_X15_is 301 w16) (fun r17 w18 => br (r17 = 0) (br (((-1) : Int32) = (-1)) (some (0, w18)) (sq (pI w18 32 0 9 ((gI w18 32 0 9) + 1)) (fun w19 => bd1 (R w19) (fun r20 w21 => br (r20 = 0) (some (0, w21)) (bd0 (f_X15_put (-1) w21) (fun w22 => some (1, w22))))))) (br ((44 : Int32) = (-1)) (some (0, w18)) (sq (pI w18 32 0 9 ((gI w18 32 0 9) + 1)) (fun w23 => bd1 (R w23) (fun r24 w25 => br (r24 = 0) (some (0, w25)) (bd0 (f_X15_put 44 w25) (fun w26 => some (1, w26))))))))) (br ((43 : Int32) = (-1)) (some (0, w16)) (sq (pI w16 32 0 9 ((gI w16 32 0 9) + 1)) (fun w27 => bd1 (R w27) (fun r28 w29 => br (r28 = 0) (some (0, w29)) (bd0 (f_X15_put 43 w29) (fun w30 => some (1, w30))))))))) (br ((42 : Int32) = (-1)) (some (0, w14)) (sq (pI w14 32 0 9 ((gI w14 32 0 9) + 1)) (fun w31 => bd1 (R w31) (fun r32 w33 => br (r32 = 0) (some (0, w33)) (bd0 (f_X15_put 42 w33) (fun w34 => some (1, w34))))))))) (br ((39 : Int32) = (-1)) (some (0, w12)) (sq (pI w12 32 0 9 ((gI w12 32 0 9) + 1)) (fun w35 => bd1 (R w35) (fun r36 w37 => br (r36 = 0) (some (0, w37)) (bd0 (f_X15_put 39 w37) (fun w38 => some (1, w38))))))))) (br ((38 : Int32) = (-1)) (some (0, w10)) (sq (pI w10 32 0 9 ((gI w10 32 0 9) + 1)) (fun w39 => bd1 (R w39) (fun r40 w41 => br (r40 = 0) (some (0, w41)) (bd0 (f_X15_put 38 w41) (fun w42 => some (1, w42)))))))) = X := by
  have hc : tk a = 40 ∨ tk a = 41 ∨ tk a = 42 ∨ tk a = 43 ∨ tk a = 44 := by omega
  rcases hc with hc | hc | hc | hc | hc
  · rw [hc] at hX
    exact bd1T (b_sT h hk 40 60 (by decide) (by decide) hc) (brF (by decide) (brF (by decide) (sqT hX)))
  · rw [hc] at hX
    exact bd1T (b_sF h hk 40 60 (by decide) (by decide) (by omega)) (brT rfl (bd1T (b_sT h hk 41 62 (by decide) (by decide) hc) (brF (by decide) (brF (by decide) (sqT hX)))))
  · rw [hc] at hX
    exact bd1T (b_sF h hk 40 60 (by decide) (by decide) (by omega)) (brT rfl (bd1T (b_sF h hk 41 62 (by decide) (by decide) (by omega)) (brT rfl (bd1T (b_sT h hk 42 61 (by decide) (by decide) hc) (brF (by decide) (brF (by decide) (sqT hX)))))))
  · rw [hc] at hX
    exact bd1T (b_sF h hk 40 60 (by decide) (by decide) (by omega)) (brT rfl (bd1T (b_sF h hk 41 62 (by decide) (by decide) (by omega)) (brT rfl (bd1T (b_sF h hk 42 61 (by decide) (by decide) (by omega)) (brT rfl (bd1T (b_isT h hk 43 300 (by decide) (by decide) hc) (brF (by decide) (brF (by decide) (sqT hX)))))))))
  · rw [hc] at hX
    exact bd1T (b_sF h hk 40 60 (by decide) (by decide) (by omega)) (brT rfl (bd1T (b_sF h hk 41 62 (by decide) (by decide) (by omega)) (brT rfl (bd1T (b_sF h hk 42 61 (by decide) (by decide) (by omega)) (brT rfl (bd1T (b_isF h hk 43 300 (by decide) (by decide) (by omega)) (brT rfl (bd1T (b_isT h hk 44 301 (by decide) (by decide) hc) (brF (by decide) (brF (by decide) (sqT hX)))))))))))
end RPARSE
