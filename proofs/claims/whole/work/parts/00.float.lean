-- small facts of the double arithmetic
theorem nn_bits {v : UInt64} (h : Jvm.FP.Core.val64 v ≠ Jvm.FP.Core.Datum.nan) : v &&& 0x7fffffffffffffff ≤ 0x7ff0000000000000 := by
  rw [UInt64.le_iff_toNat_le, UInt64.toNat_and]
  rw [show (0x7fffffffffffffff : UInt64).toNat = 2 ^ 63 - 1 by decide, Nat.and_two_pow_sub_one_eq_mod, show (0x7ff0000000000000 : UInt64).toNat = 9218868437227405312 by decide]
  have hv := v.toNat_lt
  unfold Jvm.FP.Core.val64 Jvm.FP.Core.decode at h
  have e1 : Jvm.FP.Core.fieldE Jvm.FP.Core.b64 v.toNat = v.toNat / 4503599627370496 % 2048 := by
    unfold Jvm.FP.Core.fieldE
    rw [show Jvm.FP.Core.Fmt.tails Jvm.FP.Core.b64 = 4503599627370496 by decide, show Jvm.FP.Core.Fmt.exps Jvm.FP.Core.b64 = 2048 by decide]
  have e2 : Jvm.FP.Core.fieldT Jvm.FP.Core.b64 v.toNat = v.toNat % 4503599627370496 := by
    unfold Jvm.FP.Core.fieldT
    rw [show Jvm.FP.Core.Fmt.tails Jvm.FP.Core.b64 = 4503599627370496 by decide]
  rw [e1, e2, show Jvm.FP.Core.Fmt.exps Jvm.FP.Core.b64 = 2048 by decide] at h
  by_cases q : v.toNat / 4503599627370496 % 2048 = 2048 - 1
  · rw [if_pos q] at h
    by_cases q2 : v.toNat % 4503599627370496 = 0
    · omega
    · rw [if_neg q2] at h
      exact (h rfl).elim
  · omega
theorem rr_nn {f : Jvm.FP.Core.Fmt} {s : Bool} {n d : Nat} {e : Int} : Jvm.FP.Core.roundRatio f s n d e ≠ Jvm.FP.Core.Datum.nan := by
  unfold Jvm.FP.Core.roundRatio Jvm.FP.Core.roundAt Jvm.FP.Core.settle Jvm.FP.Core.bound
  split
  · exact fun h => by cases h
  · split <;> split <;> exact fun h => by cases h
theorem i2d_nn (a : Int32) : Jvm.FP.Core.val64 (Jvm.FP.Core.i2d a) ≠ Jvm.FP.Core.Datum.nan := by
  rw [Jvm.FP.Core.val64_i2d]
  exact rr_nn
theorem i2d_r {r : Nat} (h0 : 0 < r) (h : r ≤ 8) : ∃ s c q, c ≠ 0 ∧ Jvm.FP.Core.val64 (Jvm.FP.Core.i2d (nI r)) = Jvm.FP.Core.Datum.fin s c q := by
  have e : r = 1 ∨ r = 2 ∨ r = 3 ∨ r = 4 ∨ r = 5 ∨ r = 6 ∨ r = 7 ∨ r = 8 := by omega
  rcases e with rfl | rfl | rfl | rfl | rfl | rfl | rfl | rfl
  · exact ⟨false, 4503599627370496, -52, by decide, by decide +kernel⟩
  · exact ⟨false, 4503599627370496, -51, by decide, by decide +kernel⟩
  · exact ⟨false, 6755399441055744, -51, by decide, by decide +kernel⟩
  · exact ⟨false, 4503599627370496, -50, by decide, by decide +kernel⟩
  · exact ⟨false, 5629499534213120, -50, by decide, by decide +kernel⟩
  · exact ⟨false, 6755399441055744, -50, by decide, by decide +kernel⟩
  · exact ⟨false, 7881299347898368, -50, by decide, by decide +kernel⟩
  · exact ⟨false, 4503599627370496, -49, by decide, by decide +kernel⟩
theorem div_nn {a : Int32} {r : Nat} (h0 : 0 < r) (h : r ≤ 8) : FP.ddiv (FP.i2d a) (FP.i2d (nI r)) &&& 0x7fffffffffffffff ≤ 0x7ff0000000000000 := by
  refine nn_bits ?_
  show Jvm.FP.Core.val64 (Jvm.FP.Core.ddiv (Jvm.FP.Core.i2d a) (Jvm.FP.Core.i2d (nI r))) ≠ _
  rw [Jvm.FP.Core.val64_ddiv]
  obtain ⟨s, c, q, hc, e⟩ := i2d_r h0 h
  have hn := i2d_nn a
  rw [e]
  cases hx : Jvm.FP.Core.val64 (Jvm.FP.Core.i2d a) with
  | nan => exact (hn hx).elim
  | inf t => unfold Jvm.FP.Core.quotient; exact fun h => by cases h
  | fin t d q' =>
    unfold Jvm.FP.Core.quotient
    simp only
    rw [if_neg hc]
    exact rr_nn
theorem l2d_i2d (a : Int32) : FP.l2d a.toInt64 = FP.i2d a := by
  show Jvm.FP.Core.l2d a.toInt64 = Jvm.FP.Core.i2d a
  unfold Jvm.FP.Core.l2d Jvm.FP.Core.i2d
  rw [Int32.toInt_toInt64]
