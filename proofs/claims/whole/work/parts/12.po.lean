-- THE PURE PART: sums of petals, the best hedge
theorem sum_b {B : Int} {f : Nat → Int32} (hB0 : 0 ≤ B) : ∀ n, (∀ r, r < n → 0 ≤ (f r).toInt ∧ (f r).toInt ≤ B) → n ≤ 8 → 8 * B < 2147483648 → 0 ≤ (sumI n f).toInt ∧ (sumI n f).toInt ≤ n * B
  | 0, _, _, _ => by
    have e := i_0
    show 0 ≤ (0 : Int32).toInt ∧ (0 : Int32).toInt ≤ ((0 : Nat) : Int) * B
    rw [e]; omega
  | n + 1, h, hn, hb => by
    have ih := sum_b hB0 n (fun r hr => h r (by omega)) (by omega) hb
    have h1 := h n (by omega)
    have hnB : (n : Int) * B ≤ 7 * B := Int.mul_le_mul_of_nonneg_right (by omega) hB0
    have e : ((n + 1 : Nat) : Int) * B = n * B + B := by rw [Int.natCast_add, Int.add_mul]; simp
    show 0 ≤ (sumI n f + f n).toInt ∧ (sumI n f + f n).toInt ≤ _
    rw [e, i_add (by omega) (by omega)]
    omega
theorem i64_add {a b : Int32} (h1 : -2147483648 ≤ a.toInt + b.toInt) (h2 : a.toInt + b.toInt < 2147483648) : (a + b).toInt64 = a.toInt64 + b.toInt64 := by
  refine Int64.toInt_inj.mp ?_
  have e1 := i_add h1 h2
  rw [Int64.toInt_add, Int32.toInt_toInt64, Int32.toInt_toInt64, Int32.toInt_toInt64, e1, Int.bmod_eq_of_le] <;> omega
theorem a_sumP {B : Int} {g H R : Nat} {S : Gs} {w : Mm} (hg : g < 2) (hB0 : 0 ≤ B) (hB : 8 * B < 2147483648) (hA : RA g H R S w) (hR : R ≤ 8) (hp : ∀ r, r < R → 0 ≤ (sg S 5 r).toInt ∧ (sg S 5 r).toInt ≤ B) : ∀ (d i n : Nat), i + d = R → d < n → f_X1_petalsInAll_L4 g n (nI i) (sumI i (sg S 5)).toInt64 w = some ((sumI R (sg S 5)).toInt64, w)
  | 0, i, n + 1, e, hn => by
    have e : i = R := by omega
    subst e
    rw [f_X1_petalsInAll_L4, hA.1.2]
    exact brT (nI_le (Nat.le_refl _) (by omega)) rfl
  | d + 1, i, n + 1, e, hn => by
    have ih := a_sumP hg hB0 hB hA hR hp d (i + 1) n (by omega) (by omega)
    have hs := sum_b hB0 i (fun r hr => hp r (by omega)) (by omega) hB
    have h1 := hp i (by omega)
    have hnB : (i : Int) * B ≤ 7 * B := Int.mul_le_mul_of_nonneg_right (by omega) hB0
    rw [show sumI (i + 1) (sg S 5) = sumI i (sg S 5) + sg S 5 i from rfl, i64_add (by omega) (by omega)] at ih
    rw [f_X1_petalsInAll_L4, hA.1.2]
    refine brF (nI_ge (by omega) (by omega)) (bd1T (a_petalsAt hg hA hR (by omega)) (sqT (sqT ?_)))
    rw [nI_1]
    exact ih
theorem a_sumP' {B : Int} {g H R : Nat} {S : Gs} {w : Mm} (hg : g < 2) (hB0 : 0 ≤ B) (hB : 8 * B < 2147483648) (hA : RA g H R S w) (hR : R ≤ 8) (hp : ∀ r, r < R → 0 ≤ (sg S 5 r).toInt ∧ (sg S 5 r).toInt ≤ B) : f_X1_petalsInAll g w = some ((sumI R (sg S 5)).toInt64, w) := by
  unfold f_X1_petalsInAll
  exact bd1T (a_sumP hg hB0 hB hA hR hp R 0 LF (by omega) (by unfold LF; omega)) rfl
theorem b_sumP {k H R : Nat} {S : Gs} {w : Mm} (hB : RB k H R S w) (hR : R ≤ 8) : ∀ (d i n : Nat), i + d = R → d < n → f_X14_allPetals_L4 k n (nI i) (sumI i (sg S 5)) w = some (sumI R (sg S 5), w)
  | 0, i, n + 1, e, hn => by
    obtain ⟨⟨p1, p2, p3, p4, p5, p6, p7, p8⟩, b0, c0, d0⟩ := id hB
    have e : i = R := by omega
    subst e
    rw [f_X14_allPetals_L4]
    refine gdT p1 (sqT (gdT p2 ?_))
    rw [p6]
    exact brT (nI_le (Nat.le_refl _) (by omega)) rfl
  | d + 1, i, n + 1, e, hn => by
    obtain ⟨⟨p1, p2, p3, p4, p5, p6, p7, p8⟩, b0, c0, d0⟩ := id hB
    have ih := b_sumP hB hR d (i + 1) n (by omega) (by omega)
    rw [f_X14_allPetals_L4]
    refine gdT p1 (sqT (gdT p2 ?_))
    rw [p6]
    refine brF (nI_ge (by omega) (by omega)) (gdT ((vB_nI (by omega)).mpr (by omega)) ?_)
    rw [nI_clamp (by omega), (d0 i (by omega)).1, nI_1]
    exact sqT (sqT ih)
theorem b_sumP' {k H R : Nat} {S : Gs} {w : Mm} (hB : RB k H R S w) (hR : R ≤ 8) : f_X14_allPetals k w = some (sumI R (sg S 5), w) := by
  unfold f_X14_allPetals
  exact bd1T (b_sumP hB hR R 0 LF (by omega) (by unfold LF; omega)) rfl
def bst (S : Gs) (R : Nat) (l : Int32) : Nat → Int32 × Int32
  | 0 => (-1, -1)
  | n + 1 => if sumI R (sg (sNews S n l) 5) ≤ (bst S R l n).2 then bst S R l n else (nI n, sumI R (sg (sNews S n l) 5))
theorem le64 {a b : Int32} : a.toInt64 ≤ b.toInt64 ↔ a ≤ b := by
  rw [Int64.le_iff_toInt_le, Int32.le_iff_toInt_le, Int32.toInt_toInt64, Int32.toInt_toInt64]
theorem a_best {B : Int} {H R : Nat} {l : Int32} {S : Gs} (hB0 : 0 ≤ B) (hB : 8 * (B + 784) < 2147483648) (hO : OK B H R S) (hl : 1 ≤ l.toInt ∧ l.toInt ≤ 99) : ∀ (d i n : Nat) (w : Mm), i + d = H → d < n → RA 0 H R S w → ∃ w', f_X12_bestToTell_L13 l n (nI i) (bst S R l i).2.toInt64 (bst S R l i).1 w = some ((bst S R l H).1, w') ∧ RA 0 H R S w' ∧ UA 1 w w'
  | 0, i, n + 1, w, e, hn, hA => by
    have hH := hO.1.1.1
    have e : i = H := by omega
    subst e
    refine ⟨w, ?_, hA, UA_rf⟩
    rw [f_X12_bestToTell_L13, hA.1.1]
    exact brT (nI_le (Nat.le_refl _) (by omega)) rfl
  | d + 1, i, n + 1, w, e, hn, hA => by
    have hH := hO.1.1.1
    have hR := hO.1.1.2.1
    obtain ⟨w1, k1, a1, a2, a3, a4, a5, a6⟩ := p_X12_try (h := i) (by omega) hO hA (by omega) hl
    have hok := ok_news a4
    have hs := a_sumP' (g := 1) (by omega) (by omega) hB a2 hR hok.2
    obtain ⟨w', h1, h2, h3⟩ := a_best hB0 hB hO hl d (i + 1) n w1 (by omega) (by omega) a6
    refine ⟨w', ?_, h2, UA_tr a5 h3⟩
    rw [f_X12_bestToTell_L13, hA.1.1]
    refine brF (nI_ge (by omega) (by omega)) (bd0T a1 (bd1T hs ?_))
    rw [show bst S R l (i + 1) = if sumI R (sg (sNews S i l) 5) ≤ (bst S R l i).2 then bst S R l i else (nI i, sumI R (sg (sNews S i l) 5)) from rfl] at h1
    by_cases q : sumI R (sg (sNews S i l) 5) ≤ (bst S R l i).2
    · rw [if_pos q] at h1
      refine brT ((lg_cmp_le _ _).mpr (le64.mpr q)) (sqT ?_)
      rw [nI_1]; exact h1
    · rw [if_neg q] at h1
      refine brF (fun q' => q (le64.mp ((lg_cmp_le _ _).mp q'))) (sqT ?_)
      rw [nI_1]; exact h1
theorem b_best {B : Int} {b H R : Nat} {l : Int32} {S : Gs} (hB : B + 784 < 2147483648) (hO : OK B H R S) (hl : 1 ≤ l.toInt ∧ l.toInt ≤ 99) : ∀ (d i n : Nat) (w : Mm), i + d = H → d < n → RB 0 H R S w → BtB b w → ∃ w', f_X15_best_L7 b l n (nI i) (bst S R l i).2 (bst S R l i).1 w = some ((bst S R l H).1, w') ∧ RB 0 H R S w' ∧ UB 1 w w'
  | 0, i, n + 1, w, e, hn, hA, hb => by
    obtain ⟨⟨p1, p2, p3, p4, p5, p6, p7, p8⟩, -⟩ := id hA
    have hH := hO.1.1.1
    have e : i = H := by omega
    subst e
    refine ⟨w, ?_, hA, UB_rf⟩
    rw [f_X15_best_L7]
    refine gdT p1 (sqT (gdT p2 ?_))
    rw [p5]
    exact brT (nI_le (Nat.le_refl _) (by omega)) rfl
  | d + 1, i, n + 1, w, e, hn, hA, hb => by
    obtain ⟨⟨p1, p2, p3, p4, p5, p6, p7, p8⟩, -⟩ := id hA
    have hH := hO.1.1.1
    have hR := hO.1.1.2.1
    obtain ⟨u, w1, k1, a0, a1, a2, a3, a4, a5⟩ := p_X15_try (h := i) hB hO hb hA (by omega) hl
    have hs := b_sumP' a2 hR
    obtain ⟨w', h1, h2, h3⟩ := b_best (b := b) hB hO hl d (i + 1) n w1 (by omega) (by omega) a5 (fun c k q => by rw [gS_2 a4.2]; exact hb c k q)
    refine ⟨w', ?_, h2, UB_tr a4 h3⟩
    rw [f_X15_best_L7]
    refine gdT p1 (sqT (gdT p2 ?_))
    rw [p5]
    refine brF (nI_ge (by omega) (by omega)) (bd1T a0 (gdT rfl (bd1T a1 (bd1T hs ?_))))
    rw [show bst S R l (i + 1) = if sumI R (sg (sNews S i l) 5) ≤ (bst S R l i).2 then bst S R l i else (nI i, sumI R (sg (sNews S i l) 5)) from rfl] at h1
    by_cases q : sumI R (sg (sNews S i l) 5) ≤ (bst S R l i).2
    · rw [if_pos q] at h1
      refine brF (Int32.not_lt.mpr q) (sqT ?_)
      rw [nI_1]; exact h1
    · rw [if_neg q] at h1
      refine brT (Int32.not_le.mp q) (bd1T hs (sqT ?_))
      rw [nI_1]; exact h1
theorem a_best' {B : Int} {H R : Nat} {l : Int32} {S : Gs} {w : Mm} (hB0 : 0 ≤ B) (hB : 8 * (B + 784) < 2147483648) (hO : OK B H R S) (hl : 1 ≤ l.toInt ∧ l.toInt ≤ 99) (hA : RA 0 H R S w) : ∃ w', f_X12_bestToTell l w = some (.inr (bst S R l H).1, w') ∧ RA 0 H R S w' ∧ UA 1 w w' := by
  have hH := hO.1.1.1
  obtain ⟨w', h1, h2, h3⟩ := a_best hB0 hB hO hl H 0 LF w (by omega) (by unfold LF; omega) hA
  refine ⟨w', ?_, h2, h3⟩
  unfold f_X12_bestToTell
  exact bxT (a_nL hl) (bd1T h1 rfl)
theorem b_best' {B : Int} {b H R : Nat} {l : Int32} {S : Gs} {w : Mm} (hB : B + 784 < 2147483648) (hO : OK B H R S) (hl : 1 ≤ l.toInt ∧ l.toInt ≤ 99) (hA : RB 0 H R S w) (hb : BtB b w) : ∃ w', f_X15_best b l w = some ((bst S R l H).1, w') ∧ RB 0 H R S w' ∧ UB 1 w w' := by
  have hH := hO.1.1.1
  obtain ⟨w', h1, h2, h3⟩ := b_best hB hO hl H 0 LF w (by omega) (by unfold LF; omega) hA hb
  refine ⟨w', ?_, h2, h3⟩
  unfold f_X15_best
  exact bd1T h1 rfl
theorem z_bestToTell {P : Nat → Nat → Mm → Prop} {b t : Nat} {w : Mm} {l : Int32} (hP : Stb P) (hI : Iv P b t w) (ht : t + 1 ≤ 512) : CZ (f_L_bestToTell l w) (f_X15_bestToTell b l) (Iv P b (t + 1)) := by
  obtain ⟨H, R, S, hA, hB, hO, ht0, hb, hp⟩ := id hI
  have hR := hO.1.1.2.1
  have hH := hO.1.1.1
  rcases lcase l with hl | hl
  · obtain ⟨w1, a1, a2, a3⟩ := a_best' (by omega) (by omega) hO hl hA
    refine cz_mv (w1 := w1) (S' := S) (v := (bst S R l H).1) hP ht hb hp ?_ (eqr_UA a3) a2 (ok_mono hO (by omega)) fun z hz => ?_
    · unfold f_L_bestToTell
      exact bwT a1 (gdT rfl rfl)
    · have hB1 : RB 0 H R S (pZ (pL w1 63 0 0 ((bst S R l H).1).toInt64) z) := (rb_UA a3 hB : RB 0 H R S w1)
      have hB2 := rb_o (c := 32) (k := 0) (i := 0) (v := 0) hB1 (by omega)
      have hE2 := eqr_tr (eqr_tr (eqr_tr (eqr_UA a3) (eqr_pL (w := w1) (k := 0) (i := 0) (v := ((bst S R l H).1).toInt64))) (eqr_pZ hz)) (eqr_pI (c := 32) (k := 0) (i := 0) (v := 0) (by omega))
      obtain ⟨w2, b1, b2, b3⟩ := b_best' (by omega) hO hl hB2 (bt_eqr hb hE2).1
      refine ⟨w2, ?_, ?_, b2, fun c k i q => ?_, eqr_tr (eqr_pI (by omega)) (eqr_UB b3), b3.2⟩
      · unfold f_X15_bestToTell
        exact sqT (bd1T (b_isIn (l_ge hl.1) (l_le hl.2)) (brF (by decide) (bd1T b1 rfl)))
      · rw [ub32 b3]; simp [gI_pI]
      · rw [b3.1 _ _ _ (by unfold ownB; omega), gI_pI, if_neg (by omega)]
  · refine cz_thr hP hI ht (c := 1) (by decide) ?_ fun z hz => ?_
    · unfold f_L_bestToTell f_X12_bestToTell
      exact bwE (bxE (a_nLi hl) rfl) (brT rfl rfl)
    · refine ⟨0, _, ?_, by simp [gI_pI], Or.inr ⟨0, rfl⟩⟩
      unfold f_X15_bestToTell
      exact sqT (bd1T (b_isIn0 hl) (brT rfl (bd1T b_no rfl)))
