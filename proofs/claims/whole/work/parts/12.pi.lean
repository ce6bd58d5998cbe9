-- THE PURE PART: questions (made by genq.py)
theorem z_hushOf {P : Nat → Nat → Mm → Prop} {b t : Nat} {w : Mm} {a : Int32} (hP : Stb P) (hI : Iv P b t w) (ht : t + 1 ≤ 512) : CZ (f_L_hushOf a w) (f_X15_hushOf a) (Iv P b (t + 1)) := by
  obtain ⟨H, R, S, hA, hB, hO, ht0, hb, hp⟩ := id hI
  have h8 := hO.1.1.1
  rcases hcase a (H := H) h8 with ⟨y, hy, rfl⟩ | hi
  · have ha := hA.2.2.1 y hy
    refine cz_get hP hI ht (v := sg S 1 y) ?_ fun z hz => ?_
    · unfold f_L_hushOf f_X12_hushOf
      refine bwT (bxT (a_hN hA h8 hy) (gdT (by simp only [decide_eq_true_eq]; omega) rfl)) (gdT rfl (sqT ?_))
      rw [show gI w 22 y 0 = sg S 1 y from by have := ha.1; rwa [show 8 * 0 + y = y by omega] at this]
      rfl
    · unfold f_X15_hushOf
      have hB' : RB 0 H R S (pZ (pL w 63 0 0 (sg S 1 y).toInt64) z) := hB
      refine bd1T (b_isH hB' h8 hy) (bd1T b_kn1 (brF (by decide) ?_))
      obtain ⟨⟨p1, p2, p3, p4, p5, p6, p7, p8⟩, -⟩ := hB'
      refine gdT p1 (sqT (gdT p2 (gdT ((vB_nI (by omega)).mpr (by omega)) (gdT p3 ?_))))
      rw [nI_clamp (by omega)]
      have e : gI (pI (pZ (pL w 63 0 0 (sg S 1 y).toInt64) z) 32 0 0 0) 45 (gR (pZ (pL w 63 0 0 (sg S 1 y).toInt64) z) 32 0 11 - 1) y = sg S 1 y := by
        rw [gI_pI, if_neg (by omega)]; exact p7 y hy
      exact congrArg some (Prod.ext e rfl)
  · refine cz_thr hP hI ht (c := 1) (by decide) ?_ fun z hz => ?_
    · unfold f_L_hushOf f_X12_hushOf
      exact bwE (bxE (a_hNi hA hi) rfl) (brT rfl rfl)
    · refine ⟨0, pI (pZ w z) 32 0 0 1, ?_, by simp [gI_pI], Or.inl rfl⟩
      unfold f_X15_hushOf
      exact bd1T (b_isHi (show RB 0 H R S (pZ w z) from hB) h8 hi) (bd1T b_kn0 (brT rfl rfl))
theorem z_heardBy {P : Nat → Nat → Mm → Prop} {b t : Nat} {w : Mm} {a : Int32} (hP : Stb P) (hI : Iv P b t w) (ht : t + 1 ≤ 512) : CZ (f_L_heardBy a w) (f_X15_heardBy a) (Iv P b (t + 1)) := by
  obtain ⟨H, R, S, hA, hB, hO, ht0, hb, hp⟩ := id hI
  have h8 := hO.1.1.1
  rcases hcase a (H := H) h8 with ⟨y, hy, rfl⟩ | hi
  · have ha := hA.2.2.1 y hy
    refine cz_get hP hI ht (v := sg S 2 y) ?_ fun z hz => ?_
    · unfold f_L_heardBy f_X12_heardBy
      refine bwT (bxT (a_hN hA h8 hy) (gdT (by simp only [decide_eq_true_eq]; omega) rfl)) (gdT rfl (sqT ?_))
      rw [show gI w 22 y 1 = sg S 2 y from by have := ha.2.1; rwa [show 8 * 0 + y = y by omega] at this]
      rfl
    · unfold f_X15_heardBy
      have hB' : RB 0 H R S (pZ (pL w 63 0 0 (sg S 2 y).toInt64) z) := hB
      refine bd1T (b_isH hB' h8 hy) (bd1T b_kn1 (brF (by decide) ?_))
      refine gdT ((vB_nI (by omega)).mpr (by omega)) ?_
      rw [nI_clamp (by omega)]
      have e : gI (pI (pZ (pL w 63 0 0 (sg S 2 y).toInt64) z) 32 0 0 0) 58 0 y = sg S 2 y := by
        rw [gI_pI, if_neg (by omega)]; exact (hB'.2.2.1 y hy).1
      exact congrArg some (Prod.ext e rfl)
  · refine cz_thr hP hI ht (c := 1) (by decide) ?_ fun z hz => ?_
    · unfold f_L_heardBy f_X12_heardBy
      exact bwE (bxE (a_hNi hA hi) rfl) (brT rfl rfl)
    · refine ⟨0, pI (pZ w z) 32 0 0 1, ?_, by simp [gI_pI], Or.inl rfl⟩
      unfold f_X15_heardBy
      exact bd1T (b_isHi (show RB 0 H R S (pZ w z) from hB) h8 hi) (bd1T b_kn0 (brT rfl rfl))
theorem z_latestOf {P : Nat → Nat → Mm → Prop} {b t : Nat} {w : Mm} {a : Int32} (hP : Stb P) (hI : Iv P b t w) (ht : t + 1 ≤ 512) : CZ (f_L_latestOf a w) (f_X15_latestOf a) (Iv P b (t + 1)) := by
  obtain ⟨H, R, S, hA, hB, hO, ht0, hb, hp⟩ := id hI
  have h8 := hO.1.1.1
  rcases hcase a (H := H) h8 with ⟨y, hy, rfl⟩ | hi
  · have ha := hA.2.2.1 y hy
    refine cz_get hP hI ht (v := sg S 3 y) ?_ fun z hz => ?_
    · unfold f_L_latestOf f_X12_latestOf
      refine bwT (bxT (a_hN hA h8 hy) (gdT (by simp only [decide_eq_true_eq]; omega) rfl)) (gdT rfl (sqT ?_))
      rw [show gI w 22 y 2 = sg S 3 y from by have := ha.2.2.1; rwa [show 8 * 0 + y = y by omega] at this]
      rfl
    · unfold f_X15_latestOf
      have hB' : RB 0 H R S (pZ (pL w 63 0 0 (sg S 3 y).toInt64) z) := hB
      refine bd1T (b_isH hB' h8 hy) (bd1T b_kn1 (brF (by decide) ?_))
      refine gdT ((vB_nI (by omega)).mpr (by omega)) ?_
      rw [nI_clamp (by omega)]
      have e : gI (pI (pZ (pL w 63 0 0 (sg S 3 y).toInt64) z) 32 0 0 0) 59 0 y = sg S 3 y := by
        rw [gI_pI, if_neg (by omega)]; exact (hB'.2.2.1 y hy).2.1
      exact congrArg some (Prod.ext e rfl)
  · refine cz_thr hP hI ht (c := 1) (by decide) ?_ fun z hz => ?_
    · unfold f_L_latestOf f_X12_latestOf
      exact bwE (bxE (a_hNi hA hi) rfl) (brT rfl rfl)
    · refine ⟨0, pI (pZ w z) 32 0 0 1, ?_, by simp [gI_pI], Or.inl rfl⟩
      unfold f_X15_latestOf
      exact bd1T (b_isHi (show RB 0 H R S (pZ w z) from hB) h8 hi) (bd1T b_kn0 (brT rfl rfl))
theorem z_listenersOf {P : Nat → Nat → Mm → Prop} {b t : Nat} {w : Mm} {a : Int32} (hP : Stb P) (hI : Iv P b t w) (ht : t + 1 ≤ 512) : CZ (f_L_listenersOf a w) (f_X15_listenersOf a) (Iv P b (t + 1)) := by
  obtain ⟨H, R, S, hA, hB, hO, ht0, hb, hp⟩ := id hI
  have h8 := hO.1.1.1
  rcases hcase a (H := H) h8 with ⟨y, hy, rfl⟩ | hi
  · have ha := hA.2.2.1 y hy
    refine cz_get hP hI ht (v := nI (sr S y).length) ?_ fun z hz => ?_
    · unfold f_L_listenersOf f_X12_listenersOf
      refine bwT (bxT (a_hN hA h8 hy) (gdT (by simp only [decide_eq_true_eq]; omega) rfl)) (gdT rfl (sqT ?_))
      rw [show gI w 22 y 3 = nI (sr S y).length from by have := ha.2.2.2.1; rwa [show 8 * 0 + y = y by omega] at this]
      rfl
    · unfold f_X15_listenersOf
      have hB' : RB 0 H R S (pZ (pL w 63 0 0 (nI (sr S y).length).toInt64) z) := hB
      refine bd1T (b_isH hB' h8 hy) (bd1T b_kn1 (brF (by decide) ?_))
      refine gdT ((vB_nI (by omega)).mpr (by omega)) ?_
      rw [nI_clamp (by omega)]
      have e : gI (pI (pZ (pL w 63 0 0 (nI (sr S y).length).toInt64) z) 32 0 0 0) 57 0 y = nI (sr S y).length := by
        rw [gI_pI, if_neg (by omega)]; exact (hB'.2.2.1 y hy).2.2.1
      exact congrArg some (Prod.ext e rfl)
  · refine cz_thr hP hI ht (c := 1) (by decide) ?_ fun z hz => ?_
    · unfold f_L_listenersOf f_X12_listenersOf
      exact bwE (bxE (a_hNi hA hi) rfl) (brT rfl rfl)
    · refine ⟨0, pI (pZ w z) 32 0 0 1, ?_, by simp [gI_pI], Or.inl rfl⟩
      unfold f_X15_listenersOf
      exact bd1T (b_isHi (show RB 0 H R S (pZ w z) from hB) h8 hi) (bd1T b_kn0 (brT rfl rfl))
theorem z_patienceOf {P : Nat → Nat → Mm → Prop} {b t : Nat} {w : Mm} {a : Int32} (hP : Stb P) (hI : Iv P b t w) (ht : t + 1 ≤ 512) : CZ (f_L_patienceOf a w) (f_X15_patienceOf a) (Iv P b (t + 1)) := by
  obtain ⟨H, R, S, hA, hB, hO, ht0, hb, hp⟩ := id hI
  have h8 := hO.1.1.2.1
  rcases hcase a (H := R) h8 with ⟨y, hy, rfl⟩ | hi
  · have ha := hA.2.2.2 y hy
    refine cz_get hP hI ht (v := sg S 4 y) ?_ fun z hz => ?_
    · unfold f_L_patienceOf f_X12_patienceOf
      refine bwT (bxT (a_rN hA h8 hy) (gdT (by simp only [decide_eq_true_eq]; omega) rfl)) (gdT rfl (sqT ?_))
      rw [show gI w 24 y 0 = sg S 4 y from by have := ha.1; rwa [show 8 * 0 + y = y by omega] at this]
      rfl
    · unfold f_X15_patienceOf
      have hB' : RB 0 H R S (pZ (pL w 63 0 0 (sg S 4 y).toInt64) z) := hB
      refine bd1T (b_isR hB' h8 hy) (bd1T b_kn1 (brF (by decide) ?_))
      obtain ⟨⟨p1, p2, p3, p4, p5, p6, p7, p8⟩, -⟩ := hB'
      refine gdT p1 (sqT (gdT p2 (gdT ((vB_nI (by omega)).mpr (by omega)) (gdT p4 ?_))))
      rw [nI_clamp (by omega)]
      have e : gI (pI (pZ (pL w 63 0 0 (sg S 4 y).toInt64) z) 32 0 0 0) 46 (gR (pZ (pL w 63 0 0 (sg S 4 y).toInt64) z) 32 0 11 - 1) y = sg S 4 y := by
        rw [gI_pI, if_neg (by omega)]; exact p8 y hy
      exact congrArg some (Prod.ext e rfl)
  · refine cz_thr hP hI ht (c := 1) (by decide) ?_ fun z hz => ?_
    · unfold f_L_patienceOf f_X12_patienceOf
      exact bwE (bxE (a_rNi hA hi) rfl) (brT rfl rfl)
    · refine ⟨0, pI (pZ w z) 32 0 0 1, ?_, by simp [gI_pI], Or.inl rfl⟩
      unfold f_X15_patienceOf
      exact bd1T (b_isRi (show RB 0 H R S (pZ w z) from hB) h8 hi) (bd1T b_kn0 (brT rfl rfl))
theorem z_petalsOf {P : Nat → Nat → Mm → Prop} {b t : Nat} {w : Mm} {a : Int32} (hP : Stb P) (hI : Iv P b t w) (ht : t + 1 ≤ 512) : CZ (f_L_petalsOf a w) (f_X15_petalsOf a) (Iv P b (t + 1)) := by
  obtain ⟨H, R, S, hA, hB, hO, ht0, hb, hp⟩ := id hI
  have h8 := hO.1.1.2.1
  rcases hcase a (H := R) h8 with ⟨y, hy, rfl⟩ | hi
  · have ha := hA.2.2.2 y hy
    refine cz_get hP hI ht (v := sg S 5 y) ?_ fun z hz => ?_
    · unfold f_L_petalsOf f_X12_petalsOf
      refine bwT (bxT (a_rN hA h8 hy) (gdT (by simp only [decide_eq_true_eq]; omega) rfl)) (gdT rfl (sqT ?_))
      rw [show gI w 24 y 1 = sg S 5 y from by have := ha.2.1; rwa [show 8 * 0 + y = y by omega] at this]
      rfl
    · unfold f_X15_petalsOf
      have hB' : RB 0 H R S (pZ (pL w 63 0 0 (sg S 5 y).toInt64) z) := hB
      refine bd1T (b_isR hB' h8 hy) (bd1T b_kn1 (brF (by decide) ?_))
      refine gdT ((vB_nI (by omega)).mpr (by omega)) ?_
      rw [nI_clamp (by omega)]
      have e : gI (pI (pZ (pL w 63 0 0 (sg S 5 y).toInt64) z) 32 0 0 0) 60 0 y = sg S 5 y := by
        rw [gI_pI, if_neg (by omega)]; exact (hB'.2.2.2 y hy).1
      exact congrArg some (Prod.ext e rfl)
  · refine cz_thr hP hI ht (c := 1) (by decide) ?_ fun z hz => ?_
    · unfold f_L_petalsOf f_X12_petalsOf
      exact bwE (bxE (a_rNi hA hi) rfl) (brT rfl rfl)
    · refine ⟨0, pI (pZ w z) 32 0 0 1, ?_, by simp [gI_pI], Or.inl rfl⟩
      unfold f_X15_petalsOf
      exact bd1T (b_isRi (show RB 0 H R S (pZ w z) from hB) h8 hi) (bd1T b_kn0 (brT rfl rfl))
theorem z_countOf {P : Nat → Nat → Mm → Prop} {b t : Nat} {w : Mm} {a : Int32} (hP : Stb P) (hI : Iv P b t w) (ht : t + 1 ≤ 512) : CZ (f_L_countOf a w) (f_X15_countOf a) (Iv P b (t + 1)) := by
  obtain ⟨H, R, S, hA, hB, hO, ht0, hb, hp⟩ := id hI
  have h8 := hO.1.1.2.1
  rcases hcase a (H := R) h8 with ⟨y, hy, rfl⟩ | hi
  · have ha := hA.2.2.2 y hy
    refine cz_get hP hI ht (v := sg S 6 y) ?_ fun z hz => ?_
    · unfold f_L_countOf f_X12_countOf
      refine bwT (bxT (a_rN hA h8 hy) (gdT (by simp only [decide_eq_true_eq]; omega) rfl)) (gdT rfl (sqT ?_))
      rw [show gI w 24 y 2 = sg S 6 y from by have := ha.2.2.1; rwa [show 8 * 0 + y = y by omega] at this]
      rfl
    · unfold f_X15_countOf
      have hB' : RB 0 H R S (pZ (pL w 63 0 0 (sg S 6 y).toInt64) z) := hB
      refine bd1T (b_isR hB' h8 hy) (bd1T b_kn1 (brF (by decide) ?_))
      refine gdT ((vB_nI (by omega)).mpr (by omega)) ?_
      rw [nI_clamp (by omega)]
      have e : gI (pI (pZ (pL w 63 0 0 (sg S 6 y).toInt64) z) 32 0 0 0) 61 0 y = sg S 6 y := by
        rw [gI_pI, if_neg (by omega)]; exact (hB'.2.2.2 y hy).2.1
      exact congrArg some (Prod.ext e rfl)
  · refine cz_thr hP hI ht (c := 1) (by decide) ?_ fun z hz => ?_
    · unfold f_L_countOf f_X12_countOf
      exact bwE (bxE (a_rNi hA hi) rfl) (brT rfl rfl)
    · refine ⟨0, pI (pZ w z) 32 0 0 1, ?_, by simp [gI_pI], Or.inl rfl⟩
      unfold f_X15_countOf
      exact bd1T (b_isRi (show RB 0 H R S (pZ w z) from hB) h8 hi) (bd1T b_kn0 (brT rfl rfl))
