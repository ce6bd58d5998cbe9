-- THE PURE PART: more questions
theorem cn_get {P : Nat → Nat → Mm → Prop} {b t : Nat} {w : Mm} {eL : Option (Int32 × Mm)} {eM : Mm → Option (Int32 × Mm)} {v : Int32} (hP : Stb P) (hI : Iv P b t w) (ht : t + 1 ≤ 512) (h1 : eL = some (v, w)) (h2 : eM w = some (v, pI w 32 0 0 0)) : CN eL eM (Iv P b (t + 1)) := by
  refine ⟨v, w, _, h1, h2, ?_⟩
  obtain ⟨H, R, S, hA, hB, hO, -, hb, hp⟩ := hI
  have hE : EqR w (pI w 32 0 0 0) := eqr_pI (by omega)
  exact ⟨H, R, S, ra_o hA hO.1.1.1 hO.1.1.2.1 (by omega), rb_o hB (by omega), ok_mono hO (by omega), ht, bt_eqr hb hE, hP _ _ _ _ hE hp⟩
theorem b_ok {a : Int32} {w : Mm} : f_X15_ok a w = some (a, pI w 32 0 0 0) := rfl
theorem z_errorAt {P : Nat → Nat → Mm → Prop} {b t : Nat} {w : Mm} (hP : Stb P) (hI : Iv P b t w) (ht : t + 1 ≤ 512) (he : ∀ H R w, P H R w → gI w 1 0 10 = gI w 32 0 3) : CN (f_X12_errorAt w) f_X15_errorAt (Iv P b (t + 1)) := by
  obtain ⟨H, R, S, hA, hB, hO, ht0, hb, hp⟩ := id hI
  refine cn_get hP hI ht (v := gI w 32 0 3) ?_ ?_
  · unfold f_X12_errorAt; rw [he _ _ _ hp]
  · unfold f_X15_errorAt; exact bd1T b_ok rfl
theorem z_hedges {P : Nat → Nat → Mm → Prop} {b t : Nat} {w : Mm} (hP : Stb P) (hI : Iv P b t w) (ht : t + 1 ≤ 512) : CN (f_X12_hedges w) f_X15_hedges (Iv P b (t + 1)) := by
  obtain ⟨H, R, S, hA, hB, hO, ht0, hb, hp⟩ := id hI
  obtain ⟨⟨p1, p2, p3, p4, p5, p6, p7, p8⟩, -⟩ := hB
  refine cn_get hP hI ht (v := nI H) ?_ ?_
  · unfold f_X12_hedges; rw [hA.1.1]
  · unfold f_X15_hedges; refine gdT p1 (sqT (gdT p2 (bd1T b_ok ?_))); rw [p5]
theorem z_roses {P : Nat → Nat → Mm → Prop} {b t : Nat} {w : Mm} (hP : Stb P) (hI : Iv P b t w) (ht : t + 1 ≤ 512) : CN (f_X12_roses w) f_X15_roses (Iv P b (t + 1)) := by
  obtain ⟨H, R, S, hA, hB, hO, ht0, hb, hp⟩ := id hI
  obtain ⟨⟨p1, p2, p3, p4, p5, p6, p7, p8⟩, -⟩ := hB
  refine cn_get hP hI ht (v := nI R) ?_ ?_
  · unfold f_X12_roses; rw [hA.1.2]
  · unfold f_X15_roses; refine gdT p1 (sqT (gdT p2 (bd1T b_ok ?_))); rw [p6]
theorem z_day {P : Nat → Nat → Mm → Prop} {b t : Nat} {w : Mm} (hP : Stb P) (hI : Iv P b t w) (ht : t + 1 ≤ 512) : CN (f_X12_day w) f_X15_day (Iv P b (t + 1)) := by
  obtain ⟨H, R, S, hA, hB, hO, ht0, hb, hp⟩ := id hI
  refine cn_get hP hI ht (v := sg S 0 0) ?_ ?_
  · unfold f_X12_day; rw [hA.2.1.1]
  · unfold f_X15_day; rw [hB.2.1.1]; exact bd1T b_ok rfl
theorem z_ordersCarriedOut {P : Nat → Nat → Mm → Prop} {b t : Nat} {w : Mm} (hP : Stb P) (hI : Iv P b t w) (ht : t + 1 ≤ 512) : CN (f_X12_ordersCarriedOut w) f_X15_ordersCarriedOut (Iv P b (t + 1)) := by
  obtain ⟨H, R, S, hA, hB, hO, ht0, hb, hp⟩ := id hI
  refine cn_get hP hI ht (v := sg S 0 1) ?_ ?_
  · unfold f_X12_ordersCarriedOut; rw [hA.2.1.2.1]
  · unfold f_X15_ordersCarriedOut; rw [hB.2.1.2.1]; exact bd1T b_ok rfl
theorem z_whispers {P : Nat → Nat → Mm → Prop} {b t : Nat} {w : Mm} (hP : Stb P) (hI : Iv P b t w) (ht : t + 1 ≤ 512) : CN (f_X12_whispers w) f_X15_whispers (Iv P b (t + 1)) := by
  obtain ⟨H, R, S, hA, hB, hO, ht0, hb, hp⟩ := id hI
  refine cn_get hP hI ht (v := sg S 0 2) ?_ ?_
  · unfold f_X12_whispers; rw [hA.2.1.2.2.1]
  · unfold f_X15_whispers; rw [hB.2.1.2.2.1]; exact bd1T b_ok rfl
theorem z_cycles {P : Nat → Nat → Mm → Prop} {b t : Nat} {w : Mm} (hP : Stb P) (hI : Iv P b t w) (ht : t + 1 ≤ 512) : CN (f_X12_cycles w) f_X15_cycles (Iv P b (t + 1)) := by
  obtain ⟨H, R, S, hA, hB, hO, ht0, hb, hp⟩ := id hI
  refine cn_get hP hI ht (v := sg S 0 3) ?_ ?_
  · unfold f_X12_cycles; rw [hA.2.1.2.2.2.1]
  · unfold f_X15_cycles; rw [hB.2.1.2.2.2]; exact bd1T b_ok rfl
theorem b_allLeft {k H R : Nat} {S : Gs} {w : Mm} (hB : RB k H R S w) (hR : R ≤ 8) : ∀ (d i n : Nat), i + d = R → d < n → f_X14_allLeft_L4 k n (nI i) (sumI i (sg S 7)) w = some (sumI R (sg S 7), w)
  | 0, i, n + 1, e, hn => by
    obtain ⟨⟨p1, p2, p3, p4, p5, p6, p7, p8⟩, b0, c0, d0⟩ := id hB
    have e : i = R := by omega
    subst e
    rw [f_X14_allLeft_L4]
    refine gdT p1 (sqT (gdT p2 ?_))
    rw [p6]
    exact brT (nI_le (Nat.le_refl _) (by omega)) rfl
  | d + 1, i, n + 1, e, hn => by
    obtain ⟨⟨p1, p2, p3, p4, p5, p6, p7, p8⟩, b0, c0, d0⟩ := id hB
    have ih := b_allLeft hB hR d (i + 1) n (by omega) (by omega)
    rw [f_X14_allLeft_L4]
    refine gdT p1 (sqT (gdT p2 ?_))
    rw [p6]
    refine brF (nI_ge (by omega) (by omega)) (gdT ((vB_nI (by omega)).mpr (by omega)) ?_)
    rw [nI_clamp (by omega), (d0 i (by omega)).2.2, nI_1]
    exact sqT (sqT ih)
theorem b_allLeft' {k H R : Nat} {S : Gs} {w : Mm} (hB : RB k H R S w) (hR : R ≤ 8) : f_X14_allLeft k w = some (sumI R (sg S 7), w) := by
  unfold f_X14_allLeft
  exact bd1T (b_allLeft hB hR R 0 LF (by omega) (by unfold LF; omega)) rfl
theorem z_departures {P : Nat → Nat → Mm → Prop} {b t : Nat} {w : Mm} (hP : Stb P) (hI : Iv P b t w) (ht : t + 1 ≤ 512) : CN (f_X12_departures w) f_X15_departures (Iv P b (t + 1)) := by
  obtain ⟨H, R, S, hA, hB, hO, ht0, hb, hp⟩ := id hI
  refine cn_get hP hI ht (v := sg S 0 4) ?_ ?_
  · unfold f_X12_departures; rw [hA.2.1.2.2.2.2]
  · unfold f_X15_departures; rw [hO.1.2.2.2]; exact bd1T (b_allLeft' hB hO.1.1.2.1) (bd1T b_ok rfl)
-- the fullest rose
def fl (S : Gs) : Nat → Option Nat
  | 0 => none
  | n + 1 => match fl S n with
    | none => some n
    | some j => if sg S 5 n ≤ sg S 5 j then some j else some n
def oI : Option Nat → Int32
  | none => -1
  | some j => nI j
theorem fl_lt {S : Gs} : ∀ {n j : Nat}, fl S n = some j → j < n
  | 0, j, h => by cases h
  | n + 1, j, h => by
    unfold fl at h
    cases e : fl S n with
    | none => rw [e] at h; cases h; omega
    | some i =>
      rw [e] at h
      have := fl_lt e
      simp only at h
      split at h <;> cases h <;> omega
theorem fl_some {S : Gs} {n : Nat} (h : 0 < n) : ∃ j, fl S n = some j := by
  obtain ⟨m, rfl⟩ : ∃ m, n = m + 1 := ⟨n - 1, by omega⟩
  unfold fl
  cases fl S m with
  | none => exact ⟨_, rfl⟩
  | some i => simp only; split <;> exact ⟨_, rfl⟩
theorem a_petalsAt {g H R r : Nat} {S : Gs} {w : Mm} (hg : g < 2) (hA : RA g H R S w) (hR : R ≤ 8) (hr : r < R) : f_X1_petalsAt g (nI r) w = some (sg S 5 r, w) := by
  unfold f_X1_petalsAt
  refine bd1T (p_X1_rose hA hR hr) ?_
  refine gdT (by simp only [decide_eq_true_eq]; omega) ?_
  rw [(hA.2.2.2 r hr).2.1]
theorem a_full {g H R : Nat} {S : Gs} {w : Mm} (hg : g < 2) (hA : RA g H R S w) (hR : R ≤ 8) (hp : ∀ r, r < R → 0 ≤ (sg S 5 r).toInt) : ∀ (d i n : Nat), i + d = R → d < n → f_X1_fullestRose_L6 g n (nI i) (match fl S i with | none => -1 | some j => sg S 5 j) (oI (fl S i)) w = some (oI (fl S R), w)
  | 0, i, n + 1, e, hn => by
    have e : i = R := by omega
    subst e
    rw [f_X1_fullestRose_L6, hA.1.2]
    exact brT (nI_le (Nat.le_refl _) (by omega)) rfl
  | d + 1, i, n + 1, e, hn => by
    have ih := a_full hg hA hR hp d (i + 1) n (by omega) (by omega)
    have hpa := a_petalsAt hg hA hR (r := i) (by omega)
    rw [f_X1_fullestRose_L6, hA.1.2]
    refine brF (nI_ge (by omega) (by omega)) (bd1T hpa ?_)
    cases q : fl S i with
    | none =>
      have q1 : fl S (i + 1) = some i := by unfold fl; rw [q]
      rw [q1] at ih
      refine brF ?_ (bd1T hpa (sqT ?_))
      · rw [Int32.le_iff_toInt_le, show (-1 : Int32).toInt = -1 by decide]
        have := hp i (by omega)
        omega
      · rw [nI_1]; exact ih
    | some j =>
      by_cases e : sg S 5 i ≤ sg S 5 j
      · have q1 : fl S (i + 1) = some j := by unfold fl; rw [q]; simp only; rw [if_pos e]
        rw [q1] at ih
        refine brT e (sqT ?_)
        rw [nI_1]; exact ih
      · have q1 : fl S (i + 1) = some i := by unfold fl; rw [q]; simp only; rw [if_neg e]
        rw [q1] at ih
        refine brF e (bd1T hpa (sqT ?_))
        rw [nI_1]; exact ih
theorem a_full' {g H R : Nat} {S : Gs} {w : Mm} (hg : g < 2) (hA : RA g H R S w) (hR : R ≤ 8) (hp : ∀ r, r < R → 0 ≤ (sg S 5 r).toInt) : f_X1_fullestRose g w = some (oI (fl S R), w) := by
  unfold f_X1_fullestRose
  exact bd1T (a_full hg hA hR hp R 0 LF (by omega) (by unfold LF; omega)) rfl
theorem b_full {k H R : Nat} {S : Gs} {w : Mm} (hB : RB k H R S w) (hR : R ≤ 8) : ∀ (d i n : Nat), i + d = R → d < n → f_X14_full_L4 k n (nI i) (oI (fl S i)) w = some (oI (fl S R), w)
  | 0, i, n + 1, e, hn => by
    obtain ⟨⟨p1, p2, p3, p4, p5, p6, p7, p8⟩, b0, c0, d0⟩ := id hB
    have e : i = R := by omega
    subst e
    rw [f_X14_full_L4]
    refine gdT p1 (sqT (gdT p2 ?_))
    rw [p6]
    exact brT (nI_le (Nat.le_refl _) (by omega)) rfl
  | d + 1, i, n + 1, e, hn => by
    obtain ⟨⟨p1, p2, p3, p4, p5, p6, p7, p8⟩, b0, c0, d0⟩ := id hB
    have ih := b_full hB hR d (i + 1) n (by omega) (by omega)
    rw [f_X14_full_L4]
    refine gdT p1 (sqT (gdT p2 ?_))
    rw [p6]
    refine brF (nI_ge (by omega) (by omega)) ?_
    cases q : fl S i with
    | none =>
      have q1 : fl S (i + 1) = some i := by unfold fl; rw [q]
      rw [q1] at ih
      refine brT rfl (sqT ?_)
      rw [nI_1]; exact ih
    | some j =>
      have hj := fl_lt q
      refine brF (fun h => (nI_m1 (by omega)).mp h) (gdT ((vB_nI (by omega)).mpr (by omega)) (gdT ((vB_nI (by omega)).mpr (by omega)) ?_))
      show br (gI w 60 k (nI i).toNatClampNeg ≤ gI w 60 k (nI j).toNatClampNeg) _ _ = _
      rw [nI_clamp (by omega), nI_clamp (by omega), (d0 i (by omega)).1, (d0 j (by omega)).1]
      by_cases e : sg S 5 i ≤ sg S 5 j
      · have q1 : fl S (i + 1) = some j := by unfold fl; rw [q]; simp only; rw [if_pos e]
        rw [q1] at ih
        refine brT e (sqT ?_)
        rw [nI_1]; exact ih
      · have q1 : fl S (i + 1) = some i := by unfold fl; rw [q]; simp only; rw [if_neg e]
        rw [q1] at ih
        refine brF e (sqT ?_)
        rw [nI_1]; exact ih
theorem b_full' {k H R : Nat} {S : Gs} {w : Mm} (hB : RB k H R S w) (hR : R ≤ 8) : f_X14_full k w = some (oI (fl S R), w) := by
  unfold f_X14_full
  exact bd1T (b_full hB hR R 0 LF (by omega) (by unfold LF; omega)) rfl
theorem z_fullest {P : Nat → Nat → Mm → Prop} {b t : Nat} {w : Mm} (hP : Stb P) (hI : Iv P b t w) (ht : t + 1 ≤ 512) : CN (f_X12_fullest w) f_X15_fullest (Iv P b (t + 1)) := by
  obtain ⟨H, R, S, hA, hB, hO, ht0, hb, hp⟩ := id hI
  refine cn_get hP hI ht (v := oI (fl S R)) ?_ ?_
  · unfold f_X12_fullest; exact bd1T (a_full' (by omega) hA hO.1.1.2.1 fun r hr => (hO.2 r hr).1) rfl
  · unfold f_X15_fullest; exact bd1T (b_full' hB hO.1.1.2.1) (bd1T b_ok rfl)
-- in how many rows
def inR (S : Gs) (x : Nat) : Nat → Int32
  | 0 => 0
  | n + 1 => if x ∈ sr S n then inR S x n + 1 else inR S x n
theorem a_isInRow {g H R h x : Nat} {S : Gs} {w : Mm} (hg : g < 2) (hS : SH H R S) (hA : RA g H R S w) (hh : h < H) (hx : x < 16) : f_X1_isInRow g (nI x) (nI h) w = some (if x ∈ sr S h then 1 else 0, w) := by
  have hH := hS.1
  have hlen := sh_len hS hh
  unfold f_X1_isInRow
  refine bd1T (p_X1_hedge hA hH hh) ?_
  refine gdT (by simp only [decide_eq_true_eq]; omega) (bd1T (p_X3_place hS hA hh hx) ?_)
  by_cases m : x ∈ sr S h
  · refine brF (by rw [place_0 (by omega)]; exact fun q => q m) ?_
    rw [if_pos m]
  · refine brT (by rw [place_0 (by omega)]; exact m) ?_
    rw [if_neg m]
theorem a_rows {g H R x : Nat} {S : Gs} {w : Mm} (hg : g < 2) (hS : SH H R S) (hA : RA g H R S w) (hx : x < 16) : ∀ (d i n : Nat), i + d = H → d < n → f_X1_rowsWith_L4 g (nI x) n (nI i) (inR S x i) w = some (inR S x H, w)
  | 0, i, n + 1, e, hn => by
    have hH := hS.1
    have e : i = H := by omega
    subst e
    rw [f_X1_rowsWith_L4, hA.1.1]
    exact brT (nI_le (Nat.le_refl _) (by omega)) rfl
  | d + 1, i, n + 1, e, hn => by
    have hH := hS.1
    have ih := a_rows hg hS hA hx d (i + 1) n (by omega) (by omega)
    rw [f_X1_rowsWith_L4, hA.1.1]
    refine brF (nI_ge (by omega) (by omega)) (bd1T (a_isInRow hg hS hA (by omega) hx) ?_)
    rw [show inR S x (i + 1) = if x ∈ sr S i then inR S x i + 1 else inR S x i from rfl] at ih
    by_cases m : x ∈ sr S i
    · rw [if_pos m] at ih ⊢
      refine brF (by decide) (sqT (sqT ?_))
      rw [nI_1]; exact ih
    · rw [if_neg m] at ih ⊢
      refine brT rfl (sqT ?_)
      rw [nI_1]; exact ih
theorem a_rows' {g H R x : Nat} {S : Gs} {w : Mm} (hg : g < 2) (hS : SH H R S) (hA : RA g H R S w) (hx : x < 16) : f_X1_rowsWith g (nI x) w = some (inR S x H, w) := by
  have hH := hS.1
  unfold f_X1_rowsWith
  exact bd1T (a_rows hg hS hA hx H 0 LF (by omega) (by unfold LF; omega)) rfl
theorem b_many {k H R x : Nat} {S : Gs} {w : Mm} (hS : SH H R S) (hB : RB k H R S w) (hx : x < 16) : ∀ (d i n : Nat), i + d = H → d < n → f_X14_manyOf_L4 k (nI x) n (nI i) (inR S x i) w = some (inR S x H, w)
  | 0, i, n + 1, e, hn => by
    obtain ⟨⟨p1, p2, p3, p4, p5, p6, p7, p8⟩, b0, c0, d0⟩ := id hB
    have hH := hS.1
    have e : i = H := by omega
    subst e
    rw [f_X14_manyOf_L4]
    refine gdT p1 (sqT (gdT p2 ?_))
    rw [p5]
    exact brT (nI_le (Nat.le_refl _) (by omega)) rfl
  | d + 1, i, n + 1, e, hn => by
    obtain ⟨⟨p1, p2, p3, p4, p5, p6, p7, p8⟩, b0, c0, d0⟩ := id hB
    have hH := hS.1
    have hlen := sh_len hS (h := i) (by omega)
    have ih := b_many hS hB hx d (i + 1) n (by omega) (by omega)
    rw [f_X14_manyOf_L4]
    refine gdT p1 (sqT (gdT p2 ?_))
    rw [p5]
    refine brF (nI_ge (by omega) (by omega)) (bd1T (p_X14_place hS hB (by omega) hx) ?_)
    rw [show inR S x (i + 1) = if x ∈ sr S i then inR S x i + 1 else inR S x i from rfl] at ih
    by_cases m : x ∈ sr S i
    · rw [if_pos m] at ih
      refine brF (by rw [place_m1 (by omega)]; exact fun q => q m) (sqT (sqT ?_))
      rw [nI_1]; exact ih
    · rw [if_neg m] at ih
      refine brT (by rw [place_m1 (by omega)]; exact m) (sqT (sqT ?_))
      rw [nI_1, Int32.add_zero]; exact ih
theorem b_many' {k H R x : Nat} {S : Gs} {w : Mm} (hS : SH H R S) (hB : RB k H R S w) (hx : x < 16) : f_X14_manyOf k (nI x) w = some (inR S x H, w) := by
  have hH := hS.1
  unfold f_X14_manyOf
  exact bd1T (b_many hS hB hx H 0 LF (by omega) (by unfold LF; omega)) rfl
theorem n8 (r : Nat) : (8 : Int32) + nI r = nI (8 + r) := by rw [lit_nI, nI_add]
theorem z_hedgesOf {P : Nat → Nat → Mm → Prop} {b t : Nat} {w : Mm} {a : Int32} (hP : Stb P) (hI : Iv P b t w) (ht : t + 1 ≤ 512) : CZ (f_L_hedgesOf a w) (f_X15_hedgesOf a) (Iv P b (t + 1)) := by
  obtain ⟨H, R, S, hA, hB, hO, ht0, hb, hp⟩ := id hI
  have hR := hO.1.1.2.1
  have hH := hO.1.1.1
  rcases hcase a (H := R) hR with ⟨y, hy, rfl⟩ | hi
  · refine cz_get hP hI ht (v := inR S (8 + y) H) ?_ fun z hz => ?_
    · unfold f_L_hedgesOf f_X12_hedgesOf
      rw [n8]
      exact bwT (bxT (a_rN hA hR hy) (bd1T (a_rows' (by omega) hO.1.1 hA (by omega)) rfl)) (gdT rfl rfl)
    · unfold f_X15_hedgesOf
      rw [n8]
      exact bd1T (b_isR (show RB 0 H R S (pZ (pL w 63 0 0 _) z) from hB) hR hy) (bd1T b_kn1 (brF (by decide) (bd1T (b_many' hO.1.1 (rb_o (show RB 0 H R S (pZ (pL w 63 0 0 _) z) from hB) (by omega)) (by omega)) rfl)))
  · refine cz_thr hP hI ht (c := 1) (by decide) ?_ fun z hz => ?_
    · unfold f_L_hedgesOf f_X12_hedgesOf
      exact bwE (bxE (a_rNi hA hi) rfl) (brT rfl rfl)
    · refine ⟨0, pI (pZ w z) 32 0 0 1, ?_, by simp [gI_pI], Or.inl rfl⟩
      unfold f_X15_hedgesOf
      exact bd1T (b_isRi (show RB 0 H R S (pZ w z) from hB) hR hi) (bd1T b_kn0 (brT rfl rfl))
theorem z_hedgeInRow {P : Nat → Nat → Mm → Prop} {b t : Nat} {w : Mm} {a c : Int32} (hP : Stb P) (hI : Iv P b t w) (ht : t + 1 ≤ 512) : CZ (f_L_hedgeInRow a c w) (f_X15_hedgeInRow a c) (Iv P b (t + 1)) := by
  obtain ⟨H, R, S, hA, hB, hO, ht0, hb, hp⟩ := id hI
  have hR := hO.1.1.2.1
  have hH := hO.1.1.1
  rcases hcase a (H := H) hH with ⟨y, hy, rfl⟩ | hi
  · rcases hcase c (H := H) hH with ⟨v, hv, rfl⟩ | hi2
    · refine cz_get hP hI ht (v := place (sr S v) y) ?_ fun z hz => ?_
      · unfold f_L_hedgeInRow f_X12_hedgeInRow
        have e := p_X3_place (x := y) hO.1.1 hA hv (by omega)
        rw [show 8 * 0 + v = v by omega] at e
        exact bwT (bxT (a_hN hA hH hy) (bxT (a_hN hA hH hv) (gdT (by simp only [decide_eq_true_eq]; omega) (bd1T e rfl)))) (gdT rfl rfl)
      · unfold f_X15_hedgeInRow
        have hB' : RB 0 H R S (pZ (pL w 63 0 0 (place (sr S v) y).toInt64) z) := hB
        exact bd1T (b_isH hB' hH hy) (brF (by decide) (bd1T (b_isH hB' hH hv) (brF (by decide) (bd1T b_kn1 (brF (by decide) (bd1T (p_X14_place hO.1.1 (rb_o hB' (by omega)) hv (by omega)) rfl))))))
    · refine cz_thr hP hI ht (c := 1) (by decide) ?_ fun z hz => ?_
      · unfold f_L_hedgeInRow f_X12_hedgeInRow
        exact bwE (bxT (a_hN hA hH hy) (bxE (a_hNi hA hi2) rfl)) (brT rfl rfl)
      · refine ⟨0, pI (pZ w z) 32 0 0 1, ?_, by simp [gI_pI], Or.inl rfl⟩
        unfold f_X15_hedgeInRow
        have hB' : RB 0 H R S (pZ w z) := hB
        exact bd1T (b_isH hB' hH hy) (brF (by decide) (bd1T (b_isHi hB' hH hi2) (brT rfl (bd1T b_kn0 (brT rfl rfl)))))
  · refine cz_thr hP hI ht (c := 1) (by decide) ?_ fun z hz => ?_
    · unfold f_L_hedgeInRow f_X12_hedgeInRow
      exact bwE (bxE (a_hNi hA hi) rfl) (brT rfl rfl)
    · refine ⟨0, pI (pZ w z) 32 0 0 1, ?_, by simp [gI_pI], Or.inl rfl⟩
      unfold f_X15_hedgeInRow
      have hB' : RB 0 H R S (pZ w z) := hB
      exact bd1T (b_isHi hB' hH hi) (brT rfl (bd1T b_kn0 (brT rfl rfl)))
theorem z_roseInRow {P : Nat → Nat → Mm → Prop} {b t : Nat} {w : Mm} {a c : Int32} (hP : Stb P) (hI : Iv P b t w) (ht : t + 1 ≤ 512) : CZ (f_L_roseInRow a c w) (f_X15_roseInRow a c) (Iv P b (t + 1)) := by
  obtain ⟨H, R, S, hA, hB, hO, ht0, hb, hp⟩ := id hI
  have hR := hO.1.1.2.1
  have hH := hO.1.1.1
  rcases hcase a (H := R) hR with ⟨y, hy, rfl⟩ | hi
  · rcases hcase c (H := H) hH with ⟨v, hv, rfl⟩ | hi2
    · refine cz_get hP hI ht (v := place (sr S v) (8 + y)) ?_ fun z hz => ?_
      · unfold f_L_roseInRow f_X12_roseInRow
        have e := p_X3_place (x := 8 + y) hO.1.1 hA hv (by omega)
        rw [show 8 * 0 + v = v by omega] at e
        rw [n8]
        exact bwT (bxT (a_rN hA hR hy) (bxT (a_hN hA hH hv) (gdT (by simp only [decide_eq_true_eq]; omega) (bd1T e rfl)))) (gdT rfl rfl)
      · unfold f_X15_roseInRow
        rw [n8]
        have hB' : RB 0 H R S (pZ (pL w 63 0 0 (place (sr S v) (8 + y)).toInt64) z) := hB
        exact bd1T (b_isR hB' hR hy) (brF (by decide) (bd1T (b_isH hB' hH hv) (brF (by decide) (bd1T b_kn1 (brF (by decide) (bd1T (p_X14_place hO.1.1 (rb_o hB' (by omega)) hv (by omega)) rfl))))))
    · refine cz_thr hP hI ht (c := 1) (by decide) ?_ fun z hz => ?_
      · unfold f_L_roseInRow f_X12_roseInRow
        exact bwE (bxT (a_rN hA hR hy) (bxE (a_hNi hA hi2) rfl)) (brT rfl rfl)
      · refine ⟨0, pI (pZ w z) 32 0 0 1, ?_, by simp [gI_pI], Or.inl rfl⟩
        unfold f_X15_roseInRow
        have hB' : RB 0 H R S (pZ w z) := hB
        exact bd1T (b_isR hB' hR hy) (brF (by decide) (bd1T (b_isHi hB' hH hi2) (brT rfl (bd1T b_kn0 (brT rfl rfl)))))
  · refine cz_thr hP hI ht (c := 1) (by decide) ?_ fun z hz => ?_
    · unfold f_L_roseInRow f_X12_roseInRow
      exact bwE (bxE (a_rNi hA hi) rfl) (brT rfl rfl)
    · refine ⟨0, pI (pZ w z) 32 0 0 1, ?_, by simp [gI_pI], Or.inl rfl⟩
      unfold f_X15_roseInRow
      have hB' : RB 0 H R S (pZ w z) := hB
      exact bd1T (b_isRi hB' hR hi) (brT rfl (bd1T b_kn0 (brT rfl rfl)))
