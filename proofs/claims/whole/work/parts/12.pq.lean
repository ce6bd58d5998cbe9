-- THE PURE PART: the checksum
def dg (d : Int64) (x : Int32) : Int64 := (d * 31) + x.toInt64
def itr (f : Nat → Int64 → Int64) : Nat → Int64 → Int64
  | 0, d => d
  | n + 1, d => f n (itr f n d)
def dRow (S : Gs) (h o : Nat) (d : Int64) : Int64 := dg d (place (sr S h) o)
def dHed (S : Gs) (H R h : Nat) (d : Int64) : Int64 := itr (fun r => dRow S h (8 + r)) R (itr (dRow S h) H (dg (dg (dg d (sg S 2 h)) (sg S 3 h)) (nI (sr S h).length)))
def dRos (S : Gs) (H r : Nat) (d : Int64) : Int64 := dg (dg (dg d (sg S 5 r)) (sg S 6 r)) (inR S (8 + r) H)
def dAll (S : Gs) (H R : Nat) : Int64 := itr (dRos S H) R (itr (dHed S H R) H (dg (dg (dg (dg (dg (dg (dg (dg (dg 1063 (nI H)) (nI R)) (sg S 0 0)) (sg S 0 1)) (sg S 0 2)) (sg S 0 3)) (sg S 0 4)) (oI (fl S R))) (bst S R 20 H).1))
theorem a_dg {d : Int64} {x : Int32} {w : Mm} : f_X12_digested d x w = some (dg d x, w) := rfl
theorem a_hIR {H R y v : Nat} {S : Gs} {w : Mm} (hS : SH H R S) (hA : RA 0 H R S w) (hy : y < H) (hv : v < H) : f_X12_hedgeInRow (nI y) (nI v) w = some (.inr (place (sr S v) y), w) := by
  have hH := hS.1
  unfold f_X12_hedgeInRow
  have e := p_X3_place (x := y) hS hA hv (by omega)
  rw [show 8 * 0 + v = v by omega] at e
  exact bxT (a_hN hA hH hy) (bxT (a_hN hA hH hv) (gdT (by simp only [decide_eq_true_eq]; omega) (bd1T e rfl)))
theorem a_rIR {H R y v : Nat} {S : Gs} {w : Mm} (hS : SH H R S) (hA : RA 0 H R S w) (hy : y < R) (hv : v < H) : f_X12_roseInRow (nI y) (nI v) w = some (.inr (place (sr S v) (8 + y)), w) := by
  have hH := hS.1
  have hR := hS.2.1
  unfold f_X12_roseInRow
  have e := p_X3_place (x := 8 + y) hS hA hv (by omega)
  rw [show 8 * 0 + v = v by omega] at e
  rw [n8]
  exact bxT (a_rN hA hR hy) (bxT (a_hN hA hH hv) (gdT (by simp only [decide_eq_true_eq]; omega) (bd1T e rfl)))
theorem a_hq {H R y : Nat} {S : Gs} {w : Mm} (hS : SH H R S) (hA : RA 0 H R S w) (hy : y < H) : f_X12_heardBy (nI y) w = some (.inr (sg S 2 y), w) ∧ f_X12_latestOf (nI y) w = some (.inr (sg S 3 y), w) ∧ f_X12_listenersOf (nI y) w = some (.inr (nI (sr S y).length), w) := by
  have hH := hS.1
  obtain ⟨c1, c2, c3, c4, c5⟩ := hA.2.2.1 y hy
  rw [show 8 * 0 + y = y by omega] at c1 c2 c3 c4
  refine ⟨?_, ?_, ?_⟩
  · unfold f_X12_heardBy
    refine bxT (a_hN hA hH hy) (gdT (by simp only [decide_eq_true_eq]; omega) ?_)
    rw [c2]
  · unfold f_X12_latestOf
    refine bxT (a_hN hA hH hy) (gdT (by simp only [decide_eq_true_eq]; omega) ?_)
    rw [c3]
  · unfold f_X12_listenersOf
    refine bxT (a_hN hA hH hy) (gdT (by simp only [decide_eq_true_eq]; omega) ?_)
    rw [c4]
theorem a_rq {H R y : Nat} {S : Gs} {w : Mm} (hS : SH H R S) (hA : RA 0 H R S w) (hy : y < R) : f_X12_petalsOf (nI y) w = some (.inr (sg S 5 y), w) ∧ f_X12_countOf (nI y) w = some (.inr (sg S 6 y), w) ∧ f_X12_hedgesOf (nI y) w = some (.inr (inR S (8 + y) H), w) := by
  have hH := hS.1
  have hR := hS.2.1
  obtain ⟨c1, c2, c3, c4⟩ := hA.2.2.2 y hy
  rw [show 8 * 0 + y = y by omega] at c1 c2 c3 c4
  refine ⟨?_, ?_, ?_⟩
  · unfold f_X12_petalsOf
    refine bxT (a_rN hA hR hy) (gdT (by simp only [decide_eq_true_eq]; omega) ?_)
    rw [c2]
  · unfold f_X12_countOf
    refine bxT (a_rN hA hR hy) (gdT (by simp only [decide_eq_true_eq]; omega) ?_)
    rw [c3]
  · unfold f_X12_hedgesOf
    rw [n8]
    exact bxT (a_rN hA hR hy) (bd1T (a_rows' (by omega) hS hA (by omega)) rfl)
theorem a_d38 {H R h : Nat} {S : Gs} {w : Mm} {d0 : Int64} (hS : SH H R S) (hA : RA 0 H R S w) (hh : h < H) : ∀ (d i n : Nat), i + d = H → d < n → f_X12_digestedHedge_L38 (nI h) n (nI i) (itr (dRow S h) i d0) w = some (itr (dRow S h) H d0, w)
  | 0, i, n + 1, e, hn => by
    have hH := hS.1
    have e : i = H := by omega
    subst e
    rw [f_X12_digestedHedge_L38, hA.1.1]
    exact brT (nI_le (Nat.le_refl _) (by omega)) rfl
  | d + 1, i, n + 1, e, hn => by
    have hH := hS.1
    have ih := a_d38 (d0 := d0) hS hA hh d (i + 1) n (by omega) (by omega)
    rw [f_X12_digestedHedge_L38, hA.1.1]
    refine brF (nI_ge (by omega) (by omega)) (bnT (a_hIR hS hA (by omega) hh) (bd1T a_dg (sqT ?_)))
    rw [nI_1]; exact ih
theorem a_d73 {H R h : Nat} {S : Gs} {w : Mm} {d0 : Int64} (hS : SH H R S) (hA : RA 0 H R S w) (hh : h < H) : ∀ (d i n : Nat), i + d = R → d < n → f_X12_digestedHedge_L73 (nI h) n (nI i) (itr (fun r => dRow S h (8 + r)) i d0) w = some (itr (fun r => dRow S h (8 + r)) R d0, w)
  | 0, i, n + 1, e, hn => by
    have hR := hS.2.1
    have e : i = R := by omega
    subst e
    rw [f_X12_digestedHedge_L73, hA.1.2]
    exact brT (nI_le (Nat.le_refl _) (by omega)) rfl
  | d + 1, i, n + 1, e, hn => by
    have hR := hS.2.1
    have ih := a_d73 (d0 := d0) hS hA hh d (i + 1) n (by omega) (by omega)
    rw [f_X12_digestedHedge_L73, hA.1.2]
    refine brF (nI_ge (by omega) (by omega)) (bnT (a_rIR hS hA (by omega) hh) (bd1T a_dg (sqT ?_)))
    rw [nI_1]; exact ih
theorem a_dHed {H R h : Nat} {S : Gs} {w : Mm} {d0 : Int64} (hS : SH H R S) (hA : RA 0 H R S w) (hh : h < H) : f_X12_digestedHedge d0 (nI h) w = some (dHed S H R h d0, w) := by
  have hH := hS.1
  have hR := hS.2.1
  obtain ⟨q1, q2, q3⟩ := a_hq hS hA hh
  unfold f_X12_digestedHedge
  refine bnT q1 (bd1T a_dg (bnT q2 (bd1T a_dg (bnT q3 (bd1T a_dg (bd1T (a_d38 hS hA hh H 0 LF (by omega) (by unfold LF; omega)) (bd1T (a_d73 hS hA hh R 0 LF (by omega) (by unfold LF; omega)) rfl)))))))
theorem a_d113 {H R : Nat} {S : Gs} {w : Mm} {d0 : Int64} (hS : SH H R S) (hA : RA 0 H R S w) : ∀ (d i n : Nat), i + d = H → d < n → f_X12_digest_L113 n (nI i) (itr (dHed S H R) i d0) w = some (itr (dHed S H R) H d0, w)
  | 0, i, n + 1, e, hn => by
    have hH := hS.1
    have e : i = H := by omega
    subst e
    rw [f_X12_digest_L113, hA.1.1]
    exact brT (nI_le (Nat.le_refl _) (by omega)) rfl
  | d + 1, i, n + 1, e, hn => by
    have hH := hS.1
    have ih := a_d113 (d0 := d0) hS hA d (i + 1) n (by omega) (by omega)
    rw [f_X12_digest_L113, hA.1.1]
    refine brF (nI_ge (by omega) (by omega)) (bd1T (a_dHed hS hA (by omega)) (sqT ?_))
    rw [nI_1]; exact ih
theorem a_d139 {H R : Nat} {S : Gs} {w : Mm} {d0 : Int64} (hS : SH H R S) (hA : RA 0 H R S w) : ∀ (d i n : Nat), i + d = R → d < n → f_X12_digest_L139 n (nI i) (itr (dRos S H) i d0) w = some (itr (dRos S H) R d0, w)
  | 0, i, n + 1, e, hn => by
    have hR := hS.2.1
    have e : i = R := by omega
    subst e
    rw [f_X12_digest_L139, hA.1.2]
    exact brT (nI_le (Nat.le_refl _) (by omega)) rfl
  | d + 1, i, n + 1, e, hn => by
    have hR := hS.2.1
    have ih := a_d139 (d0 := d0) hS hA d (i + 1) n (by omega) (by omega)
    obtain ⟨q1, q2, q3⟩ := a_rq hS hA (y := i) (by omega)
    rw [f_X12_digest_L139, hA.1.2]
    refine brF (nI_ge (by omega) (by omega)) (bnT q1 (bd1T a_dg (bnT q2 (bd1T a_dg (bnT q3 (bd1T a_dg (sqT ?_)))))))
    rw [nI_1]; exact ih
theorem i20 : 1 ≤ (20 : Int32).toInt ∧ (20 : Int32).toInt ≤ 99 := by decide
theorem a_digest {B : Int} {H R : Nat} {S : Gs} {w : Mm} (hB0 : 0 ≤ B) (hB : 8 * (B + 784) < 2147483648) (hO : OK B H R S) (hA : RA 0 H R S w) : ∃ w', f_X12_digest w = some (dAll S H R, w') ∧ RA 0 H R S w' ∧ UA 1 w w' := by
  have hS := hO.1.1
  have hH := hS.1
  have hR := hS.2.1
  obtain ⟨w', h1, h2, h3⟩ := a_best' hB0 hB hO i20 hA
  obtain ⟨⟨x1, x2⟩, ⟨b1, b2, b3, b4, b5⟩, -⟩ := id hA
  refine ⟨w', ?_, h2, h3⟩
  unfold f_X12_digest
  rw [x1]
  refine bd1T a_dg ?_
  rw [x2]
  refine bd1T a_dg ?_
  rw [b1]
  refine bd1T a_dg ?_
  rw [b2]
  refine bd1T a_dg ?_
  rw [b3]
  refine bd1T a_dg ?_
  rw [b4]
  refine bd1T a_dg ?_
  rw [b5]
  refine bd1T a_dg (bd1T (a_full' (by omega) hA hR fun r hr => (hO.2 r hr).1) (bd1T a_dg (bnT h1 (bd1T a_dg (bd1T (a_d113 hS h2 H 0 LF (by omega) (by unfold LF; omega)) (bd1T (a_d139 hS h2 R 0 LF (by omega) (by unfold LF; omega)) rfl))))))
-- the reference's
theorem b_d215 {b H R h : Nat} {S : Gs} {w : Mm} {d0 : Int64} (hS : SH H R S) (hB : RB 0 H R S w) (hh : h < H) : ∀ (d i n : Nat), i + d = H → d < n → f_X15_digest_L215 b (nI h) n (nI i) (itr (dRow S h) i d0) w = some (itr (dRow S h) H d0, w)
  | 0, i, n + 1, e, hn => by
    obtain ⟨⟨p1, p2, p3, p4, p5, p6, p7, p8⟩, -⟩ := id hB
    have hH := hS.1
    have e : i = H := by omega
    subst e
    rw [f_X15_digest_L215]
    refine gdT p1 (sqT (gdT p2 ?_))
    rw [p5]
    exact brT (nI_le (Nat.le_refl _) (by omega)) rfl
  | d + 1, i, n + 1, e, hn => by
    obtain ⟨⟨p1, p2, p3, p4, p5, p6, p7, p8⟩, -⟩ := id hB
    have hH := hS.1
    have ih := b_d215 (b := b) (d0 := d0) hS hB hh d (i + 1) n (by omega) (by omega)
    rw [f_X15_digest_L215]
    refine gdT p1 (sqT (gdT p2 ?_))
    rw [p5]
    refine brF (nI_ge (by omega) (by omega)) (bd1T (p_X14_place hS hB hh (by omega)) (sqT (sqT ?_)))
    rw [nI_1]; exact ih
theorem b_d255 {b H R h : Nat} {S : Gs} {w : Mm} {d0 : Int64} (hS : SH H R S) (hB : RB 0 H R S w) (hh : h < H) : ∀ (d i n : Nat), i + d = R → d < n → f_X15_digest_L255 b (nI h) n (nI i) (itr (fun r => dRow S h (8 + r)) i d0) w = some (itr (fun r => dRow S h (8 + r)) R d0, w)
  | 0, i, n + 1, e, hn => by
    obtain ⟨⟨p1, p2, p3, p4, p5, p6, p7, p8⟩, -⟩ := id hB
    have hR := hS.2.1
    have e : i = R := by omega
    subst e
    rw [f_X15_digest_L255]
    refine gdT p1 (sqT (gdT p2 ?_))
    rw [p6]
    exact brT (nI_le (Nat.le_refl _) (by omega)) rfl
  | d + 1, i, n + 1, e, hn => by
    obtain ⟨⟨p1, p2, p3, p4, p5, p6, p7, p8⟩, -⟩ := id hB
    have hR := hS.2.1
    have ih := b_d255 (b := b) (d0 := d0) hS hB hh d (i + 1) n (by omega) (by omega)
    rw [f_X15_digest_L255]
    refine gdT p1 (sqT (gdT p2 ?_))
    rw [p6, n8]
    refine brF (nI_ge (by omega) (by omega)) (bd1T (p_X14_place hS hB hh (by omega)) (sqT (sqT ?_)))
    rw [nI_1]; exact ih
theorem b_d150 {b H R : Nat} {S : Gs} {w : Mm} {d0 : Int64} (hS : SH H R S) (hB : RB 0 H R S w) : ∀ (d i n : Nat), i + d = H → d < n → f_X15_digest_L150 b n (nI i) (itr (dHed S H R) i d0) w = some (itr (dHed S H R) H d0, w)
  | 0, i, n + 1, e, hn => by
    obtain ⟨⟨p1, p2, p3, p4, p5, p6, p7, p8⟩, -⟩ := id hB
    have hH := hS.1
    have e : i = H := by omega
    subst e
    rw [f_X15_digest_L150]
    refine gdT p1 (sqT (gdT p2 ?_))
    rw [p5]
    exact brT (nI_le (Nat.le_refl _) (by omega)) rfl
  | d + 1, i, n + 1, e, hn => by
    obtain ⟨⟨p1, p2, p3, p4, p5, p6, p7, p8⟩, -⟩ := id hB
    have hH := hS.1
    have hR := hS.2.1
    obtain ⟨c1, c2, c3, c4⟩ := hB.2.2.1 i (by omega)
    have hv : vB (nI i) 8 = true := (vB_nI (by omega)).mpr (by omega)
    have ih := b_d150 (b := b) (d0 := d0) hS hB d (i + 1) n (by omega) (by omega)
    rw [f_X15_digest_L150]
    refine gdT p1 (sqT (gdT p2 ?_))
    rw [p5]
    refine brF (nI_ge (by omega) (by omega)) (gdT hv (gdT hv (gdT hv ?_)))
    rw [nI_clamp (by omega), c1, c2, c3]
    refine sqT (bd1T (b_d215 hS hB (by omega) H 0 LF (by omega) (by unfold LF; omega)) (bd1T (b_d255 hS hB (by omega) R 0 LF (by omega) (by unfold LF; omega)) (sqT ?_)))
    rw [nI_1]; exact ih
theorem b_d304 {b H R : Nat} {S : Gs} {w : Mm} {d0 : Int64} (hS : SH H R S) (hB : RB 0 H R S w) : ∀ (d i n : Nat), i + d = R → d < n → f_X15_digest_L304 b n (nI i) (itr (dRos S H) i d0) w = some (itr (dRos S H) R d0, w)
  | 0, i, n + 1, e, hn => by
    obtain ⟨⟨p1, p2, p3, p4, p5, p6, p7, p8⟩, -⟩ := id hB
    have hR := hS.2.1
    have e : i = R := by omega
    subst e
    rw [f_X15_digest_L304]
    refine gdT p1 (sqT (gdT p2 ?_))
    rw [p6]
    exact brT (nI_le (Nat.le_refl _) (by omega)) rfl
  | d + 1, i, n + 1, e, hn => by
    obtain ⟨⟨p1, p2, p3, p4, p5, p6, p7, p8⟩, -⟩ := id hB
    have hH := hS.1
    have hR := hS.2.1
    obtain ⟨c1, c2, c3⟩ := hB.2.2.2 i (by omega)
    have hv : vB (nI i) 8 = true := (vB_nI (by omega)).mpr (by omega)
    have ih := b_d304 (b := b) (d0 := d0) hS hB d (i + 1) n (by omega) (by omega)
    rw [f_X15_digest_L304]
    refine gdT p1 (sqT (gdT p2 ?_))
    rw [p6, n8]
    refine brF (nI_ge (by omega) (by omega)) (gdT hv (gdT hv (bd1T (b_many' hS hB (by omega)) ?_)))
    rw [nI_clamp (by omega), c1, c2, nI_1]
    exact sqT (sqT ih)
theorem b_d117 {b p : Nat} {w : Mm} {d0 : Int64} (hs : shS w b 65 p 0 = true) : ∀ (d i n : Nat), i + d = 9 → d < n → f_X15_digest_L117 b p n (nI i) (itr (fun j x => dg x (gI w 65 p j)) i d0) w = some (itr (fun j x => dg x (gI w 65 p j)) 9 d0, w)
  | 0, i, n + 1, e, hn => by
    have e : i = 9 := by omega
    subst e
    rw [f_X15_digest_L117]
    exact brT (by decide) rfl
  | d + 1, i, n + 1, e, hn => by
    have ih := b_d117 (d0 := d0) hs d (i + 1) n (by omega) (by omega)
    rw [f_X15_digest_L117]
    refine brF (by (simp (disch := omega) only [lit_nI, nI_leI, nI_ltI, nI_eq, nI_clamp, nI_add, nI_sub, vB_nI, Nat.add_sub_cancel, Nat.reduceSub, Nat.reduceLT, Nat.reduceLeDiff, Nat.reduceAdd, gI_pI, p2_pI, Nat.reduceEqDiff, false_and, and_false, true_and, and_true, if_false, if_true, and_self] <;> omega)) (gdT ((vB_nI (by omega)).mpr (by omega)) (gdT hs ?_))
    rw [nI_clamp (by omega), nI_1]
    exact sqT (sqT (sqT ih))
theorem gI_nw {w : Mm} {c k st c' k' i' : Nat} : gI (nw w c k st) c' k' i' = if c' = c ∧ k' = k then 0 else gI w c' k' i' := rfl
theorem gR_nw {w : Mm} {c k st c' k' i' : Nat} : gR (nw w c k st) c' k' i' = if c' = c ∧ k' = k then 0 else gR w c' k' i' := rfl
theorem gL_nw {w : Mm} {c k st c' k' i' : Nat} : gL (nw w c k st) c' k' i' = if c' = c ∧ k' = k then 0 else gL w c' k' i' := rfl
theorem gS_nw {w : Mm} {c k st a : Nat} : gS (nw w c k st) a = if a = gZ w then (c, k, st) else gS w a := rfl
theorem gZ_nw {w : Mm} {c k st : Nat} : gZ (nw w c k st) = gZ w + 1 := rfl
theorem gR_nw32 {w : Mm} {c k st i : Nat} (hc : 62 < c) : gR (nw w c k st) 32 0 i = gR w 32 0 i := by rw [gR_nw, if_neg (by omega)]
theorem shD_nw {w : Mm} {c k st c' k' : Nat} (h : adr 0 c' k' < gZ w) : shD (nw w c k st) c' k' = shD w c' k' := by
  unfold shD
  rw [gS_nw, if_neg (by omega)]
theorem pb_nw {H R c k st : Nat} {S : Gs} {w : Mm} (h : PB H R S w) (hc : 62 < c) (hz : gR w 32 0 11 + 10 ≤ gZ w) : PB H R S (nw w c k st) := by
  obtain ⟨a1, a2, a3, a4, a5, a6, a7, a8⟩ := h
  unfold PB
  rw [gR_nw32 hc, shD_nw (show adr 0 44 _ < gZ w by show gR w 32 0 11 - 1 < gZ w; omega), shD_nw (show adr 0 45 _ < gZ w by show gR w 32 0 11 - 1 + 1 < gZ w; omega), shD_nw (show adr 0 46 _ < gZ w by show gR w 32 0 11 - 1 + 2 < gZ w; omega), gI_nw, if_neg (by omega), gI_nw, if_neg (by omega)]
  refine ⟨a1, a2, a3, a4, a5, a6, fun x hx => ?_, fun x hx => ?_⟩
  · rw [gI_nw, if_neg (by omega)]; exact a7 x hx
  · rw [gI_nw, if_neg (by omega)]; exact a8 x hx
theorem rb_nw {s H R c k st : Nat} {S : Gs} {w : Mm} (h : RB s H R S w) (hc : 62 < c) (hz : gR w 32 0 11 + 10 ≤ gZ w) : RB s H R S (nw w c k st) := by
  obtain ⟨a, b, c1, d⟩ := h
  refine ⟨pb_nw a hc hz, ?_, fun x hx => ?_, fun x hx => ?_⟩
  · simp only [gI_nw]
    rw [if_neg (by omega), if_neg (by omega), if_neg (by omega), if_neg (by omega)]; exact b
  · have e : ∀ c' i, c' ≤ 62 → gI (nw w c k st) c' s i = gI w c' s i := fun c' i q => by rw [gI_nw, if_neg (by omega)]
    simp only [e 56 _ (by omega), e 57 _ (by omega), e 58 _ (by omega), e 59 _ (by omega)]; exact c1 x hx
  · have e : ∀ c' i, c' ≤ 62 → gI (nw w c k st) c' s i = gI w c' s i := fun c' i q => by rw [gI_nw, if_neg (by omega)]
    simp only [e 60 _ (by omega), e 61 _ (by omega), e 62 _ (by omega)]; exact d x hx
