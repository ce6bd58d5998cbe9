-- THE PURE PART: passDays, petalsAfter, daysUntilLeft
theorem dcase (a : Int32) : (∃ d : Nat, 1 ≤ d ∧ d ≤ 30 ∧ a = nI d) ∨ (a < 1 ∨ 30 < a) := by
  by_cases h : a < 1
  · exact Or.inr (Or.inl h)
  · by_cases q : 30 < a
    · exact Or.inr (Or.inr q)
    · refine Or.inl ⟨a.toInt.toNat, ?_⟩
      have e1 := i_1
      have e2 : (30 : Int32).toInt = 30 := by decide
      have h1 := Int32.le_iff_toInt_le.mp (Int32.not_lt.mp h)
      have h2 := Int32.le_iff_toInt_le.mp (Int32.not_lt.mp q)
      refine ⟨by omega, by omega, Int32.toInt_inj.mp ?_⟩
      rw [nI_toInt (by omega)]
      omega
theorem a_nD {d : Nat} {w : Mm} (h : 1 ≤ d ∧ d ≤ 30) : f_X12_needDays (nI d) w = some (.inr (), w) := by
  unfold f_X12_needDays
  exact brF (by (simp (disch := omega) only [lit_nI, nI_leI, nI_ltI, nI_eq, nI_clamp, nI_add, nI_sub, vB_nI, Nat.add_sub_cancel, Nat.reduceSub, Nat.reduceLT, Nat.reduceLeDiff, Nat.reduceAdd, gI_pI, p2_pI, Nat.reduceEqDiff, false_and, and_false, true_and, and_true, if_false, if_true, and_self] <;> omega)) (brT (by (simp (disch := omega) only [lit_nI, nI_leI, nI_ltI, nI_eq, nI_clamp, nI_add, nI_sub, vB_nI, Nat.add_sub_cancel, Nat.reduceSub, Nat.reduceLT, Nat.reduceLeDiff, Nat.reduceAdd, gI_pI, p2_pI, Nat.reduceEqDiff, false_and, and_false, true_and, and_true, if_false, if_true, and_self] <;> omega)) rfl)
theorem a_nDi {a : Int32} {w : Mm} (h : a < 1 ∨ 30 < a) : f_X12_needDays a w = some (.inl 2, w) := by
  unfold f_X12_needDays
  by_cases q : a < 1
  · exact brT q rfl
  · exact brF q (brF (Int32.not_le.mpr (h.resolve_left q)) rfl)
theorem b_nD {d : Nat} {w : Mm} (h : 1 ≤ d ∧ d ≤ 30) : f_X15_isIn (nI d) 1 30 w = some (1, w) := b_isIn (by rw [lit_nI, nI_leI (by decide) (by omega)]; exact h.1) (by rw [lit_nI, nI_leI (by omega) (by decide)]; exact h.2)
theorem a_pass {H R D : Nat} {z2 : Int32} {os : List Od} (h16 : os.length ≤ 16) (ho : ∀ o ∈ os, OdOK H R o) (hD : D ≤ 30) : ∀ (d i n : Nat) (B : Int) (S : Gs) (w : Mm), i + d = D → d < n → 0 ≤ B → B + 12544 * d < 2147483648 → OK B H R S → PLA os w → RA 0 H R S w → ∃ w', f_X12_passDays_L14 z2 (nI D) n (nI i) w = some w' ∧ RA 0 H R (itS os d S) w' ∧ OK (B + 12544 * d) H R (itS os d S) ∧ UA 0 w w'
  | 0, i, n + 1, B, S, w, hi, hf, hB0, hB, hO, hp, hA => by
    refine ⟨w, ?_, hA, ok_mono hO (by omega), UA_rf⟩
    rw [f_X12_passDays_L14]
    exact brT (nI_le (by omega) (by omega)) rfl
  | d + 1, i, n + 1, B, S, w, hi, hf, hB0, hB, hO, hp, hA => by
    obtain ⟨w1, a1, a2, a3, a4⟩ := a_day (g := 0) (by omega) (by omega) hO hp h16 ho hA
    obtain ⟨w', b1, b2, b3, b4⟩ := a_pass (z2 := z2) h16 ho hD d (i + 1) n (B + 12544) (sDay os S) w1 (by omega) (by omega) (by omega) (by omega) a3 (pla_eqr (eqr_UA a4) hp) a2
    refine ⟨w', ?_, b2, ok_mono b3 (by omega), UA_tr a4 b4⟩
    rw [f_X12_passDays_L14]
    refine brF (nI_ge (by omega) (by omega)) (gdT hp.1 (sqT (bd0T a1 (sqT ?_))))
    rw [nI_1]; exact b1
theorem a_passT {H R D : Nat} {z1 : Int32} {os : List Od} (h16 : os.length ≤ 16) (ho : ∀ o ∈ os, OdOK H R o) (hD : D ≤ 30) : ∀ (d i n : Nat) (B : Int) (S : Gs) (w : Mm), i + d = D → d < n → 0 ≤ B → B + 12544 * d < 2147483648 → OK B H R S → PLA os w → RA 1 H R S w → ∃ w', f_X12_petalsAfter_L23 z1 (nI D) n (nI i) w = some w' ∧ RA 1 H R (itS os d S) w' ∧ OK (B + 12544 * d) H R (itS os d S) ∧ UA 1 w w'
  | 0, i, n + 1, B, S, w, hi, hf, hB0, hB, hO, hp, hA => by
    refine ⟨w, ?_, hA, ok_mono hO (by omega), UA_rf⟩
    rw [f_X12_petalsAfter_L23]
    exact brT (nI_le (by omega) (by omega)) rfl
  | d + 1, i, n + 1, B, S, w, hi, hf, hB0, hB, hO, hp, hA => by
    obtain ⟨w1, a1, a2, a3, a4⟩ := a_day (g := 1) (by omega) (by omega) hO hp h16 ho hA
    obtain ⟨w', b1, b2, b3, b4⟩ := a_passT (z1 := z1) h16 ho hD d (i + 1) n (B + 12544) (sDay os S) w1 (by omega) (by omega) (by omega) (by omega) a3 (pla_eqr (eqr_UA a4) hp) a2
    refine ⟨w', ?_, b2, ok_mono b3 (by omega), UA_tr a4 b4⟩
    rw [f_X12_petalsAfter_L23]
    refine brF (nI_ge (by omega) (by omega)) (gdT hp.1 (sqT (bd0T a1 (sqT ?_))))
    rw [nI_1]; exact b1
theorem ok_day {B : Int} {H R : Nat} {os : List Od} {S : Gs} (hB : B + 12544 < 2147483648) (hO : OK B H R S) (h16 : os.length ≤ 16) (ho : ∀ o ∈ os, OdOK H R o) : OK (B + 12544) H R (sDay os S) := by
  have : ∀ (l : List Od) (B : Int) (S : Gs), (∀ o ∈ l, OdOK H R o) → B + 784 * l.length < 2147483648 → OK B H R S → OK (B + 784 * l.length) H R (l.foldl sOrd S) := by
    intro l
    induction l with
    | nil => intro B S _ _ q; simpa using q
    | cons a t ih =>
      intro B S h1 h2 h3
      simp only [List.length_cons] at h2 ⊢
      exact ok_mono (ih (B + 784) (sOrd S a) (fun o q => h1 o (List.mem_cons_of_mem _ q)) (by omega) (ok_ord (by omega) h3 (h1 a List.mem_cons_self))) (by omega)
  exact ok_end (ok_mono (this os B S ho (by omega) hO) (by omega))
theorem b_pass {k H R D : Nat} {os : List Od} (h16 : os.length ≤ 16) (ho : ∀ o ∈ os, OdOK H R o ∧ (oSc o).length ≤ 400 ∧ (oTc o).length ≤ 400) (hD : D ≤ 30) : ∀ (d i n : Nat) (B : Int) (S : Gs) (w : Mm), i + d = D → d < n → 0 ≤ B → B + 12544 * d < 2147483648 → OK B H R S → PLB os w → gR w 32 0 11 + 10 ≤ gZ w → RB k H R S w → ∃ w', f_X14_pass_L2 k (nI D) n (nI i) w = some w' ∧ RB k H R (itS os d S) w' ∧ UB k w w'
  | 0, i, n + 1, B, S, w, hi, hf, hB0, hB, hO, hp, hz, hA => by
    refine ⟨w, ?_, hA, UB_rf⟩
    rw [f_X14_pass_L2]
    exact brT (nI_le (by omega) (by omega)) rfl
  | d + 1, i, n + 1, B, S, w, hi, hf, hB0, hB, hO, hp, hz, hA => by
    obtain ⟨w1, w2, a1, a2, a3, a4⟩ := b_day (z1 := nI D) (z2 := nI i) (by omega) hO hp hz ho hA
    have e4 := eqr_UB a4
    obtain ⟨w', b1, b2, b3⟩ := b_pass h16 ho hD d (i + 1) n (B + 12544) (sDay os S) _ (by omega) (by omega) (by omega) (by omega) (ok_day (by omega) hO h16 fun o q => (ho o q).1) (plb_eqr e4 hz hp) (hz_eqr e4 hz) a3
    refine ⟨w', ?_, b2, UB_tr a4 b3⟩
    rw [f_X14_pass_L2]
    refine brF (nI_ge (by omega) (by omega)) (bd0T a1 (bd0T a2 (sqT (sqT ?_))))
    rw [nI_1]; exact b1
theorem b_pass' {B : Int} {k H R D : Nat} {os : List Od} {S : Gs} {w : Mm} (hD : D ≤ 30) (hB0 : 0 ≤ B) (hB : B + 12544 * D < 2147483648) (hO : OK B H R S) (hp : PLB os w) (ho : ∀ o ∈ os, OdOK H R o ∧ (oSc o).length ≤ 400 ∧ (oTc o).length ≤ 400) (hz : gR w 32 0 11 + 10 ≤ gZ w) (hA : RB k H R S w) : ∃ w', f_X14_pass k (nI D) w = some (some k, w') ∧ RB k H R (itS os D S) w' ∧ UB k w w' := by
  obtain ⟨w', h1, h2, h3⟩ := b_pass (k := k) hp.2.2.1 ho hD D 0 LF B S w (by omega) (by unfold LF; omega) hB0 hB hO hp hz hA
  refine ⟨w', ?_, h2, h3⟩
  unfold f_X14_pass
  exact bd0T h1 rfl
theorem z_passDays {P : Nat → Nat → Mm → Prop} {b t : Nat} {w : Mm} {a : Int32} (hP : Stb P) (hPL : ∀ H R w, P H R w → PL H R w) (hI : Iv P b t w) (ht : t + 1 ≤ 512) : CZ (f_L_passDays a w) (f_X15_passDays a) (Iv P b (t + 1)) := by
  obtain ⟨H, R, S, hA, hB, hO, ht0, hb, hp⟩ := id hI
  have hR := hO.1.1.2.1
  have hH := hO.1.1.1
  rcases dcase a with ⟨d, d1, d30, rfl⟩ | hi
  · obtain ⟨os, q1, q2, q3⟩ := hPL _ _ _ hp
    obtain ⟨w1, a1, a2, a3, a4⟩ := a_pass (z2 := sg S 0 2) q2.2.2.1 q3 d30 d 0 LF (376320 * t) S w (by omega) (by unfold LF; omega) (by omega) (by omega) hO q1 hA
    refine cz_mv (w1 := w1) (S' := itS os d S) (v := sg (itS os d S) 0 2 - sg S 0 2) hP ht hb hp ?_ (eqr_UA a4) a2 (ok_mono a3 (by omega)) fun z hz => ?_
    · unfold f_L_passDays f_X12_passDays
      refine bwT (bxT (a_nD ⟨d1, d30⟩) ?_) (gdT rfl rfl)
      rw [hA.2.1.2.2.1]
      refine sqT (bd0T a1 ?_)
      rw [a2.2.1.2.2.1]
    · have hE1 := eqr_tr (eqr_tr (eqr_UA a4) (eqr_pL (w := w1) (k := 0) (i := 0) (v := (sg (itS os d S) 0 2 - sg S 0 2).toInt64))) (eqr_pZ hz)
      have hE2 := eqr_tr hE1 (eqr_pI (c := 32) (k := 0) (i := 0) (v := 0) (by omega))
      have hB1 : RB 0 H R S (pZ (pL w1 63 0 0 (sg (itS os d S) 0 2 - sg S 0 2).toInt64) z) := (rb_UA a4 hB : RB 0 H R S w1)
      have hB2 := rb_o (c := 32) (k := 0) (i := 0) (v := 0) hB1 (by omega)
      obtain ⟨w2, b1, b2, b3⟩ := b_pass' (k := 0) d30 (by omega) (by omega) hO (plb_eqr hE2 hb.2.2 q2) (fun o ho => ⟨q3 o ho, pl_len q1 ho⟩) (hz_eqr hE2 hb.2.2) hB2
      refine ⟨w2, ?_, ?_, b2, fun c k i q => ?_, eqr_tr (eqr_pI (by omega)) (eqr_UB b3), b3.2⟩
      · unfold f_X15_passDays
        refine sqT (bd1T (b_nD ⟨d1, d30⟩) (brF (by decide) ?_))
        rw [hB2.2.1.2.2.1]
        refine sqT (bd1T b1 (gdT rfl ?_))
        rw [b2.2.1.2.2.1]
      · rw [ub32 b3]; simp [gI_pI]
      · rw [b3.1 _ _ _ (by unfold ownB; omega), gI_pI, if_neg (by omega)]
  · refine cz_thr hP hI ht (c := 1) (by decide) ?_ fun z hz => ?_
    · unfold f_L_passDays f_X12_passDays
      exact bwE (bxE (a_nDi hi) rfl) (brT rfl rfl)
    · refine ⟨0, _, ?_, by simp [gI_pI], Or.inr ⟨0, rfl⟩⟩
      unfold f_X15_passDays
      exact sqT (bd1T (b_isIn0 hi) (brT rfl (bd1T b_no rfl)))
theorem z_petalsAfter {P : Nat → Nat → Mm → Prop} {b t : Nat} {w : Mm} {a c : Int32} (hP : Stb P) (hPL : ∀ H R w, P H R w → PL H R w) (hI : Iv P b t w) (ht : t + 1 ≤ 512) : CZ (f_L_petalsAfter a c w) (f_X15_petalsAfter b a c) (Iv P b (t + 1)) := by
  obtain ⟨H, R, S, hA, hB, hO, ht0, hb, hp⟩ := id hI
  have hR := hO.1.1.2.1
  have hH := hO.1.1.1
  rcases hcase a (H := R) hR with ⟨y, hy, rfl⟩ | hi
  · rcases dcase c with ⟨d, d1, d30, rfl⟩ | hi2
    · obtain ⟨os, q1, q2, q3⟩ := hPL _ _ _ hp
      obtain ⟨u, u1, u2, u3⟩ := p_X1_copy hO.1.1 hA
      obtain ⟨w1, a1, a2, a3, a4⟩ := a_passT (z1 := nI y) q2.2.2.1 q3 d30 d 0 LF (376320 * t) S u (by omega) (by unfold LF; omega) (by omega) (by omega) hO (pla_eqr (eqr_UA u3) q1) u2
      have u4 := UA_tr u3 a4
      refine cz_mv (w1 := w1) (S' := S) (v := sg (itS os d S) 5 y) hP ht hb hp ?_ (eqr_UA u4) (ra_UA u4 hA hH hR (by omega)) (ok_mono hO (by omega)) fun z hz => ?_
      · unfold f_L_petalsAfter f_X12_petalsAfter
        exact bwT (bxT (a_rN hA hR hy) (bxT (a_nD ⟨d1, d30⟩) (bd0T u1 (bd0T a1 (bd1T (a_petalsAt (by omega) a2 hR hy) rfl))))) (gdT rfl rfl)
      · have hE1 := eqr_tr (eqr_tr (eqr_UA u4) (eqr_pL (w := w1) (k := 0) (i := 0) (v := (sg (itS os d S) 5 y).toInt64))) (eqr_pZ hz)
        have hE2 := eqr_tr hE1 (eqr_pI (c := 32) (k := 0) (i := 0) (v := 0) (by omega))
        have hB1 : RB 0 H R S (pZ (pL w1 63 0 0 (sg (itS os d S) 5 y).toInt64) z) := (rb_UA u4 hB : RB 0 H R S w1)
        have hB2 := rb_o (c := 32) (k := 0) (i := 0) (v := 0) hB1 (by omega)
        obtain ⟨v, v1, v2, v3⟩ := p_X14_ahead (b := b) hO.1.1 (bt_eqr hb hE2).1 hB2
        have hE3 := eqr_tr hE2 (eqr_UB v3)
        obtain ⟨w2, b1, b2, b3⟩ := b_pass' (k := 1) d30 (by omega) (by omega) hO (plb_eqr hE3 hb.2.2 q2) (fun o ho => ⟨q3 o ho, pl_len q1 ho⟩) (hz_eqr hE3 hb.2.2) v2
        have b4 := UB_tr v3 b3
        refine ⟨w2, ?_, ?_, rb_UB b4 hB2 (by omega), fun c k i q => ?_, eqr_tr (eqr_pI (by omega)) (eqr_UB b4), b4.2⟩
        · unfold f_X15_petalsAfter
          refine bd1T (b_isR hB1 hR hy) (bd1T b_kn1 (brF (by decide) (bd1T (b_nD ⟨d1, d30⟩) (brF (by decide) (bd1T v1 (gdT rfl (bd1T b1 (gdT rfl (gdT ((vB_nI (by omega)).mpr (by omega)) ?_)))))))))
          rw [nI_clamp (by omega), (b2.2.2.2 y hy).1]
        · rw [ub32 b4]; simp [gI_pI]
        · rw [b4.1 _ _ _ (by unfold ownB; omega), gI_pI, if_neg (by omega)]
    · refine cz_thr hP hI ht (c := 2) (by decide) ?_ fun z hz => ?_
      · unfold f_L_petalsAfter f_X12_petalsAfter
        exact bwE (bxT (a_rN hA hR hy) (bxE (a_nDi hi2) rfl)) (brF (by decide) (brT rfl rfl))
      · refine ⟨0, _, ?_, by simp [gI_pI], Or.inr ⟨0, rfl⟩⟩
        unfold f_X15_petalsAfter
        exact bd1T (b_isR (show RB 0 H R S (pZ w z) from hB) hR hy) (bd1T b_kn1 (brF (by decide) (bd1T (b_isIn0 hi2) (brT rfl (bd1T b_no rfl)))))
  · refine cz_thr hP hI ht (c := 1) (by decide) ?_ fun z hz => ?_
    · unfold f_L_petalsAfter f_X12_petalsAfter
      exact bwE (bxE (a_rNi hA hi) rfl) (brT rfl rfl)
    · refine ⟨0, _, ?_, by simp [gI_pI], Or.inl rfl⟩
      unfold f_X15_petalsAfter
      exact bd1T (b_isRi (show RB 0 H R S (pZ w z) from hB) hR hi) (bd1T b_kn0 (brT rfl rfl))
def unt (os : List Od) (r : Nat) (were : Int32) : Nat → Nat → Gs → Option Nat
  | 0, _, _ => none
  | n + 1, d, S => if sg (sDay os S) 7 r ≤ were then unt os r were n (d + 1) (sDay os S) else some d
theorem a_unt {H R r : Nat} {were : Int32} {os : List Od} (h16 : os.length ≤ 16) (ho : ∀ o ∈ os, OdOK H R o) (hr : r < R) : ∀ (d i n : Nat) (B : Int) (S : Gs) (w : Mm), i + d = 41 → d < n → 0 ≤ B → B + 12544 * d < 2147483648 → OK B H R S → PLA os w → RA 1 H R S w → ∃ w' y, f_X12_daysUntilLeft_L22 were (nI r) n (nI i) w = some (match unt os r were d i S with | some j => 0 | none => 1, y, w') ∧ (∀ j, unt os r were d i S = some j → y = nI j) ∧ UA 1 w w'
  | 0, i, n + 1, B, S, w, hi, hf, hB0, hB, hO, hp, hA => by
    refine ⟨w, nI i, ?_, fun j q => (by cases q), UA_rf⟩
    rw [f_X12_daysUntilLeft_L22]
    exact brT (by (simp (disch := omega) only [lit_nI, nI_leI, nI_ltI, nI_eq, nI_clamp, nI_add, nI_sub, vB_nI, Nat.add_sub_cancel, Nat.reduceSub, Nat.reduceLT, Nat.reduceLeDiff, Nat.reduceAdd, gI_pI, p2_pI, Nat.reduceEqDiff, false_and, and_false, true_and, and_true, if_false, if_true, and_self] <;> omega)) rfl
  | d + 1, i, n + 1, B, S, w, hi, hf, hB0, hB, hO, hp, hA => by
    have hR := hO.1.1.2.1
    obtain ⟨w1, a1, a2, a3, a4⟩ := a_day (g := 1) (by omega) (by omega) hO hp h16 ho hA
    have hd : f_X1_departuresAt 1 (nI r) w1 = some (sg (sDay os S) 7 r, w1) := by
      unfold f_X1_departuresAt
      refine bd1T (p_X1_rose a2 hR hr) (gdT (by simp only [decide_eq_true_eq]; omega) ?_)
      rw [(a2.2.2.2 r hr).2.2.2]
    have eu : unt os r were (d + 1) i S = if sg (sDay os S) 7 r ≤ were then unt os r were d (i + 1) (sDay os S) else some i := rfl
    by_cases q : sg (sDay os S) 7 r ≤ were
    · obtain ⟨w', y, b1, b2, b3⟩ := a_unt (were := were) h16 ho hr d (i + 1) n (B + 12544) (sDay os S) w1 (by omega) (by omega) (by omega) (by omega) a3 (pla_eqr (eqr_UA a4) hp) a2
      rw [eu, if_pos q]
      refine ⟨w', y, ?_, b2, UA_tr a4 b3⟩
      rw [f_X12_daysUntilLeft_L22]
      refine brF (by (simp (disch := omega) only [lit_nI, nI_leI, nI_ltI, nI_eq, nI_clamp, nI_add, nI_sub, vB_nI, Nat.add_sub_cancel, Nat.reduceSub, Nat.reduceLT, Nat.reduceLeDiff, Nat.reduceAdd, gI_pI, p2_pI, Nat.reduceEqDiff, false_and, and_false, true_and, and_true, if_false, if_true, and_self] <;> omega)) (gdT hp.1 (sqT (bd0T a1 (bd1T hd (brT q (sqT ?_))))))
      rw [nI_1]; exact b1
    · rw [eu, if_neg q]
      refine ⟨w1, nI i, ?_, fun j e => (by cases e; rfl), a4⟩
      rw [f_X12_daysUntilLeft_L22]
      exact brF (by (simp (disch := omega) only [lit_nI, nI_leI, nI_ltI, nI_eq, nI_clamp, nI_add, nI_sub, vB_nI, Nat.add_sub_cancel, Nat.reduceSub, Nat.reduceLT, Nat.reduceLeDiff, Nat.reduceAdd, gI_pI, p2_pI, Nat.reduceEqDiff, false_and, and_false, true_and, and_true, if_false, if_true, and_self] <;> omega)) (gdT hp.1 (sqT (bd0T a1 (bd1T hd (brF q rfl)))))
theorem b_unt {H R r : Nat} {were : Int32} {os : List Od} (ho : ∀ o ∈ os, OdOK H R o ∧ (oSc o).length ≤ 400 ∧ (oTc o).length ≤ 400) (hr : r < R) : ∀ (d i n : Nat) (B : Int) (S : Gs) (w : Mm), i + d = 41 → d < n → 0 ≤ B → B + 12544 * d < 2147483648 → OK B H R S → PLB os w → gR w 32 0 11 + 10 ≤ gZ w → RB 1 H R S w → ∃ w' y, f_X14_untilLeft_L9 were 1 (nI r) n (nI i) w = some (match unt os r were d i S with | some j => 0 | none => 1, y, w') ∧ (∀ j, unt os r were d i S = some j → y = nI j) ∧ UB 1 w w'
  | 0, i, n + 1, B, S, w, hi, hf, hB0, hB, hO, hp, hz, hA => by
    refine ⟨w, nI i, ?_, fun j q => (by cases q), UB_rf⟩
    rw [f_X14_untilLeft_L9]
    exact brT (by (simp (disch := omega) only [lit_nI, nI_leI, nI_ltI, nI_eq, nI_clamp, nI_add, nI_sub, vB_nI, Nat.add_sub_cancel, Nat.reduceSub, Nat.reduceLT, Nat.reduceLeDiff, Nat.reduceAdd, gI_pI, p2_pI, Nat.reduceEqDiff, false_and, and_false, true_and, and_true, if_false, if_true, and_self] <;> omega)) rfl
  | d + 1, i, n + 1, B, S, w, hi, hf, hB0, hB, hO, hp, hz, hA => by
    have hR := hO.1.1.2.1
    obtain ⟨w1, a1, a2, a4⟩ := b_pass' (k := 1) (D := 1) (by omega) hB0 (by omega) hO hp ho hz hA
    have e4 := eqr_UB a4
    have a2 : RB 1 H R (sDay os S) w1 := a2
    have eu : unt os r were (d + 1) i S = if sg (sDay os S) 7 r ≤ were then unt os r were d (i + 1) (sDay os S) else some i := rfl
    have hl := (a2.2.2.2 r hr).2.2
    by_cases q : sg (sDay os S) 7 r ≤ were
    · obtain ⟨w', y, b1, b2, b3⟩ := b_unt (were := were) ho hr d (i + 1) n (B + 12544) (sDay os S) w1 (by omega) (by omega) (by omega) (by omega) (ok_day (by omega) hO hp.2.2.1 fun o q => (ho o q).1) (plb_eqr e4 hz hp) (hz_eqr e4 hz) a2
      rw [eu, if_pos q]
      refine ⟨w', y, ?_, b2, UB_tr a4 b3⟩
      rw [f_X14_untilLeft_L9]
      refine brF (by (simp (disch := omega) only [lit_nI, nI_leI, nI_ltI, nI_eq, nI_clamp, nI_add, nI_sub, vB_nI, Nat.add_sub_cancel, Nat.reduceSub, Nat.reduceLT, Nat.reduceLeDiff, Nat.reduceAdd, gI_pI, p2_pI, Nat.reduceEqDiff, false_and, and_false, true_and, and_true, if_false, if_true, and_self] <;> omega)) (bd1T a1 (gdT rfl (gdT ((vB_nI (by omega)).mpr (by omega)) ?_)))
      rw [nI_clamp (by omega), hl]
      refine brT q (sqT ?_)
      rw [nI_1]; exact b1
    · rw [eu, if_neg q]
      refine ⟨w1, nI i, ?_, fun j e => (by cases e; rfl), a4⟩
      rw [f_X14_untilLeft_L9]
      refine brF (by (simp (disch := omega) only [lit_nI, nI_leI, nI_ltI, nI_eq, nI_clamp, nI_add, nI_sub, vB_nI, Nat.add_sub_cancel, Nat.reduceSub, Nat.reduceLT, Nat.reduceLeDiff, Nat.reduceAdd, gI_pI, p2_pI, Nat.reduceEqDiff, false_and, and_false, true_and, and_true, if_false, if_true, and_self] <;> omega)) (bd1T a1 (gdT rfl (gdT ((vB_nI (by omega)).mpr (by omega)) ?_)))
      rw [nI_clamp (by omega), hl]
      exact brF q rfl
theorem z_daysUntilLeft {P : Nat → Nat → Mm → Prop} {b t : Nat} {w : Mm} {a : Int32} (hP : Stb P) (hPL : ∀ H R w, P H R w → PL H R w) (hI : Iv P b t w) (ht : t + 1 ≤ 512) : CZ (f_L_daysUntilLeft a w) (f_X15_daysUntilLeft b a) (Iv P b (t + 1)) := by
  obtain ⟨H, R, S, hA, hB, hO, ht0, hb, hp⟩ := id hI
  have hR := hO.1.1.2.1
  have hH := hO.1.1.1
  rcases hcase a (H := R) hR with ⟨r, hy, rfl⟩ | hi
  · obtain ⟨os, q1, q2, q3⟩ := hPL _ _ _ hp
    obtain ⟨u, u1, u2, u3⟩ := p_X1_copy hO.1.1 hA
    have hr3 : gI w 24 r 3 = sg S 7 r := by
      have := (hA.2.2.2 r hy).2.2.2
      rwa [show 8 * 0 + r = r by omega] at this
    obtain ⟨w1, y, a1, a2, a4⟩ := a_unt (were := sg S 7 r) q2.2.2.1 q3 hy 40 1 LF (376320 * t) S u (by omega) (by unfold LF; omega) (by omega) (by omega) hO (pla_eqr (eqr_UA u3) q1) u2
    have u4 := UA_tr u3 a4
    refine cz_mv (w1 := w1) (S' := S) (v := oI (unt os r (sg S 7 r) 40 1 S)) hP ht hb hp ?_ (eqr_UA u4) (ra_UA u4 hA hH hR (by omega)) (ok_mono hO (by omega)) fun z hz => ?_
    · unfold f_L_daysUntilLeft f_X12_daysUntilLeft
      refine bwT (bxT (a_rN hA hR hy) (gdT (by simp only [decide_eq_true_eq]; omega) ?_)) (gdT rfl rfl)
      rw [hr3]
      refine sqT (bd0T u1 (bd2T a1 ?_))
      cases e : unt os r (sg S 7 r) 40 1 S with
      | none => exact brF (by decide) rfl
      | some j => rw [a2 j e]; exact brT rfl rfl
    · have hE1 := eqr_tr (eqr_tr (eqr_UA u4) (eqr_pL (w := w1) (k := 0) (i := 0) (v := (oI (unt os r (sg S 7 r) 40 1 S)).toInt64))) (eqr_pZ hz)
      have hE2 := eqr_tr hE1 (eqr_pI (c := 32) (k := 0) (i := 0) (v := 0) (by omega))
      have hB1 : RB 0 H R S (pZ (pL w1 63 0 0 (oI (unt os r (sg S 7 r) 40 1 S)).toInt64) z) := (rb_UA u4 hB : RB 0 H R S w1)
      have hB2 := rb_o (c := 32) (k := 0) (i := 0) (v := 0) hB1 (by omega)
      obtain ⟨v, v1, v2, v3⟩ := p_X14_ahead (b := b) hO.1.1 (bt_eqr hb hE2).1 hB2
      have hE3 := eqr_tr hE2 (eqr_UB v3)
      obtain ⟨w2, y2, b1, b2, b3⟩ := b_unt (were := sg S 7 r) (fun o ho => ⟨q3 o ho, pl_len q1 ho⟩) hy 40 1 LF (376320 * t) S v (by omega) (by unfold LF; omega) (by omega) (by omega) hO (plb_eqr hE3 hb.2.2 q2) (hz_eqr hE3 hb.2.2) v2
      have b4 := UB_tr v3 b3
      refine ⟨w2, ?_, ?_, rb_UB b4 hB2 (by omega), fun c k i q => ?_, eqr_tr (eqr_pI (by omega)) (eqr_UB b4), b4.2⟩
      · unfold f_X15_daysUntilLeft
        refine bd1T (b_isR hB1 hR hy) (bd1T b_kn1 (brF (by decide) (bd1T v1 (gdT rfl (bd1T (x := oI (unt os r (sg S 7 r) 40 1 S)) (w := w2) ?_ rfl)))))
        unfold f_X14_untilLeft
        refine gdT ((vB_nI (by omega)).mpr (by omega)) ?_
        rw [nI_clamp (by omega), (v2.2.2.2 r hy).2.2]
        refine sqT (bd2T b1 ?_)
        cases e : unt os r (sg S 7 r) 40 1 S with
        | none => exact brF (by decide) rfl
        | some j => rw [b2 j e]; exact brT rfl rfl
      · rw [ub32 b4]; simp [gI_pI]
      · rw [b4.1 _ _ _ (by unfold ownB; omega), gI_pI, if_neg (by omega)]
  · refine cz_thr hP hI ht (c := 1) (by decide) ?_ fun z hz => ?_
    · unfold f_L_daysUntilLeft f_X12_daysUntilLeft
      exact bwE (bxE (a_rNi hA hi) rfl) (brT rfl rfl)
    · refine ⟨0, _, ?_, by simp [gI_pI], Or.inl rfl⟩
      unfold f_X15_daysUntilLeft
      exact bd1T (b_isRi (show RB 0 H R S (pZ w z) from hB) hR hi) (bd1T b_kn0 (brT rfl rfl))
