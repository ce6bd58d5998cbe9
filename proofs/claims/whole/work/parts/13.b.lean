-- THE PURE PART: a day's end, days
def dec1 (p : Int32) : Int32 := if p ≤ 0 then p else p - 1
def sEnd (S : Gs) : Gs := (fun c i => if c = 5 then dec1 (sg S 5 i) else if c = 0 ∧ i = 0 then sg S 0 0 + 1 else sg S c i, S.2)
def sDay (os : List Od) (S : Gs) : Gs := sEnd (os.foldl sOrd S)
def itS (os : List Od) : Nat → Gs → Gs
  | 0, S => S
  | n + 1, S => itS os n (sDay os S)
theorem sg_end {S : Gs} {c i : Nat} : sg (sEnd S) c i = if c = 5 then dec1 (sg S 5 i) else if c = 0 ∧ i = 0 then sg S 0 0 + 1 else sg S c i := rfl
theorem sr_end {S : Gs} : sr (sEnd S) = sr S := rfl
theorem dec1_b {p : Int32} {B : Int} (h : 0 ≤ p.toInt ∧ p.toInt ≤ B) : 0 ≤ (dec1 p).toInt ∧ (dec1 p).toInt ≤ B := by
  have e1 := i_1
  unfold dec1
  split
  · exact h
  · rename_i q
    have q := Int32.not_le.mp q
    have q := Int32.lt_iff_toInt_lt.mp q
    rw [i_0] at q
    have hb := p.toInt_lt
    rw [i_sub (by omega) (by omega)]
    omega
theorem ok_end {B : Int} {H R : Nat} {S : Gs} (h : OK B H R S) : OK B H R (sEnd S) := by
  obtain ⟨⟨s1, s2, s3, s4⟩, p⟩ := h
  refine ⟨⟨s1, fun y hy => by simpa [sg_end] using s2 y hy, fun y hy => by simpa [sg_end] using s3 y hy, ?_⟩, fun r hr => ?_⟩
  · have e : sg (sEnd S) 7 = sg S 7 := by funext i; simp [sg_end]
    rw [e]; simpa [sg_end] using s4
  · have := dec1_b (p r hr)
    simpa [sg_end] using this
theorem a_end_L2 {g : Nat} : ∀ (d i n : Nat) (w : Mm), i + d = 8 → d < n → ∃ w', f_X1_endDay_L2 g n (nI i) w = some w' ∧ w'.2 = w.2 ∧ (∀ c k j, ¬ (c = 24 ∧ 8 * g ≤ k ∧ k < 8 * g + 8 ∧ j = 1) → gI w' c k j = gI w c k j) ∧ (∀ r, r < 8 → gI w' 24 (8 * g + r) 1 = if i ≤ r then dec1 (gI w 24 (8 * g + r) 1) else gI w 24 (8 * g + r) 1)
  | 0, i, n + 1, w, hi, hf => by
    have hi : i = 8 := by omega
    subst hi
    refine ⟨w, ?_, rfl, fun _ _ _ _ => rfl, fun r hr => by rw [if_neg]; omega⟩
    rw [f_X1_endDay_L2]
    exact brT (by decide) rfl
  | d + 1, i, n + 1, w, hi, hf => by
    have hv : vB (nI i) 8 = true := (vB_nI (by omega)).mpr (by omega)
    by_cases q : gI w 24 (8 * g + i) 1 ≤ 0
    · obtain ⟨w', h1, h2, h3, h4⟩ := a_end_L2 (g := g) d (i + 1) n w (by omega) (by omega)
      refine ⟨w', ?_, h2, h3, fun r hr => ?_⟩
      · rw [f_X1_endDay_L2]
        refine brF (by (simp (disch := omega) only [lit_nI, nI_leI, nI_ltI, nI_eq, nI_clamp, nI_add, nI_sub, vB_nI, Nat.add_sub_cancel, Nat.reduceSub, Nat.reduceLT, Nat.reduceLeDiff, Nat.reduceAdd, gI_pI, p2_pI, Nat.reduceEqDiff, false_and, and_false, true_and, and_true, if_false, if_true, and_self] <;> omega)) (gdT hv ?_)
        rw [nI_clamp (by omega)]
        refine brT q (sqT ?_)
        rw [nI_1]; exact h1
      · rw [h4 r hr]
        by_cases e : r = i
        · subst e
          rw [if_neg (by omega), if_pos (by omega)]
          unfold dec1; rw [if_pos q]
        · by_cases e2 : i + 1 ≤ r
          · rw [if_pos e2, if_pos (by omega)]
          · rw [if_neg e2, if_neg (by omega)]
    · obtain ⟨w', h1, h2, h3, h4⟩ := a_end_L2 (g := g) d (i + 1) n (pI w 24 (8 * g + i) 1 (gI w 24 (8 * g + i) 1 - 1)) (by omega) (by omega)
      refine ⟨w', ?_, h2, fun c k j qq => ?_, fun r hr => ?_⟩
      · rw [f_X1_endDay_L2]
        refine brF (by (simp (disch := omega) only [lit_nI, nI_leI, nI_ltI, nI_eq, nI_clamp, nI_add, nI_sub, vB_nI, Nat.add_sub_cancel, Nat.reduceSub, Nat.reduceLT, Nat.reduceLeDiff, Nat.reduceAdd, gI_pI, p2_pI, Nat.reduceEqDiff, false_and, and_false, true_and, and_true, if_false, if_true, and_self] <;> omega)) (gdT hv ?_)
        rw [nI_clamp (by omega)]
        refine brF q (gdT hv (sqT (sqT ?_)))
        rw [nI_1]; exact h1
      · rw [h3 c k j qq, gI_pI, if_neg (by omega)]
      · rw [h4 r hr]
        by_cases e : r = i
        · subst e
          rw [if_neg (by omega), if_pos (by omega), gI_pI, if_pos ⟨rfl, rfl, rfl⟩]
          unfold dec1; rw [if_neg q]
        · by_cases e2 : i + 1 ≤ r
          · rw [if_pos e2, if_pos (by omega), gI_pI, if_neg (by omega)]
          · rw [if_neg e2, if_neg (by omega), gI_pI, if_neg (by omega)]
theorem a_end {g H R : Nat} {S : Gs} {w : Mm} (hH : H ≤ 8) (hR : R ≤ 8) (hA : RA g H R S w) : ∃ w', f_X1_endDay g w = some w' ∧ RA g H R (sEnd S) w' ∧ UA g w w' := by
  obtain ⟨w1, h1, h2, h3, h4⟩ := a_end_L2 (g := g) 8 0 LF w rfl (by unfold LF; omega)
  obtain ⟨⟨x1, x2⟩, ⟨b1, b2, b3, b4, b5⟩, c, d⟩ := hA
  have e19 : ∀ i, gI w1 19 g i = gI w 19 g i := fun i => h3 _ _ _ (by omega)
  refine ⟨pI w1 19 g 4 (sg S 0 0 + 1), ?_, ⟨⟨?_, ?_⟩, ⟨?_, ?_, ?_, ?_, ?_⟩, fun h hh => ?_, fun r hr => ?_⟩, UA_p ⟨fun c k i q => h3 _ _ _ (fun q' => q (by unfold ownA; omega)), h2⟩ (by unfold ownA; omega)⟩
  · unfold f_X1_endDay
    refine bd0T h1 ?_
    rw [e19, b1]
    rfl
  · simp [gI_pI, e19, x1]
  · simp [gI_pI, e19, x2]
  · simp [gI_pI, sg_end]
  · simp [gI_pI, sg_end, e19, b2]
  · simp [gI_pI, sg_end, e19, b3]
  · simp [gI_pI, sg_end, e19, b4]
  · simp [gI_pI, sg_end, e19, b5]
  · obtain ⟨c1, c2, c3, c4, c5⟩ := c h hh
    have e : ∀ cc i, (cc = 22 ∨ cc = 23) → gI (pI w1 19 g 4 (sg S 0 0 + 1)) cc (8 * g + h) i = gI w cc (8 * g + h) i := fun cc i q => by rw [gI_pI, if_neg (by omega), h3 _ _ _ (by omega)]
    simp only [e 22 _ (Or.inl rfl), e 23 _ (Or.inr rfl), sr_end]
    refine ⟨by simpa [sg_end] using c1, by simpa [sg_end] using c2, by simpa [sg_end] using c3, c4, c5⟩
  · obtain ⟨d1, d2, d3, d4⟩ := d r hr
    have e : ∀ i, i ≠ 1 → gI (pI w1 19 g 4 (sg S 0 0 + 1)) 24 (8 * g + r) i = gI w 24 (8 * g + r) i := fun i q => by rw [gI_pI, if_neg (by omega), h3 _ _ _ (by omega)]
    have e' : gI (pI w1 19 g 4 (sg S 0 0 + 1)) 24 (8 * g + r) 1 = dec1 (sg S 5 r) := by rw [gI_pI, if_neg (by omega), h4 r (by omega), if_pos (Nat.zero_le _), d2]
    rw [e 0 (by omega), e', e 2 (by omega), e 3 (by omega)]
    refine ⟨by simpa [sg_end] using d1, by simp [sg_end], by simpa [sg_end] using d3, by simpa [sg_end] using d4⟩
theorem dec1_m {p : Int32} (h : 0 ≤ p.toInt) : jmmax 0 (p - 1) = dec1 p := by
  have e0 := i_0
  have e1 := i_1
  have hb := p.toInt_lt
  have hs : (p - 1).toInt = p.toInt - 1 := by rw [i_sub] <;> omega
  unfold jmmax dec1
  by_cases q : p ≤ 0
  · have q' := Int32.le_iff_toInt_le.mp q
    rw [if_neg (by rw [Int32.lt_iff_toInt_lt]; omega), if_pos q]
    exact Int32.toInt_inj.mp (by omega)
  · have q' := Int32.lt_iff_toInt_lt.mp (Int32.not_le.mp q)
    rw [if_neg q]
    by_cases q2 : 0 < p - 1
    · rw [if_pos q2]
    · rw [if_neg q2]
      have q3 := Int32.le_iff_toInt_le.mp (Int32.not_lt.mp q2)
      exact Int32.toInt_inj.mp (by omega)
theorem b_end_L {k H R : Nat} {z1 z2 : Int32} {S : Gs} (hR : R ≤ 8) (hp : ∀ r, r < R → 0 ≤ (sg S 5 r).toInt) : ∀ (d i n : Nat) (w : Mm), i + d = R → d < n → PB H R S w → (∀ r, r < R → i ≤ r → gI w 60 k r = sg S 5 r) → ∃ w', f_X14_pass_L120 k z1 z2 n (nI i) w = some w' ∧ w'.2 = w.2 ∧ (∀ c k' j, ¬ (c = 60 ∧ k' = k) → gI w' c k' j = gI w c k' j) ∧ (∀ r, r < R → gI w' 60 k r = if i ≤ r then dec1 (sg S 5 r) else gI w 60 k r)
  | 0, i, n + 1, w, hi, hf, hB, h60 => by
    obtain ⟨p1, p2, p3, p4, p5, p6, p7, p8⟩ := hB
    have hi : i = R := by omega
    subst hi
    refine ⟨w, ?_, rfl, fun _ _ _ _ => rfl, fun r hr => by rw [if_neg]; omega⟩
    rw [f_X14_pass_L120]
    refine gdT p1 (sqT (gdT p2 ?_))
    rw [p6]
    exact brT (nI_le (Nat.le_refl _) (by omega)) rfl
  | d + 1, i, n + 1, w, hi, hf, hB, h60 => by
    obtain ⟨p1, p2, p3, p4, p5, p6, p7, p8⟩ := id hB
    have hv : vB (nI i) 8 = true := (vB_nI (by omega)).mpr (by omega)
    obtain ⟨w', h1, h2, h3, h4⟩ := b_end_L (k := k) (z1 := z1) (z2 := z2) hR hp d (i + 1) n (pI w 60 k i (dec1 (sg S 5 i))) (by omega) (by omega) (pb_cg hB rfl (fun c k i q1 q2 => by rw [gI_pI, if_neg (by omega)]) (fun _ => rfl) (fun _ => rfl)) (fun r hr hi => by rw [gI_pI, if_neg (by omega)]; exact h60 r hr (by omega))
    refine ⟨w', ?_, h2, fun c k' j q => ?_, fun r hr => ?_⟩
    · rw [f_X14_pass_L120]
      refine gdT p1 (sqT (gdT p2 ?_))
      rw [p6]
      refine brF (nI_ge (by omega) (by omega)) (gdT hv (gdT hv ?_))
      rw [nI_clamp (by omega), h60 i (by omega) (Nat.le_refl _), dec1_m (hp i (by omega)), nI_1]
      exact sqT (sqT h1)
    · rw [h3 c k' j q, gI_pI, if_neg (by omega)]
    · rw [h4 r hr]
      by_cases e : r = i
      · subst e; rw [if_neg (by omega), if_pos (by omega)]; simp [gI_pI]
      · by_cases e2 : i + 1 ≤ r
        · rw [if_pos e2, if_pos (by omega)]
        · rw [if_neg e2, if_neg (by omega), gI_pI, if_neg (by omega)]
theorem b_end {k H R : Nat} {z1 z2 : Int32} {S : Gs} {w : Mm} (hH : H ≤ 8) (hR : R ≤ 8) (hp : ∀ r, r < R → 0 ≤ (sg S 5 r).toInt) (hB : RB k H R S w) : ∃ w', f_X14_pass_L120 k z1 z2 LF 0 w = some w' ∧ RB k H R (sEnd S) (pI w' 55 k 0 (gI w' 55 k 0 + 1)) ∧ UB k w (pI w' 55 k 0 (gI w' 55 k 0 + 1)) := by
  obtain ⟨w1, h1, h2, h3, h4⟩ := b_end_L (k := k) (z1 := z1) (z2 := z2) hR hp R 0 LF w (by omega) (by unfold LF; omega) hB.1 (fun r hr _ => (hB.2.2.2 r hr).1)
  obtain ⟨pb, ⟨b1, b2, b3, b4⟩, c, d⟩ := hB
  have e55 : ∀ i, gI w1 55 k i = gI w 55 k i := fun i => h3 _ _ _ (by omega)
  refine ⟨w1, h1, ⟨pb_cg pb h2 (fun c k' i q1 q2 => by rw [gI_pI, if_neg (by omega), h3 _ _ _ (by omega)]) (fun x => by simp [sg_end]) (fun x => by simp [sg_end]), ⟨?_, ?_, ?_, ?_⟩, fun h hh => ?_, fun r hr => ?_⟩, UB_p ⟨fun c k' i q => h3 _ _ _ (fun q' => q (by unfold ownB; omega)), h2⟩ (by unfold ownB; omega)⟩
  · simp [gI_pI, sg_end, e55, b1]
  · simp [gI_pI, sg_end, e55, b2]
  · simp [gI_pI, sg_end, e55, b3]
  · simp [gI_pI, sg_end, e55, b4]
  · obtain ⟨c1, c2, c3, c4⟩ := c h hh
    have e : ∀ cc i, 56 ≤ cc → cc ≤ 59 → gI (pI w1 55 k 0 (gI w1 55 k 0 + 1)) cc k i = gI w cc k i := fun cc i q q' => by rw [gI_pI, if_neg (by omega), h3 _ _ _ (by omega)]
    simp only [e 56 _ (by omega) (by omega), e 57 _ (by omega) (by omega), e 58 _ (by omega) (by omega), e 59 _ (by omega) (by omega), sr_end]
    exact ⟨by simpa [sg_end] using c1, by simpa [sg_end] using c2, c3, c4⟩
  · obtain ⟨d1, d2, d3⟩ := d r hr
    have e : ∀ cc i, 61 ≤ cc → cc ≤ 62 → gI (pI w1 55 k 0 (gI w1 55 k 0 + 1)) cc k i = gI w cc k i := fun cc i q q' => by rw [gI_pI, if_neg (by omega), h3 _ _ _ (by omega)]
    rw [e 61 _ (by omega) (by omega), e 62 _ (by omega) (by omega), gI_pI, if_neg (by omega), h4 r hr, if_pos (Nat.zero_le _)]
    exact ⟨by simp [sg_end], by simpa [sg_end] using d2, by simpa [sg_end] using d3⟩
-- a day
theorem od_len {os : List Od} {o : Od} (h : o ∈ os) : (odC o).length ≤ (os.flatMap odC).length := by
  induction os with
  | nil => cases h
  | cons a t ih =>
    rw [List.flatMap_cons, List.length_append]
    rcases List.mem_cons.mp h with e | e
    · rw [e]; omega
    · have := ih e; omega
theorem pl_len {os : List Od} {w : Mm} (h : PLA os w) {o : Od} (ho : o ∈ os) : (oSc o).length ≤ 400 ∧ (oTc o).length ≤ 400 := by
  have h1 := od_len ho
  have h2 := h.2.2.1
  have : (odC o).length = (oSc o).length + (oTc o).length + 1 := by unfold odC; simp only [List.length_append, List.length_singleton]
  omega
theorem a_day {B : Int} {g H R : Nat} {os : List Od} {S : Gs} {w : Mm} (hg : g < 2) (hB : B + 12544 < 2147483648) (hO : OK B H R S) (hp : PLA os w) (h16 : os.length ≤ 16) (ho : ∀ o ∈ os, OdOK H R o) (hA : RA g H R S w) : ∃ w', f_X2_letDayPass (gR w 1 0 7 - 1) g w = some w' ∧ RA g H R (sDay os S) w' ∧ OK (B + 12544) H R (sDay os S) ∧ UA g w w' := by
  have hH := hO.1.1.1
  have hR := hO.1.1.2.1
  obtain ⟨p1, p2, p3, p4⟩ := hp
  have hA0 : RA g H R S (pI w 17 0 2 0) := ra_o hA hH hR (by omega)
  obtain ⟨w1, a1, a2, a3, a4, a5⟩ := a_ords (z := gR w 1 0 7 - 1) (g := g) (N := (os.flatMap odC).length) hg p3 os B 0 S (pI w 17 0 2 0) ho (by omega) hO (fun j k a b q => by
    have := p4 j k a b q
    rw [gI_pI, if_neg (by omega), gI_pI, if_neg (by omega)]
    exact this) (by rw [gI_pI, if_neg (by omega)]; exact p2) (by omega) hA0 ⟨by simp [gI_pI]; rfl, fun j v e => by simp at e⟩
  obtain ⟨w2, b1, b2, b3⟩ := a_end hH hR a2
  refine ⟨w2, ?_, b2, ok_end (ok_mono a3 (by omega)), UA_tr (UA_tr ua_h a5) b3⟩
  unfold f_X2_letDayPass
  have e := a1 (LF - (os.flatMap odC).length - 1 + 1)
  have eL : LF - (os.flatMap odC).length - 1 + 1 + (os.flatMap odC).length = LF := by unfold LF; omega
  rw [eL, Nat.zero_add] at e
  refine sqT (bd0T (w := w1) ?_ (bd0T b1 rfl))
  refine Eq.trans e ?_
  rw [f_X2_letDayPass_L7, a5.1 _ _ _ (by unfold ownA; omega)]
  rw [gI_pI, if_neg (by omega), p2]
  exact brT (nI_le (Nat.le_refl _) (by omega)) rfl
theorem b_day {B : Int} {k H R : Nat} {z1 z2 : Int32} {os : List Od} {S : Gs} {w : Mm} (hB0 : B + 12544 < 2147483648) (hO : OK B H R S) (hp : PLB os w) (hz : gR w 32 0 11 + 10 ≤ gZ w) (ho : ∀ o ∈ os, OdOK H R o ∧ (oSc o).length ≤ 400 ∧ (oTc o).length ≤ 400) (hB : RB k H R S w) :
    ∃ w1 w2, f_X14_pass_L9 k z1 z2 LF 0 w = some w1 ∧ f_X14_pass_L120 k z1 z2 LF 0 w1 = some w2 ∧ RB k H R (sDay os S) (pI w2 55 k 0 (gI w2 55 k 0 + 1)) ∧ UB k w (pI w2 55 k 0 (gI w2 55 k 0 + 1)) := by
  have hH := hO.1.1.1
  have hR := hO.1.1.2.1
  obtain ⟨p1, p2, p3, p4⟩ := hp
  have hOf : OK (B + 784 * os.length) H R (os.foldl sOrd S) := by
    have : ∀ (l : List Od) (B : Int) (S : Gs), (∀ o ∈ l, OdOK H R o) → B + 784 * l.length < 2147483648 → OK B H R S → OK (B + 784 * l.length) H R (l.foldl sOrd S) := by
      intro l
      induction l with
      | nil => intro B S _ _ q; simpa using q
      | cons a t ih =>
        intro B S h1 h2 h3
        simp only [List.length_cons] at h2 ⊢
        exact ok_mono (ih (B + 784) (sOrd S a) (fun o q => h1 o (List.mem_cons_of_mem _ q)) (by omega) (ok_ord (by omega) h3 (h1 a List.mem_cons_self))) (by omega)
    exact this os B S (fun o q => (ho o q).1) (by omega) hO
  obtain ⟨w1, a1, a2, a3⟩ := b_ords (k := k) (z1 := z1) (z2 := z2) (N := os.length) p3 os B 0 S w ho (by omega) hO (fun i o q => by rw [Nat.zero_add]; exact p4 i o q) p2 (by omega) p1 hz hB
  obtain ⟨w2, b1, b2, b3⟩ := b_end (z1 := z1) (z2 := z2) hH hR (fun r hr => (hOf.2 r hr).1) a2
  refine ⟨w1, w2, ?_, b1, b2, UB_tr a3 b3⟩
  have e := a1 (LF - os.length - 1 + 1)
  have eL : LF - os.length - 1 + 1 + os.length = LF := by unfold LF; omega
  rw [eL] at e
  have eR : gR w1 32 0 11 = gR w 32 0 11 := by rw [gR_2 a3.2]
  rw [show (0 : Int32) = nI 0 from rfl, e, f_X14_pass_L9]
  refine gdT a2.1.1 (sqT (gdT a2.1.2.1 ?_))
  rw [eR, a3.1 _ _ _ (by unfold ownB; omega), p2]
  exact brT (nI_le (Nat.le_refl _) (by omega)) rfl
