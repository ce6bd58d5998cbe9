-- THE PURE PART: listening and leaving
def SH (H R : Nat) (S : Gs) : Prop := H ≤ 8 ∧ R ≤ 8 ∧ ∀ h, h < H → (sr S h).Nodup ∧ ∀ x ∈ sr S h, (x < H ∧ x ≠ h) ∨ (8 ≤ x ∧ x < 8 + R)
theorem nodup_le : ∀ (l L : List Nat), l.Nodup → (∀ x ∈ l, x ∈ L) → l.length ≤ L.length
  | [], L, _, _ => Nat.zero_le _
  | a :: t, L, hn, hs => by
    obtain ⟨h1, h2⟩ := List.nodup_cons.mp hn
    have h3 : a ∈ L := hs a List.mem_cons_self
    have h4 := nodup_le t (L.erase a) h2 fun x hx => by
      have hne : x ≠ a := fun e => h1 (e ▸ hx)
      exact (List.mem_erase_of_ne hne).mpr (hs x (List.mem_cons_of_mem _ hx))
    rw [List.length_erase_of_mem h3] at h4
    have : 0 < L.length := List.length_pos_of_mem h3
    simp only [List.length_cons]
    omega
theorem sh_len {H R h : Nat} {S : Gs} (q : SH H R S) (hh : h < H) : (sr S h).length ≤ 15 := by
  obtain ⟨q1, q2, q3⟩ := q
  obtain ⟨n1, n2⟩ := q3 h hh
  have e : ((List.range 16).erase h).length = 15 := by
    rw [List.length_erase_of_mem (List.mem_range.mpr (by omega)), List.length_range]
  rw [← e]
  refine nodup_le _ _ n1 fun x hx => ?_
  have := n2 x hx
  exact (List.mem_erase_of_ne (by omega)).mpr (List.mem_range.mpr (by omega))
theorem sh_el {H R h : Nat} {S : Gs} (q : SH H R S) (hh : h < H) : ∀ x ∈ sr S h, x < 16 := fun x hx => by
  have := (q.2.2 h hh).2 x hx
  have := q.1
  have := q.2.1
  omega
theorem place_0 {l : List Nat} {x : Nat} (hl : l.length ≤ 16) : (place l x < 0) ↔ x ∉ l := by
  unfold place
  cases e : plc x l 0 with
  | none => exact ⟨fun _ => plc_none.mp e, fun _ => by decide⟩
  | some j =>
    have h := plc_some e
    refine ⟨fun q => absurd q (nI_pos (by omega)), fun q => ?_⟩
    have := plc_none (i := 0).mpr q
    rw [e] at this
    cases this
theorem place_1 {l : List Nat} {x : Nat} (hl : l.length ≤ 16) : (0 ≤ place l x) ↔ x ∈ l := by
  have h := place_0 (x := x) hl
  rw [← Int32.not_lt, h]
  exact Decidable.not_not
theorem place_m1 {l : List Nat} {x : Nat} (hl : l.length ≤ 16) : (place l x = -1) ↔ x ∉ l := by
  unfold place
  cases e : plc x l 0 with
  | none => exact ⟨fun _ => plc_none.mp e, fun _ => rfl⟩
  | some j =>
    have h := plc_some e
    refine ⟨fun q => ((nI_m1 (by omega)).mp q).elim, fun q => ?_⟩
    have := plc_none (i := 0).mpr q
    rw [e] at this
    cases this
def canL (S : Gs) (h x : Nat) : Bool := decide (x ≠ h) && decide (x ∉ sr S h)
def sLis (S : Gs) (h x : Nat) : Gs := if 8 ≤ x then pg (pr S h (sr S h ++ [x])) 6 (x - 8) 0 else pr S h (sr S h ++ [x])
def sLea (S : Gs) (h x : Nat) : Gs := match plc x (sr S h) 0 with
  | some j => pr S h ((sr S h).eraseIdx j)
  | none => S
theorem nI_m8 {x : Nat} (h : x < 8) : nI x - 8 < 0 := by
  have e : x = 0 ∨ x = 1 ∨ x = 2 ∨ x = 3 ∨ x = 4 ∨ x = 5 ∨ x = 6 ∨ x = 7 := by omega
  rcases e with rfl | rfl | rfl | rfl | rfl | rfl | rfl | rfl <;> decide
theorem nI_m8' {x : Nat} (h : 8 ≤ x) : nI x - 8 = nI (x - 8) := by rw [lit_nI, nI_sub h]
theorem p_X1_hedge {g H R h : Nat} {S : Gs} {w : Mm} (hA : RA g H R S w) (hH : H ≤ 8) (hh : h < H) : f_X1_hedge g (nI h) w = some (some (8 * g + h), w) := by
  have e := hA.1.1
  unfold f_X1_hedge
  repeat (first | (refine brT ?_ ?_; focus ((simp (disch := omega) only [lit_nI, nI_leI, nI_ltI, nI_eq, nI_clamp, nI_add, nI_sub, vB_nI, Nat.add_sub_cancel, Nat.reduceSub, Nat.reduceLT, Nat.reduceLeDiff, Nat.reduceAdd, gI_pI, p2_pI, Nat.reduceEqDiff, false_and, and_false, true_and, and_true, if_false, if_true, and_self, e] <;> omega); done)) | (refine brF ?_ ?_; focus ((simp (disch := omega) only [lit_nI, nI_leI, nI_ltI, nI_eq, nI_clamp, nI_add, nI_sub, vB_nI, Nat.add_sub_cancel, Nat.reduceSub, Nat.reduceLT, Nat.reduceLeDiff, Nat.reduceAdd, gI_pI, p2_pI, Nat.reduceEqDiff, false_and, and_false, true_and, and_true, if_false, if_true, and_self, e] <;> omega); done)) | (refine gdT ?_ ?_; focus ((simp (disch := omega) only [lit_nI, nI_leI, nI_ltI, nI_eq, nI_clamp, nI_add, nI_sub, vB_nI, Nat.add_sub_cancel, Nat.reduceSub, Nat.reduceLT, Nat.reduceLeDiff, Nat.reduceAdd, gI_pI, p2_pI, Nat.reduceEqDiff, false_and, and_false, true_and, and_true, if_false, if_true, and_self, e] <;> omega); done)) | with_reducible refine sqT ?_)
  rw [nI_clamp (by omega)]
theorem p_X1_rose {g H R r : Nat} {S : Gs} {w : Mm} (hA : RA g H R S w) (hR : R ≤ 8) (hr : r < R) : f_X1_rose g (nI r) w = some (some (8 * g + r), w) := by
  have e := hA.1.2
  unfold f_X1_rose
  repeat (first | (refine brT ?_ ?_; focus ((simp (disch := omega) only [lit_nI, nI_leI, nI_ltI, nI_eq, nI_clamp, nI_add, nI_sub, vB_nI, Nat.add_sub_cancel, Nat.reduceSub, Nat.reduceLT, Nat.reduceLeDiff, Nat.reduceAdd, gI_pI, p2_pI, Nat.reduceEqDiff, false_and, and_false, true_and, and_true, if_false, if_true, and_self, e] <;> omega); done)) | (refine brF ?_ ?_; focus ((simp (disch := omega) only [lit_nI, nI_leI, nI_ltI, nI_eq, nI_clamp, nI_add, nI_sub, vB_nI, Nat.add_sub_cancel, Nat.reduceSub, Nat.reduceLT, Nat.reduceLeDiff, Nat.reduceAdd, gI_pI, p2_pI, Nat.reduceEqDiff, false_and, and_false, true_and, and_true, if_false, if_true, and_self, e] <;> omega); done)) | (refine gdT ?_ ?_; focus ((simp (disch := omega) only [lit_nI, nI_leI, nI_ltI, nI_eq, nI_clamp, nI_add, nI_sub, vB_nI, Nat.add_sub_cancel, Nat.reduceSub, Nat.reduceLT, Nat.reduceLeDiff, Nat.reduceAdd, gI_pI, p2_pI, Nat.reduceEqDiff, false_and, and_false, true_and, and_true, if_false, if_true, and_self, e] <;> omega); done)) | with_reducible refine sqT ?_)
  rw [nI_clamp (by omega)]
theorem p_X1_rose_n {g : Nat} {a : Int32} {w : Mm} (h : a < 0) : f_X1_rose g a w = some (none, w) := by
  unfold f_X1_rose
  exact brT h rfl
theorem p_X1_startListening {g H R h x : Nat} {S : Gs} {w : Mm} (hg : g < 2) (hS : SH H R S) (hA : RA g H R S w) (hh : h < H) (hx : x < H ∨ (8 ≤ x ∧ x < 8 + R)) :
    ∃ w', f_X1_startListening g (nI x) (nI h) w = some (if canL S h x then 1 else 0, w') ∧ RA g H R (if canL S h x then sLis S h x else S) w' ∧ UA g w w' ∧ (canL S h x = false → w' = w) := by
  obtain ⟨c1, c2, c3, c4, c5⟩ := hA.2.2.1 h hh
  have hH := hS.1
  have hR := hS.2.1
  have hlen := sh_len hS hh
  have hel := sh_el hS hh
  have hx16 : x < 16 := by omega
  have hpl : f_X3_placeOf (8 * g + h) (nI x) w = some (place (sr S h) x, w) := p_X3_placeOf c4 c5 (by omega) (fun y hy => by have := hel y hy; omega) (by omega)
  by_cases e : x = h
  · subst e
    refine ⟨w, ?_, ?_, UA_rf, fun _ => rfl⟩
    · unfold f_X1_startListening
      refine bd1T (p_X1_hedge hA hH hh) ?_
      refine gdT (by simp only [decide_eq_true_eq]; omega) (brT rfl ?_)
      simp [canL]
    · simp only [canL, ne_eq, not_true_eq_false, decide_false, Bool.false_and, Bool.false_eq_true, if_false]
      exact hA
  · by_cases m : x ∈ sr S h
    · refine ⟨w, ?_, ?_, UA_rf, fun _ => rfl⟩
      · unfold f_X1_startListening
        refine bd1T (p_X1_hedge hA hH hh) ?_
        refine gdT (by simp only [decide_eq_true_eq]; omega) (brF (by rw [nI_eq (by omega) (by omega)]; exact e) ?_)
        refine bd1T hpl (brF ?_ ?_)
        · rw [place_0 (by omega)]; exact fun q => q m
        · simp [canL, m]
      · simp only [canL, m, not_true_eq_false, decide_false, Bool.and_false, Bool.false_eq_true, if_false]
        exact hA
    · have hc : canL S h x = true := by simp [canL, e, m]
      rw [if_pos hc, if_pos hc]
      have h1 := p_X3_add (x := x) c4 (by omega)
      have hU : UA g w (pI (pI w 23 (8 * g + h) (sr S h).length (nI x)) 22 (8 * g + h) 3 (nI ((sr S h).length + 1))) := UA_p (UA_p UA_rf (by unfold ownA; omega)) (by unfold ownA; omega)
      have hA1 : RA g H R (pr S h (sr S h ++ [x])) (pI (pI w 23 (8 * g + h) (sr S h).length (nI x)) 22 (8 * g + h) 3 (nI ((sr S h).length + 1))) := by
        refine ra_w hA hH hh hR (fun c k i q q2 => ?_) ?_ ?_
        · rw [gI_pI, if_neg (by omega), gI_pI, if_neg (by omega)]
        · rw [gI_pI, if_pos ⟨rfl, rfl, rfl⟩, List.length_append]; rfl
        · refine rw_app c5 (fun p hp => ?_) ?_
          · simp only [gI_pI]; rw [if_neg (by omega), if_neg (by omega)]
          · simp [gI_pI]
      by_cases x8 : 8 ≤ x
      · have er : nI x - 8 = nI (x - 8) := nI_m8' x8
        refine ⟨_, ?_, by unfold sLis; rw [if_pos x8]; exact ra_r (j := 2) hA1 (by omega), UA_p hU (by unfold ownA; omega), fun q => (by rw [hc] at q; cases q)⟩
        unfold f_X1_startListening
        refine bd1T (p_X1_hedge hA hH hh) ?_
        refine gdT (by simp only [decide_eq_true_eq]; omega) (brF (by rw [nI_eq (by omega) (by omega)]; exact e) ?_)
        refine bd1T hpl (brT ?_ ?_)
        · rw [place_0 (by omega)]; exact m
        refine bd0T h1 ?_
        rw [er]
        refine bd1T (p_X1_rose hA1 hR (by omega)) ?_
        exact gdT (by simp only [decide_eq_true_eq]; omega) rfl
      · refine ⟨_, ?_, by unfold sLis; rw [if_neg x8]; exact hA1, hU, fun q => (by rw [hc] at q; cases q)⟩
        unfold f_X1_startListening
        refine bd1T (p_X1_hedge hA hH hh) ?_
        refine gdT (by simp only [decide_eq_true_eq]; omega) (brF (by rw [nI_eq (by omega) (by omega)]; exact e) ?_)
        refine bd1T hpl (brT ?_ ?_)
        · rw [place_0 (by omega)]; exact m
        refine bd0T h1 ?_
        refine bd1T (p_X1_rose_n (nI_m8 (by omega))) ?_
        rfl
theorem p_X1_stopListening {g H R h x : Nat} {S : Gs} {w : Mm} (hg : g < 2) (hS : SH H R S) (hA : RA g H R S w) (hh : h < H) (hx : x < 16) :
    ∃ w', f_X1_stopListening g (nI x) (nI h) w = some (if x ∈ sr S h then 1 else 0, w') ∧ RA g H R (sLea S h x) w' ∧ UA g w w' ∧ (x ∉ sr S h → w' = w) := by
  obtain ⟨c1, c2, c3, c4, c5⟩ := hA.2.2.1 h hh
  have hH := hS.1
  have hR := hS.2.1
  have hlen := sh_len hS hh
  have hel := sh_el hS hh
  have hpl : f_X3_placeOf (8 * g + h) (nI x) w = some (place (sr S h) x, w) := p_X3_placeOf c4 c5 (by omega) (fun y hy => by have := hel y hy; omega) (by omega)
  cases e : plc x (sr S h) 0 with
  | none =>
    have m : x ∉ sr S h := plc_none.mp e
    refine ⟨w, ?_, by unfold sLea; rw [e]; exact hA, UA_rf, fun _ => rfl⟩
    unfold f_X1_stopListening
    refine bd1T (p_X1_hedge hA hH hh) ?_
    refine gdT (by simp only [decide_eq_true_eq]; omega) (bd1T hpl (brF ?_ ?_))
    · rw [place_1 (by omega)]; exact m
    · rw [if_neg m]
  | some j =>
    have hj := plc_some e
    have m : x ∈ sr S h := by
      apply Decidable.byContradiction
      intro q
      rw [plc_none (i := 0).mpr q] at e
      cases e
    obtain ⟨w', k1, k2, k3, k4, k5⟩ := p_X3_removeAt (j := j) c4 c5 (by omega) (by omega)
    have ep : place (sr S h) x = nI j := by unfold place; rw [e]
    refine ⟨w', ?_, ?_, ⟨fun c k i q => ?_, k3⟩, fun q => (q m).elim⟩
    · unfold f_X1_stopListening
      refine bd1T (p_X1_hedge hA hH hh) ?_
      refine gdT (by simp only [decide_eq_true_eq]; omega) (bd1T hpl (brT ?_ ?_))
      · rw [place_1 (by omega)]; exact m
      · refine bd1T hpl ?_
        rw [ep]
        refine bd0T k1 ?_
        rw [if_pos m]
    · unfold sLea
      rw [e]
      exact ra_w hA hH hh hR k2 k4 k5
    · exact k2 c k i (fun q' => q (by unfold ownA; omega)) (fun q' => q (by unfold ownA; omega))
-- the reference's
theorem p_X14_place {s H R h x : Nat} {S : Gs} {w : Mm} (hS : SH H R S) (hB : RB s H R S w) (hh : h < H) (hx : x < 16) : f_X14_placeIn s (nI x) (nI h) w = some (place (sr S h) x, w) := by
  obtain ⟨c1, c2, c3, c4⟩ := hB.2.2.1 h hh
  have hH := hS.1
  have hlen := sh_len hS hh
  have hel := sh_el hS hh
  exact p_X14_placeIn (by omega) c3 c4 (by omega) (fun y hy => by have := hel y hy; omega) (by omega)
theorem p_X3_place {g H R h x : Nat} {S : Gs} {w : Mm} (hS : SH H R S) (hA : RA g H R S w) (hh : h < H) (hx : x < 16) : f_X3_placeOf (8 * g + h) (nI x) w = some (place (sr S h) x, w) := by
  obtain ⟨c1, c2, c3, c4, c5⟩ := hA.2.2.1 h hh
  have hlen := sh_len hS hh
  have hel := sh_el hS hh
  exact p_X3_placeOf c4 c5 (by omega) (fun y hy => by have := hel y hy; omega) (by omega)
theorem p_X14_canListen {s H R h x : Nat} {S : Gs} {w : Mm} (hS : SH H R S) (hB : RB s H R S w) (hh : h < H) (hx : x < 16) : f_X14_canListen s (nI x) (nI h) w = some (if canL S h x then 1 else 0, w) := by
  have hlen := sh_len hS hh
  have hH := hS.1
  unfold f_X14_canListen
  by_cases e : x = h
  · subst e
    refine brT rfl ?_
    simp [canL]
  · refine brF (by rw [nI_eq (by omega) (by omega)]; exact e) ?_
    refine bd1T (p_X14_place hS hB hh hx) ?_
    by_cases m : x ∈ sr S h
    · refine brF (by rw [place_m1 (by omega)]; exact fun q => q m) ?_
      simp [canL, m]
    · refine brT (by rw [place_m1 (by omega)]; exact m) ?_
      simp [canL, m, e]
theorem p_X14_listens {s H R h x : Nat} {S : Gs} {w : Mm} (hS : SH H R S) (hB : RB s H R S w) (hh : h < H) (hx : x < H ∨ (8 ≤ x ∧ x < 8 + R)) :
    ∃ w', f_X14_listens s (nI x) (nI h) w = some (nI (sr S h).length, w') ∧ RB s H R (sLis S h x) w' ∧ UB s w w' := by
  obtain ⟨c1, c2, c3, c4⟩ := hB.2.2.1 h hh
  have hH := hS.1
  have hR := hS.2.1
  have hlen := sh_len hS hh
  have hU : UB s w (pI (pI w 56 s (16 * h + (sr S h).length) (nI x)) 57 s h (nI ((sr S h).length + 1))) := UB_p (UB_p UB_rf (by unfold ownB; omega)) (by unfold ownB; omega)
  have hB1 : RB s H R (pr S h (sr S h ++ [x])) (pI (pI w 56 s (16 * h + (sr S h).length) (nI x)) 57 s h (nI ((sr S h).length + 1))) := by
    refine rb_w hB rfl (fun y hy => by have := sh_len hS hy; omega) (fun c k i q q2 => ?_) ?_ ?_
    · rw [gI_pI, if_neg (by omega), gI_pI, if_neg (by omega)]
    · rw [gI_pI, if_pos ⟨rfl, rfl, rfl⟩, List.length_append]; rfl
    · refine rw_app c4 (fun p hp => ?_) ?_
      · simp only [gI_pI]; rw [if_neg (by omega), if_neg (by omega)]
      · simp [gI_pI]
  have em : nI ((sr S h).length + 1) - 1 = nI (sr S h).length := nI_pred _
  by_cases x8 : 8 ≤ x
  · have er : nI x - 8 = nI (x - 8) := nI_m8' x8
    refine ⟨_, ?_, by unfold sLis; rw [if_pos x8]; exact rb_r (j := 1) hB1 (by omega), UB_p hU (by unfold ownB; omega)⟩
    unfold f_X14_listens
    refine gdT (by (simp (disch := omega) only [lit_nI, nI_leI, nI_ltI, nI_eq, nI_clamp, nI_add, nI_sub, vB_nI, Nat.add_sub_cancel, Nat.reduceSub, Nat.reduceLT, Nat.reduceLeDiff, Nat.reduceAdd, gI_pI, p2_pI, Nat.reduceEqDiff, false_and, and_false, true_and, and_true, if_false, if_true, and_self] <;> omega)) ?_
    rw [nI_clamp (by omega), c3]
    refine bd1T p_X14_at ?_
    repeat (first | (refine brT ?_ ?_; focus ((simp (disch := omega) only [lit_nI, nI_leI, nI_ltI, nI_eq, nI_clamp, nI_add, nI_sub, vB_nI, Nat.add_sub_cancel, Nat.reduceSub, Nat.reduceLT, Nat.reduceLeDiff, Nat.reduceAdd, gI_pI, p2_pI, Nat.reduceEqDiff, false_and, and_false, true_and, and_true, if_false, if_true, and_self, er] <;> omega); done)) | (refine brF ?_ ?_; focus ((simp (disch := omega) only [lit_nI, nI_leI, nI_ltI, nI_eq, nI_clamp, nI_add, nI_sub, vB_nI, Nat.add_sub_cancel, Nat.reduceSub, Nat.reduceLT, Nat.reduceLeDiff, Nat.reduceAdd, gI_pI, p2_pI, Nat.reduceEqDiff, false_and, and_false, true_and, and_true, if_false, if_true, and_self, er] <;> omega); done)) | (refine gdT ?_ ?_; focus ((simp (disch := omega) only [lit_nI, nI_leI, nI_ltI, nI_eq, nI_clamp, nI_add, nI_sub, vB_nI, Nat.add_sub_cancel, Nat.reduceSub, Nat.reduceLT, Nat.reduceLeDiff, Nat.reduceAdd, gI_pI, p2_pI, Nat.reduceEqDiff, false_and, and_false, true_and, and_true, if_false, if_true, and_self, er] <;> omega); done)) | with_reducible refine sqT ?_)
    simp (disch := omega) only [gI_pI, nI_clamp, nI_1, c3, er, Nat.reduceEqDiff, false_and, if_false, true_and, and_self, if_true, em, Nat.reduceAdd]
  · refine ⟨_, ?_, by unfold sLis; rw [if_neg x8]; exact hB1, hU⟩
    unfold f_X14_listens
    refine gdT (by (simp (disch := omega) only [lit_nI, nI_leI, nI_ltI, nI_eq, nI_clamp, nI_add, nI_sub, vB_nI, Nat.add_sub_cancel, Nat.reduceSub, Nat.reduceLT, Nat.reduceLeDiff, Nat.reduceAdd, gI_pI, p2_pI, Nat.reduceEqDiff, false_and, and_false, true_and, and_true, if_false, if_true, and_self] <;> omega)) ?_
    rw [nI_clamp (by omega), c3]
    refine bd1T p_X14_at ?_
    repeat (first | (refine brT ?_ ?_; focus ((simp (disch := omega) only [lit_nI, nI_leI, nI_ltI, nI_eq, nI_clamp, nI_add, nI_sub, vB_nI, Nat.add_sub_cancel, Nat.reduceSub, Nat.reduceLT, Nat.reduceLeDiff, Nat.reduceAdd, gI_pI, p2_pI, Nat.reduceEqDiff, false_and, and_false, true_and, and_true, if_false, if_true, and_self] <;> omega); done)) | (refine brF ?_ ?_; focus ((simp (disch := omega) only [lit_nI, nI_leI, nI_ltI, nI_eq, nI_clamp, nI_add, nI_sub, vB_nI, Nat.add_sub_cancel, Nat.reduceSub, Nat.reduceLT, Nat.reduceLeDiff, Nat.reduceAdd, gI_pI, p2_pI, Nat.reduceEqDiff, false_and, and_false, true_and, and_true, if_false, if_true, and_self] <;> omega); done)) | (refine gdT ?_ ?_; focus ((simp (disch := omega) only [lit_nI, nI_leI, nI_ltI, nI_eq, nI_clamp, nI_add, nI_sub, vB_nI, Nat.add_sub_cancel, Nat.reduceSub, Nat.reduceLT, Nat.reduceLeDiff, Nat.reduceAdd, gI_pI, p2_pI, Nat.reduceEqDiff, false_and, and_false, true_and, and_true, if_false, if_true, and_self] <;> omega); done)) | with_reducible refine sqT ?_)
    simp (disch := omega) only [gI_pI, nI_clamp, nI_1, c3, Nat.reduceEqDiff, false_and, if_false, true_and, and_self, if_true, em, Nat.reduceAdd]
theorem p_X14_leaves_L20 {s h m : Nat} (hh : h < 8) (hm : m < 16) : ∀ (d u n : Nat) (w : Mm), gI w 57 s h = nI m → u + d = m → d < n → ∃ w', f_X14_leaves_L20 s (nI h) n (nI u) w = some w' ∧ (∀ c k i, ¬ (c = 56 ∧ k = s ∧ 16 * h ≤ i ∧ i < 16 * h + 16) → gI w' c k i = gI w c k i) ∧ w'.2 = w.2 ∧ ∀ p, p < 16 → gI w' 56 s (16 * h + p) = if u ≤ p ∧ p < m then gI w 56 s (16 * h + (p + 1)) else gI w 56 s (16 * h + p)
  | 0, u, n + 1, w, hn, hd, hf => by
    refine ⟨w, ?_, fun _ _ _ _ => rfl, rfl, fun p _ => by rw [if_neg]; omega⟩
    rw [f_X14_leaves_L20]
    repeat (first | (refine brT ?_ ?_; focus ((simp (disch := omega) only [lit_nI, nI_leI, nI_ltI, nI_eq, nI_clamp, nI_add, nI_sub, vB_nI, Nat.add_sub_cancel, Nat.reduceSub, Nat.reduceLT, Nat.reduceLeDiff, Nat.reduceAdd, gI_pI, p2_pI, Nat.reduceEqDiff, false_and, and_false, true_and, and_true, if_false, if_true, and_self, hn] <;> omega); done)) | (refine brF ?_ ?_; focus ((simp (disch := omega) only [lit_nI, nI_leI, nI_ltI, nI_eq, nI_clamp, nI_add, nI_sub, vB_nI, Nat.add_sub_cancel, Nat.reduceSub, Nat.reduceLT, Nat.reduceLeDiff, Nat.reduceAdd, gI_pI, p2_pI, Nat.reduceEqDiff, false_and, and_false, true_and, and_true, if_false, if_true, and_self, hn] <;> omega); done)) | (refine gdT ?_ ?_; focus ((simp (disch := omega) only [lit_nI, nI_leI, nI_ltI, nI_eq, nI_clamp, nI_add, nI_sub, vB_nI, Nat.add_sub_cancel, Nat.reduceSub, Nat.reduceLT, Nat.reduceLeDiff, Nat.reduceAdd, gI_pI, p2_pI, Nat.reduceEqDiff, false_and, and_false, true_and, and_true, if_false, if_true, and_self, hn] <;> omega); done)) | with_reducible refine sqT ?_)
    rfl
  | d + 1, u, n + 1, w, hn, hd, hf => by
    obtain ⟨w', h1, h2, h3, h4⟩ := p_X14_leaves_L20 (s := s) hh hm d (u + 1) n (pI w 56 s (16 * h + u) (gI w 56 s (16 * h + (u + 1)))) (by rw [gI_pI, if_neg (by omega)]; exact hn) (by omega) (by omega)
    refine ⟨w', ?_, fun c k i q => ?_, h3, fun p hp => ?_⟩
    · rw [f_X14_leaves_L20]
      repeat (first | (refine brT ?_ ?_; focus ((simp (disch := omega) only [lit_nI, nI_leI, nI_ltI, nI_eq, nI_clamp, nI_add, nI_sub, vB_nI, Nat.add_sub_cancel, Nat.reduceSub, Nat.reduceLT, Nat.reduceLeDiff, Nat.reduceAdd, gI_pI, p2_pI, Nat.reduceEqDiff, false_and, and_false, true_and, and_true, if_false, if_true, and_self, hn] <;> omega); done)) | (refine brF ?_ ?_; focus ((simp (disch := omega) only [lit_nI, nI_leI, nI_ltI, nI_eq, nI_clamp, nI_add, nI_sub, vB_nI, Nat.add_sub_cancel, Nat.reduceSub, Nat.reduceLT, Nat.reduceLeDiff, Nat.reduceAdd, gI_pI, p2_pI, Nat.reduceEqDiff, false_and, and_false, true_and, and_true, if_false, if_true, and_self, hn] <;> omega); done)) | (refine gdT ?_ ?_; focus ((simp (disch := omega) only [lit_nI, nI_leI, nI_ltI, nI_eq, nI_clamp, nI_add, nI_sub, vB_nI, Nat.add_sub_cancel, Nat.reduceSub, Nat.reduceLT, Nat.reduceLeDiff, Nat.reduceAdd, gI_pI, p2_pI, Nat.reduceEqDiff, false_and, and_false, true_and, and_true, if_false, if_true, and_self, hn] <;> omega); done)) | with_reducible refine sqT ?_)
      refine bd1T p_X14_at ?_
      rw [nI_1]
      refine bd1T p_X14_at ?_
      repeat (first | (refine brT ?_ ?_; focus ((simp (disch := omega) only [lit_nI, nI_leI, nI_ltI, nI_eq, nI_clamp, nI_add, nI_sub, vB_nI, Nat.add_sub_cancel, Nat.reduceSub, Nat.reduceLT, Nat.reduceLeDiff, Nat.reduceAdd, gI_pI, p2_pI, Nat.reduceEqDiff, false_and, and_false, true_and, and_true, if_false, if_true, and_self] <;> omega); done)) | (refine brF ?_ ?_; focus ((simp (disch := omega) only [lit_nI, nI_leI, nI_ltI, nI_eq, nI_clamp, nI_add, nI_sub, vB_nI, Nat.add_sub_cancel, Nat.reduceSub, Nat.reduceLT, Nat.reduceLeDiff, Nat.reduceAdd, gI_pI, p2_pI, Nat.reduceEqDiff, false_and, and_false, true_and, and_true, if_false, if_true, and_self] <;> omega); done)) | (refine gdT ?_ ?_; focus ((simp (disch := omega) only [lit_nI, nI_leI, nI_ltI, nI_eq, nI_clamp, nI_add, nI_sub, vB_nI, Nat.add_sub_cancel, Nat.reduceSub, Nat.reduceLT, Nat.reduceLeDiff, Nat.reduceAdd, gI_pI, p2_pI, Nat.reduceEqDiff, false_and, and_false, true_and, and_true, if_false, if_true, and_self] <;> omega); done)) | with_reducible refine sqT ?_)
      rw [nI_clamp (by omega), nI_clamp (by omega)]
      exact h1
    · rw [h2 c k i q, gI_pI, if_neg (by omega)]
    · rw [h4 p hp, gI_pI, gI_pI]
      by_cases q : p = u
      · subst q
        rw [if_neg (by omega), if_pos (by simp), if_pos (by omega)]
      · by_cases q2 : u + 1 ≤ p ∧ p < m
        · rw [if_pos q2, if_neg (by omega), if_pos (by omega)]
        · rw [if_neg q2, if_neg (by omega), if_neg (by omega)]
theorem p_X14_leaves {s H R h x : Nat} {S : Gs} {w : Mm} (hS : SH H R S) (hB : RB s H R S w) (hh : h < H) (hx : x < 16) (m : x ∈ sr S h) :
    ∃ w', f_X14_leaves s (nI x) (nI h) w = some (nI ((sr S h).length - 1), w') ∧ RB s H R (sLea S h x) w' ∧ UB s w w' := by
  obtain ⟨c1, c2, c3, c4⟩ := hB.2.2.1 h hh
  have hH := hS.1
  have hlen := sh_len hS hh
  cases e : plc x (sr S h) 0 with
  | none => exact (plc_none.mp e m).elim
  | some j =>
    have hj := plc_some e
    have ep : place (sr S h) x = nI j := by unfold place; rw [e]
    have em : nI (sr S h).length - 1 = nI ((sr S h).length - 1) := nI_pr (by omega)
    obtain ⟨w', k1, k2, k3, k4⟩ := p_X14_leaves_L20 (s := s) (h := h) (m := (sr S h).length - 1) (by omega) (by omega) ((sr S h).length - 1 - j) j LF (pI w 57 s h (nI ((sr S h).length - 1))) (by simp [gI_pI]) (by omega) (by unfold LF; omega)
    refine ⟨w', ?_, ?_, ⟨fun c k i q => ?_, k3⟩⟩
    · unfold f_X14_leaves
      refine bd1T (p_X14_place hS hB hh hx) ?_
      rw [ep]
      refine gdT (by (simp (disch := omega) only [lit_nI, nI_leI, nI_ltI, nI_eq, nI_clamp, nI_add, nI_sub, vB_nI, Nat.add_sub_cancel, Nat.reduceSub, Nat.reduceLT, Nat.reduceLeDiff, Nat.reduceAdd, gI_pI, p2_pI, Nat.reduceEqDiff, false_and, and_false, true_and, and_true, if_false, if_true, and_self] <;> omega)) (gdT (by (simp (disch := omega) only [lit_nI, nI_leI, nI_ltI, nI_eq, nI_clamp, nI_add, nI_sub, vB_nI, Nat.add_sub_cancel, Nat.reduceSub, Nat.reduceLT, Nat.reduceLeDiff, Nat.reduceAdd, gI_pI, p2_pI, Nat.reduceEqDiff, false_and, and_false, true_and, and_true, if_false, if_true, and_self] <;> omega)) (sqT ?_))
      rw [nI_clamp (by omega), c3, em]
      refine bd0T k1 ?_
      refine gdT (by (simp (disch := omega) only [lit_nI, nI_leI, nI_ltI, nI_eq, nI_clamp, nI_add, nI_sub, vB_nI, Nat.add_sub_cancel, Nat.reduceSub, Nat.reduceLT, Nat.reduceLeDiff, Nat.reduceAdd, gI_pI, p2_pI, Nat.reduceEqDiff, false_and, and_false, true_and, and_true, if_false, if_true, and_self] <;> omega)) ?_
      rw [k2 _ _ _ (by omega)]
      simp [gI_pI]
    · unfold sLea
      rw [e]
      refine rb_w hB k3 (fun y hy => by have := sh_len hS hy; omega) (fun c k i q q2 => ?_) ?_ ?_
      · rw [k2 c k i q2, gI_pI, if_neg q]
      · rw [k2 _ _ _ (by omega), gI_pI, if_pos ⟨rfl, rfl, rfl⟩, List.length_eraseIdx_of_lt (by omega)]
      · refine rw_del c4 (by omega) fun p hp => ?_
        show gI w' 56 s (16 * h + p) = _
        rw [k4 p (by omega)]
        simp only [gI_pI, Nat.reduceEqDiff, false_and, if_false]
        by_cases q : j ≤ p
        · rw [if_pos (by omega), if_pos q]
        · rw [if_neg (by omega), if_neg q]
    · rw [k2 c k i (fun q' => q (by unfold ownB; omega)), gI_pI, if_neg (fun q' => q (by unfold ownB; omega))]
