-- THE PURE PART: the four calls by hand (made by genhand.py)
theorem z_hedgeListens {P : Nat → Nat → Mm → Prop} {b t : Nat} {w : Mm} {a c : Int32} (hP : Stb P) (hI : Iv P b t w) (ht : t + 1 ≤ 512) : CZ (f_L_hedgeListens a c w) (f_X15_hedgeListens a c) (Iv P b (t + 1)) := by
  obtain ⟨H, R, S, hA, hB, hO, ht0, hb, hp⟩ := id hI
  have hR := hO.1.1.2.1
  have hH := hO.1.1.1
  rcases hcase a (H := H) hH with ⟨y, hy, rfl⟩ | hi
  · rcases hcase c (H := H) hH with ⟨v, hv, rfl⟩ | hi2
    · refine lis_core (h := v) (x := y) hP ht ht0 hb hp hA hB hO hv (Or.inl hy) (fun r h => ?_) (fun u r hB' h => ?_)
      · rw [← h]
        unfold f_L_hedgeListens f_X12_hedgeListens
        rw [show bx (f_X12_hedgeNumbered (nI y) w) (fun r1 w2 => bx (f_X12_placeAfterListening (nI y) (nI v) w2) (fun r4 w5 => some (Sum.inr r4, w5))) = bx (f_X12_placeAfterListening (nI y) (nI v) w) (fun r4 w5 => some (Sum.inr r4, w5)) from bxT (a_hN hA hH hy) rfl]
        cases f_X12_placeAfterListening (nI y) (nI v) w with
        | none => rfl
        | some q => obtain ⟨q | q, q'⟩ := q <;> rfl
      · unfold f_X15_hedgeListens
        exact bd1T (b_isH hB' hH hy) (brF (by decide) (bd1T (b_isH hB' hH hv) (brF (by decide) (bd1T b_kn1 (brF (by decide) h)))))
    · refine cz_thr hP hI ht (c := 1) (by decide) ?_ fun z hz => ?_
      · unfold f_L_hedgeListens f_X12_hedgeListens
        refine bwE (bxT (a_hN hA hH hy) (bxE ?_ rfl)) (brT rfl rfl)
        unfold f_X12_placeAfterListening
        exact bxE (a_hNi hA hi2) rfl
      · refine ⟨0, pI (pZ w z) 32 0 0 1, ?_, by simp [gI_pI], Or.inl rfl⟩
        unfold f_X15_hedgeListens
        have hB' : RB 0 H R S (pZ w z) := hB
        exact bd1T (b_isH hB' hH hy) (brF (by decide) (bd1T (b_isHi hB' hH hi2) (brT rfl (bd1T b_kn0 (brT rfl rfl)))))
  · refine cz_thr hP hI ht (c := 1) (by decide) ?_ fun z hz => ?_
    · unfold f_L_hedgeListens f_X12_hedgeListens
      exact bwE (bxE (a_hNi hA hi) rfl) (brT rfl rfl)
    · refine ⟨0, pI (pZ w z) 32 0 0 1, ?_, by simp [gI_pI], Or.inl rfl⟩
      unfold f_X15_hedgeListens
      have hB' : RB 0 H R S (pZ w z) := hB
      exact bd1T (b_isHi hB' hH hi) (brT rfl (bd1T b_kn0 (brT rfl rfl)))
theorem z_roseListens {P : Nat → Nat → Mm → Prop} {b t : Nat} {w : Mm} {a c : Int32} (hP : Stb P) (hI : Iv P b t w) (ht : t + 1 ≤ 512) : CZ (f_L_roseListens a c w) (f_X15_roseListens a c) (Iv P b (t + 1)) := by
  obtain ⟨H, R, S, hA, hB, hO, ht0, hb, hp⟩ := id hI
  have hR := hO.1.1.2.1
  have hH := hO.1.1.1
  rcases hcase a (H := R) hR with ⟨y, hy, rfl⟩ | hi
  · rcases hcase c (H := H) hH with ⟨v, hv, rfl⟩ | hi2
    · refine lis_core (h := v) (x := (8 + y)) hP ht ht0 hb hp hA hB hO hv (Or.inr ⟨by omega, by omega⟩) (fun r h => ?_) (fun u r hB' h => ?_)
      · rw [← h]
        unfold f_L_roseListens f_X12_roseListens
        rw [n8]
        rw [show bx (f_X12_roseNumbered (nI y) w) (fun r1 w2 => bx (f_X12_placeAfterListening (nI (8 + y)) (nI v) w2) (fun r4 w5 => some (Sum.inr r4, w5))) = bx (f_X12_placeAfterListening (nI (8 + y)) (nI v) w) (fun r4 w5 => some (Sum.inr r4, w5)) from bxT (a_rN hA hR hy) rfl]
        cases f_X12_placeAfterListening (nI (8 + y)) (nI v) w with
        | none => rfl
        | some q => obtain ⟨q | q, q'⟩ := q <;> rfl
      · unfold f_X15_roseListens
        rw [n8]
        exact bd1T (b_isR hB' hR hy) (brF (by decide) (bd1T (b_isH hB' hH hv) (brF (by decide) (bd1T b_kn1 (brF (by decide) h)))))
    · refine cz_thr hP hI ht (c := 1) (by decide) ?_ fun z hz => ?_
      · unfold f_L_roseListens f_X12_roseListens
        refine bwE (bxT (a_rN hA hR hy) (bxE ?_ rfl)) (brT rfl rfl)
        unfold f_X12_placeAfterListening
        exact bxE (a_hNi hA hi2) rfl
      · refine ⟨0, pI (pZ w z) 32 0 0 1, ?_, by simp [gI_pI], Or.inl rfl⟩
        unfold f_X15_roseListens
        have hB' : RB 0 H R S (pZ w z) := hB
        exact bd1T (b_isR hB' hR hy) (brF (by decide) (bd1T (b_isHi hB' hH hi2) (brT rfl (bd1T b_kn0 (brT rfl rfl)))))
  · refine cz_thr hP hI ht (c := 1) (by decide) ?_ fun z hz => ?_
    · unfold f_L_roseListens f_X12_roseListens
      exact bwE (bxE (a_rNi hA hi) rfl) (brT rfl rfl)
    · refine ⟨0, pI (pZ w z) 32 0 0 1, ?_, by simp [gI_pI], Or.inl rfl⟩
      unfold f_X15_roseListens
      have hB' : RB 0 H R S (pZ w z) := hB
      exact bd1T (b_isRi hB' hR hi) (brT rfl (bd1T b_kn0 (brT rfl rfl)))
theorem z_hedgeLeaves {P : Nat → Nat → Mm → Prop} {b t : Nat} {w : Mm} {a c : Int32} (hP : Stb P) (hI : Iv P b t w) (ht : t + 1 ≤ 512) : CZ (f_L_hedgeLeaves a c w) (f_X15_hedgeLeaves a c) (Iv P b (t + 1)) := by
  obtain ⟨H, R, S, hA, hB, hO, ht0, hb, hp⟩ := id hI
  have hR := hO.1.1.2.1
  have hH := hO.1.1.1
  rcases hcase a (H := H) hH with ⟨y, hy, rfl⟩ | hi
  · rcases hcase c (H := H) hH with ⟨v, hv, rfl⟩ | hi2
    · refine lea_core (h := v) (x := y) hP ht ht0 hb hp hA hB hO hv (by omega) (fun r h => ?_) (fun u r hB' h => ?_)
      · rw [← h]
        unfold f_L_hedgeLeaves f_X12_hedgeLeaves
        rw [show bx (f_X12_hedgeNumbered (nI y) w) (fun r1 w2 => bx (f_X12_listenersAfterLeaving (nI y) (nI v) w2) (fun r4 w5 => some (Sum.inr r4, w5))) = bx (f_X12_listenersAfterLeaving (nI y) (nI v) w) (fun r4 w5 => some (Sum.inr r4, w5)) from bxT (a_hN hA hH hy) rfl]
        cases f_X12_listenersAfterLeaving (nI y) (nI v) w with
        | none => rfl
        | some q => obtain ⟨q | q, q'⟩ := q <;> rfl
      · unfold f_X15_hedgeLeaves
        exact bd1T (b_isH hB' hH hy) (brF (by decide) (bd1T (b_isH hB' hH hv) (brF (by decide) (bd1T b_kn1 (brF (by decide) h)))))
    · refine cz_thr hP hI ht (c := 1) (by decide) ?_ fun z hz => ?_
      · unfold f_L_hedgeLeaves f_X12_hedgeLeaves
        refine bwE (bxT (a_hN hA hH hy) (bxE ?_ rfl)) (brT rfl rfl)
        unfold f_X12_listenersAfterLeaving
        exact bxE (a_hNi hA hi2) rfl
      · refine ⟨0, pI (pZ w z) 32 0 0 1, ?_, by simp [gI_pI], Or.inl rfl⟩
        unfold f_X15_hedgeLeaves
        have hB' : RB 0 H R S (pZ w z) := hB
        exact bd1T (b_isH hB' hH hy) (brF (by decide) (bd1T (b_isHi hB' hH hi2) (brT rfl (bd1T b_kn0 (brT rfl rfl)))))
  · refine cz_thr hP hI ht (c := 1) (by decide) ?_ fun z hz => ?_
    · unfold f_L_hedgeLeaves f_X12_hedgeLeaves
      exact bwE (bxE (a_hNi hA hi) rfl) (brT rfl rfl)
    · refine ⟨0, pI (pZ w z) 32 0 0 1, ?_, by simp [gI_pI], Or.inl rfl⟩
      unfold f_X15_hedgeLeaves
      have hB' : RB 0 H R S (pZ w z) := hB
      exact bd1T (b_isHi hB' hH hi) (brT rfl (bd1T b_kn0 (brT rfl rfl)))
theorem z_roseLeaves {P : Nat → Nat → Mm → Prop} {b t : Nat} {w : Mm} {a c : Int32} (hP : Stb P) (hI : Iv P b t w) (ht : t + 1 ≤ 512) : CZ (f_L_roseLeaves a c w) (f_X15_roseLeaves a c) (Iv P b (t + 1)) := by
  obtain ⟨H, R, S, hA, hB, hO, ht0, hb, hp⟩ := id hI
  have hR := hO.1.1.2.1
  have hH := hO.1.1.1
  rcases hcase a (H := R) hR with ⟨y, hy, rfl⟩ | hi
  · rcases hcase c (H := H) hH with ⟨v, hv, rfl⟩ | hi2
    · refine lea_core (h := v) (x := (8 + y)) hP ht ht0 hb hp hA hB hO hv (by omega) (fun r h => ?_) (fun u r hB' h => ?_)
      · rw [← h]
        unfold f_L_roseLeaves f_X12_roseLeaves
        rw [n8]
        rw [show bx (f_X12_roseNumbered (nI y) w) (fun r1 w2 => bx (f_X12_listenersAfterLeaving (nI (8 + y)) (nI v) w2) (fun r4 w5 => some (Sum.inr r4, w5))) = bx (f_X12_listenersAfterLeaving (nI (8 + y)) (nI v) w) (fun r4 w5 => some (Sum.inr r4, w5)) from bxT (a_rN hA hR hy) rfl]
        cases f_X12_listenersAfterLeaving (nI (8 + y)) (nI v) w with
        | none => rfl
        | some q => obtain ⟨q | q, q'⟩ := q <;> rfl
      · unfold f_X15_roseLeaves
        rw [n8]
        exact bd1T (b_isR hB' hR hy) (brF (by decide) (bd1T (b_isH hB' hH hv) (brF (by decide) (bd1T b_kn1 (brF (by decide) h)))))
    · refine cz_thr hP hI ht (c := 1) (by decide) ?_ fun z hz => ?_
      · unfold f_L_roseLeaves f_X12_roseLeaves
        refine bwE (bxT (a_rN hA hR hy) (bxE ?_ rfl)) (brT rfl rfl)
        unfold f_X12_listenersAfterLeaving
        exact bxE (a_hNi hA hi2) rfl
      · refine ⟨0, pI (pZ w z) 32 0 0 1, ?_, by simp [gI_pI], Or.inl rfl⟩
        unfold f_X15_roseLeaves
        have hB' : RB 0 H R S (pZ w z) := hB
        exact bd1T (b_isR hB' hR hy) (brF (by decide) (bd1T (b_isHi hB' hH hi2) (brT rfl (bd1T b_kn0 (brT rfl rfl)))))
  · refine cz_thr hP hI ht (c := 1) (by decide) ?_ fun z hz => ?_
    · unfold f_L_roseLeaves f_X12_roseLeaves
      exact bwE (bxE (a_rNi hA hi) rfl) (brT rfl rfl)
    · refine ⟨0, pI (pZ w z) 32 0 0 1, ?_, by simp [gI_pI], Or.inl rfl⟩
      unfold f_X15_roseLeaves
      have hB' : RB 0 H R S (pZ w z) := hB
      exact bd1T (b_isRi hB' hR hi) (brT rfl (bd1T b_kn0 (brT rfl rfl)))
