-- THE PURE PART: the reference looks names up
section RNAMES
variable {T : List Nat} {tk st ln : Nat → Nat} {N : Nat}
/-- the tokens' texts -/
def RT (T : List Nat) (tk st ln : Nat → Nat) (N : Nat) (w : Mm) : Prop := TM T w ∧ (∀ u, u < N → tk u = 3 ∨ tk u = 4 → gI w 35 0 u = nI (st u) ∧ gI w 36 0 u = nI (ln u)) ∧ (∀ u, u + 1 < N → gI w 37 0 u = nI (rol tk u))
theorem b_sameL {w : Mm} {a b S1 S2 L : Nat} (hT : TM T w) (ha : a < 401) (hb : b < 401) (e1 : gI w 35 0 a = nI S1) (e2 : gI w 35 0 b = nI S2) (e3 : gI w 36 0 a = nI L) (hL : L ≤ 10) (h1 : S1 + L ≤ T.length) (h2 : S2 + L ≤ T.length) : ∀ r i n, i + r = L → r < n → ∃ t, f_X15_isSame_L19 (nI a) (nI b) n (nI i) w = some (t, w) ∧ (t = if (T.drop (S1 + i)).take r = (T.drop (S2 + i)).take r then 1 else 0)
  | 0, i, n + 1, hi, hn => by
    rw [f_X15_isSame_L19, nI_clamp (by omega), e3]
    exact ⟨1, gdT ((vB_nI (by omega)).mpr ha) (brT (by (simp (disch := omega) only [lit_nI, nI_leI, nI_ltI, nI_eq, nI_clamp, nI_add, nI_sub, vB_nI, Nat.add_sub_cancel, Nat.reduceSub, Nat.reduceLT, Nat.reduceLeDiff, Nat.reduceAdd, gI_pI, p2_pI, Nat.reduceEqDiff, false_and, and_false, true_and, and_true, if_false, if_true, and_self] <;> omega)) rfl), by simp⟩
  | r + 1, i, n + 1, hi, hn => by
    have hl := hT.2.1
    cases ea : T.drop (S1 + i) with
    | nil => have := drop_nil ea; omega
    | cons c s =>
      cases eb : T.drop (S2 + i) with
      | nil => have := drop_nil eb; omega
      | cons d t =>
        obtain ⟨a1, a2, a3⟩ := dr_cons ea
        obtain ⟨b1, b2, b3⟩ := dr_cons eb
        obtain ⟨ca, cb⟩ := hT.2.2 _ _ a1
        obtain ⟨da, db⟩ := hT.2.2 _ _ b1
        obtain ⟨tt, ih1, ih2⟩ := b_sameL hT ha hb e1 e2 e3 hL h1 h2 r (i + 1) n (by omega) (by omega)
        have run : ∀ X, br (nI c = nI d) (f_X15_isSame_L19 (nI a) (nI b) n (nI (i + 1)) w) (some ((0 : Nat), w)) = X → f_X15_isSame_L19 (nI a) (nI b) (n + 1) (nI i) w = X := fun X hX => by
          rw [f_X15_isSame_L19, nI_clamp (by omega), nI_clamp (by omega), e3, e1, e2, nI_add, nI_add]
          refine gdT ((vB_nI (by omega)).mpr ha) (brF (by (simp (disch := omega) only [lit_nI, nI_leI, nI_ltI, nI_eq, nI_clamp, nI_add, nI_sub, vB_nI, Nat.add_sub_cancel, Nat.reduceSub, Nat.reduceLT, Nat.reduceLeDiff, Nat.reduceAdd, gI_pI, p2_pI, Nat.reduceEqDiff, false_and, and_false, true_and, and_true, if_false, if_true, and_self] <;> omega)) (gdT ((vB_nI (by omega)).mpr ha) (gdT ((vB_nI (by omega)).mpr (by omega)) (gdT ((vB_nI (by omega)).mpr hb) (gdT ((vB_nI (by omega)).mpr (by omega)) ?_)))))
          rw [nI_clamp (by omega), nI_clamp (by omega), ca, da, nI_1]
          exact hX
        rw [List.take_succ_cons, List.take_succ_cons]
        by_cases q : c = d
        · subst q
          refine ⟨tt, run _ (brT rfl ih1), ?_⟩
          rw [ih2, show S1 + (i + 1) = S1 + i + 1 by omega, show S2 + (i + 1) = S2 + i + 1 by omega, a3, b3]
          by_cases e : s.take r = t.take r
          · rw [if_pos e, if_pos (by rw [e])]
          · rw [if_neg e, if_neg (fun h => e (List.cons.inj h).2)]
        · refine ⟨0, run _ (brF ?_ rfl), ?_⟩
          · rw [nI_eq (by omega) (by omega)]; exact q
          · rw [if_neg (fun h => q (List.cons.inj h).1)]
theorem b_same (hK : TKF T tk st ln N) {a b : Nat} {w : Mm} (hR : RT T tk st ln N w) (ha : a < N) (h3a : tk a = 3) (hb : b < N) (h3b : tk b = 3) : f_X15_isSame (nI a) (nI b) w = some (if nm T st ln a = nm T st ln b then 1 else 0, w) := by
  obtain ⟨p1, p2, p3, p4, p5⟩ := id hK
  obtain ⟨r1, r2, r3⟩ := hR
  obtain ⟨a1, a2⟩ := r2 a ha (Or.inl h3a)
  obtain ⟨b1, b2⟩ := r2 b hb (Or.inl h3b)
  obtain ⟨x1, x2, x3, x4⟩ := nm_wd hK ha h3a
  obtain ⟨y1, y2, y3, y4⟩ := nm_wd hK hb h3b
  unfold f_X15_isSame
  rw [nI_clamp (by omega), nI_clamp (by omega), a2, b2]
  refine gdT ((vB_nI (by omega)).mpr (by omega)) (gdT ((vB_nI (by omega)).mpr (by omega)) ?_)
  by_cases q : ln a = ln b
  · refine brT (by rw [q]) ?_
    obtain ⟨t, h1, h2⟩ := b_sameL r1 (by omega) (by omega) a1 b1 a2 (by omega) x4 (by omega) (ln a) 0 LF (by omega) (by unfold LF; omega)
    rw [show (0 : Int32) = nI 0 from rfl]
    refine bd1T h1 ?_
    rw [Nat.add_zero, Nat.add_zero] at h2
    have e : ((T.drop (st a)).take (ln a) = (T.drop (st b)).take (ln a)) ↔ nm T st ln a = nm T st ln b := by unfold nm; rw [q]
    by_cases qe : nm T st ln a = nm T st ln b
    · rw [if_pos (e.mpr qe)] at h2
      rw [if_pos qe, h2]; exact brF (by decide) rfl
    · rw [if_neg (fun x => qe (e.mp x))] at h2
      rw [if_neg qe, h2]; exact brT rfl rfl
  · refine brF (by rw [nI_eq (by omega) (by omega)]; exact q) ?_
    rw [if_neg (fun e => q (by rw [← x3, ← y3, e]))]
theorem b_toldL (hK : TKF T tk st ln N) {a r : Nat} {w : Mm} (hR : RT T tk st ln N w) (ha : a + 1 < N) (h3 : tk a = 3) (hr : r = 1 ∨ r = 2) : ∀ d u n, u + d = a → d < n → (∀ v, v < u → rol tk v = r → nm T st ln v ≠ nm T st ln a) → ∃ t y, f_X15_told_L5 (nI a) (nI r) n (nI u) (nI (cN tk r u).length) w = some (t, y, w) ∧ (match fI T tk st ln r a with
    | some i => t = 0 ∧ y = nI i
    | none => t = 1)
  | 0, u, n + 1, e, hn, hv => by
    have e : u = a := by omega
    subst e
    rw [f_X15_told_L5, fI_none hv]
    obtain ⟨p1, p2, _⟩ := hK
    exact ⟨1, _, brT (by rw [nI_leI (by omega) (by omega)]; omega) rfl, rfl⟩
  | d + 1, u, n + 1, e, hn, hv => by
    obtain ⟨p1, p2, p3, p4, p5⟩ := id hK
    have h37 := hR.2.2 u (by omega)
    have hrl : rol tk u < 10 := by
      unfold rol
      repeat' split
      all_goals omega
    rw [f_X15_told_L5, nI_clamp (by omega), h37]
    by_cases q : rol tk u = r
    · have h3u := (rol_nm (tk := tk) (u := u) (by omega) (by omega) (by omega)).1
      have hs := b_same hK hR (a := u) (b := a) (by omega) h3u (by omega) h3
      by_cases qs : nm T st ln u = nm T st ln a
      · have ef : fI T tk st ln r a = some (cN tk r u).length := by
          have hat := cN_at (tk := tk) q (by omega : u < a)
          have hl := (List.getElem?_eq_some_iff.mp hat).1
          refine fnd_1 _ _ _ (Nat.zero_le _) (by omega) ?_ fun i _ hi => ?_
          · have : (cN tk r a).getD (cN tk r u).length 0 = u := by rw [List.getD_eq_getElem?_getD, hat]; rfl
            rw [this]; exact decide_eq_true qs
          · have hli : i < (cN tk r a).length := by omega
            have ei : (cN tk r a)[i]? = some ((cN tk r a).getD i 0) := by rw [List.getD_eq_getElem?_getD, List.getElem?_eq_getElem hli]; rfl
            obtain ⟨k1, k2, k3⟩ := cN_2 ei
            refine decide_eq_false (hv _ ?_ k3)
            by_cases qv : (cN tk r a).getD i 0 < u
            · exact qv
            · exfalso
              obtain ⟨m, hm⟩ : ∃ m, (cN tk r a).getD i 0 = u + m := ⟨(cN tk r a).getD i 0 - u, by omega⟩
              have := cN_le (tk := tk) (r := r) (u := u) m
              rw [← hm] at this
              omega
        rw [if_pos qs] at hs
        rw [ef]
        exact ⟨0, _, brF (by rw [nI_leI (by omega) (by omega)]; omega) (gdT ((vB_nI (by omega)).mpr (by omega)) (brT (by rw [q]) (bd1T hs (brF (by decide) rfl)))), rfl, rfl⟩
      · rw [if_neg qs] at hs
        obtain ⟨t, y, k1, k2⟩ := b_toldL hK hR ha h3 hr d (u + 1) n (by omega) (by omega) fun v hv1 hv2 => by
          by_cases qv : v = u
          · subst qv; exact qs
          · exact hv v (by omega) hv2
        refine ⟨t, y, brF (by rw [nI_leI (by omega) (by omega)]; omega) (gdT ((vB_nI (by omega)).mpr (by omega)) (brT (by rw [q]) (bd1T hs (brT rfl (sqT (sqT ?_)))))), k2⟩
        rw [cN_y q, List.length_append, List.length_singleton] at k1
        rw [nI_1, nI_1]; exact k1
    · obtain ⟨t, y, k1, k2⟩ := b_toldL hK hR ha h3 hr d (u + 1) n (by omega) (by omega) fun v hv1 hv2 => by
        by_cases qv : v = u
        · subst qv; exact (q hv2).elim
        · exact hv v (by omega) hv2
      refine ⟨t, y, brF (by rw [nI_leI (by omega) (by omega)]; omega) (gdT ((vB_nI (by omega)).mpr (by omega)) (brF (by rw [nI_eq (by omega) (by omega)]; exact q) (sqT ?_))), k2⟩
      rw [cN_n q] at k1
      rw [nI_1]; exact k1
/-- the index of the first with the name, or -1 -/
def tld (T : List Nat) (tk st ln : Nat → Nat) (r a : Nat) : Int32 := match fI T tk st ln r a with
  | some i => nI i
  | none => -1
theorem b_told (hK : TKF T tk st ln N) {a r : Nat} {w : Mm} (hR : RT T tk st ln N w) (ha : a + 1 < N) (h3 : tk a = 3) (hr : r = 1 ∨ r = 2) : f_X15_told (nI a) (nI r) w = some (tld T tk st ln r a, w) := by
  obtain ⟨t, y, h1, h2⟩ := b_toldL hK hR ha h3 hr a 0 LF (by omega) (by have := hK.2.1; unfold LF; omega) (fun v hv => by omega)
  have e0 : (cN tk r 0).length = 0 := rfl
  rw [e0] at h1
  unfold f_X15_told tld
  rw [show (0 : Int32) = nI 0 from rfl]
  refine bd2T h1 ?_
  match fI T tk st ln r a, h2 with
  | some i, h2 =>
    obtain ⟨g1, g2⟩ := h2
    subst g1; subst g2
    exact brT rfl rfl
  | none, h2 =>
    subst h2
    exact brF (by decide) rfl
theorem b_numR (hK : TKF T tk st ln N) {a : Nat} {w : Mm} (hR : RT T tk st ln N w) (ha : a < N) (h4 : tk a = 4) : f_X15_numberAt (nI a) w = some (nva T st ln a, w) := by
  obtain ⟨p1, p2, p3, p4, p5⟩ := id hK
  obtain ⟨_, _, _, g4, _, g6⟩ := (p4 a ha).2
  obtain ⟨k1, k2, k3, k4⟩ := g6 h4
  have hl := g4 (by omega) (by omega)
  obtain ⟨a1, a2⟩ := hR.2.1 a ha (Or.inr h4)
  unfold f_X15_numberAt
  refine bd1T (b_numL hR.1 a1 a2 (by omega) k2 hl (fun c hc => ?_) (ln a) 0 0 LF (by omega) (by unfold LF; omega)) rfl
  have := k4 c hc
  unfold isDg at this
  simp only [Bool.and_eq_true, decide_eq_true_eq] at this
  exact this.1
end RNAMES
