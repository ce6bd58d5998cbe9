-- THE PURE PART: the reference's parser: its state, its small methods
abbrev KK (k : Nat) : Prop := 1 ≤ k ∧ k ≤ 44 ∧ k ≠ 5 ∧ k ≠ 6
theorem mk_inj0 : ∀ k, k < 45 → ∀ j, j < 45 → (k = 0 ∨ k = 5 ∨ k = 6 ∨ j = 0 ∨ j = 5 ∨ j = 6 ∨ (mk k = mk j ↔ k = j)) := by decide +kernel
theorem mk_inj {k j : Nat} (h1 : KK k) (h2 : KK j) : mk k = mk j ↔ k = j := by
  obtain ⟨a1, a2, a3, a4⟩ := h1
  obtain ⟨b1, b2, b3, b4⟩ := h2
  rcases mk_inj0 k (by omega) j (by omega) with h | h | h | h | h | h | h
  · omega
  · omega
  · omega
  · omega
  · omega
  · omega
  · exact h
/-- the role of a token -/
def rol (tk : Nat → Nat) (j : Nat) : Nat := if tk j = 3 then (if j = 0 then 0 else if tk (j - 1) = 7 then 1 else if tk (j - 1) = 9 then 2 else if tk (j - 1) = 11 ∨ tk (j - 1) = 12 then 4 else if tk (j - 1) = 13 ∨ tk (j - 1) = 14 then 5 else if tk (j - 1) = 24 then 6 else if tk (j - 1) = 23 then (if tk (j - 2) = 22 then 8 else 7) else 0)
  else if tk j = 4 then (if j = 0 then 0 else if tk (j - 1) = 8 ∨ tk (j - 1) = 10 then 9 else 0)
  else if tk j = 11 ∨ tk j = 12 ∨ tk j = 14 then 3 else 0
def MFx (p : Nat) (w : Mm) : Prop := gR w 32 0 12 = p + 1 ∧ ∀ c, 44 ≤ c → c ≤ 54 → shD w c p = true
theorem mfx_2 {p : Nat} {w w' : Mm} (h : w'.2 = w.2) (g : MFx p w) : MFx p w' := ⟨by rw [gR_2 h]; exact g.1, fun c h1 h2 => by rw [shD_2 h]; exact g.2 c h1 h2⟩
/-- the numbers' text -/
def MNm (T : List Nat) (tk st ln : Nat → Nat) (N : Nat) (w : Mm) : Prop := TM T w ∧ ∀ j, j < N → tk j = 4 → gI w 35 0 j = nI (st j) ∧ gI w 36 0 j = nI (ln j) ∧ ln j ≤ 6 ∧ st j + ln j ≤ T.length ∧ ∀ c ∈ (T.drop (st j)).take (ln j), 48 ≤ c
def MSt (T : List Nat) (tk st ln : Nat → Nat) (N p a d m q : Nat) (w : Mm) : Prop := (gI w 32 0 9 = nI a ∧ gI w 32 0 10 = nI d ∧ gI w 44 p 13 = nI m ∧ gI w 44 p 15 = nI q) ∧ (∀ j, j < N → gI w 34 0 j = mk (tk j)) ∧ (∀ j, j < N → gI w 37 0 j = nI (if j < a then rol tk j else 0)) ∧ MFx p w ∧ MNm T tk st ln N w ∧ N ≤ 401 ∧ a + 1 ≤ N ∧ d ≤ 8
def FM (p m q : Nat) (w w' : Mm) : Prop := (∀ c k i, ¬ (c = 32 ∧ k = 0 ∧ (i = 9 ∨ i = 10)) → ¬ (c = 37 ∧ k = 0) → ¬ (c = 44 ∧ k = p ∧ (i = 13 ∨ i = 15)) → ¬ (c = 53 ∧ k = p ∧ m ≤ i) → ¬ (c = 54 ∧ k = p ∧ q ≤ i) → gI w' c k i = gI w c k i) ∧ w'.2 = w.2
theorem fm_rf {p m q : Nat} {w : Mm} : FM p m q w w := ⟨fun _ _ _ _ _ _ _ _ => rfl, rfl⟩
theorem fm_tr {p m q m' q' : Nat} {w w1 w2 : Mm} (hm : m ≤ m') (hq : q ≤ q') (h : FM p m q w w1) (g : FM p m' q' w1 w2) : FM p m q w w2 := ⟨fun c k i q1 q2 q3 q4 q5 => (g.1 c k i q1 q2 q3 (by omega) (by omega)).trans (h.1 c k i q1 q2 q3 q4 q5), g.2.trans h.2⟩
theorem tm_cg {T : List Nat} {w w' : Mm} (h : TM T w) (e : gI w' 32 0 2 = gI w 32 0 2) (u : ∀ j, gI w' 33 0 j = gI w 33 0 j) : TM T w' := by
  obtain ⟨h1, h2, h3⟩ := h
  exact ⟨by rw [e]; exact h1, h2, fun j x q => by rw [u j]; exact h3 j x q⟩
theorem mn_cg {T : List Nat} {tk st ln : Nat → Nat} {N : Nat} {w w' : Mm} (h : MNm T tk st ln N w) (e : gI w' 32 0 2 = gI w 32 0 2) (u : ∀ c j, c = 33 ∨ c = 35 ∨ c = 36 → gI w' c 0 j = gI w c 0 j) : MNm T tk st ln N w' :=
  ⟨tm_cg h.1 e fun j => u 33 j (Or.inl rfl), fun j hj h4 => by
    rw [u 35 j (by omega), u 36 j (by omega)]
    exact h.2 j hj h4⟩
section RPARSE
variable {T : List Nat} {tk st ln : Nat → Nat} {N p a d m q : Nat} {w : Mm}
theorem b_is (h : MSt T tk st ln N p a d m q w) (hk : ∀ j, j < N → KK (tk j)) (j : Nat) (c : Int32) (hj : KK j) (hc : mk j = c) : f_X15_is c w = some (if tk a = j then 1 else 0, w) := by
  obtain ⟨⟨h1, h2, h3, h4⟩, h5, h6, h7, h8, h9, h10, h11⟩ := h
  subst hc
  unfold f_X15_is
  rw [h1]
  refine gdT ((vB_nI (by omega)).mpr (by omega)) ?_
  rw [nI_clamp (by omega), h5 a (by omega)]
  have e := mk_inj (hk a (by omega)) hj
  by_cases q : tk a = j
  · rw [if_pos q]; exact brT (e.mpr q) rfl
  · rw [if_neg q]; exact brF (fun h => q (e.mp h)) rfl
theorem b_sign (h : MSt T tk st ln N p a d m q w) (hk : ∀ j, j < N → KK (tk j)) (j : Nat) (c : Int32) (hj : KK j) (hc : mk j = 50 + c) : f_X15_isSign c w = some (if tk a = j then 1 else 0, w) := b_is h hk j (50 + c) hj hc
/-- one token on -/
theorem m_adv (h : MSt T tk st ln N p a d m q w) (ha : a + 2 ≤ N) (hr : rol tk a = 0) : MSt T tk st ln N p (a + 1) d m q (pI w 32 0 9 ((gI w 32 0 9) + 1)) ∧ FM p m q w (pI w 32 0 9 ((gI w 32 0 9) + 1)) := by
  obtain ⟨⟨h1, h2, h3, h4⟩, h5, h6, h7, h8, h9, h10, h11⟩ := h
  rw [h1, nI_1]
  refine ⟨⟨⟨?_, ?_, ?_, ?_⟩, fun j hj => ?_, fun j hj => ?_, mfx_2 rfl h7, mn_cg h8 ?_ fun c j hc => ?_, h9, ha, h11⟩, fun c k i q1 q2 q3 q4 q5 => ?_, rfl⟩
  · rw [gI_pI, if_pos ⟨rfl, rfl, rfl⟩]
  · rw [gI_pI, if_neg (by omega)]; exact h2
  · rw [gI_pI, if_neg (by omega)]; exact h3
  · rw [gI_pI, if_neg (by omega)]; exact h4
  · rw [gI_pI, if_neg (by omega)]; exact h5 j hj
  · rw [gI_pI, if_neg (by omega), h6 j hj]
    by_cases q : j = a
    · subst q; rw [if_neg (by omega), if_pos (by omega), hr]
    · by_cases q2 : j < a
      · rw [if_pos q2, if_pos (by omega)]
      · rw [if_neg q2, if_neg (by omega)]
  · rw [gI_pI, if_neg (by omega)]
  · rw [gI_pI, if_neg (by omega)]
  · rw [gI_pI, if_neg (by omega)]
theorem b_eatF (h : MSt T tk st ln N p a d m q w) (hk : ∀ j, j < N → KK (tk j)) (j : Nat) (c : Int32) (hj : KK j) (hc : mk j = c) (hn : tk a ≠ j) : f_X15_eat c w = some (0, w) := by
  unfold f_X15_eat
  refine bd1T (b_is h hk j c hj hc) ?_
  rw [if_neg hn]
  exact brT rfl rfl
theorem b_eatT (h : MSt T tk st ln N p a d m q w) (hk : ∀ j, j < N → KK (tk j)) (j : Nat) (c : Int32) (hj : KK j) (hc : mk j = c) (hn : tk a = j) (ha : a + 2 ≤ N) (hr : rol tk a = 0) : ∃ w', f_X15_eat c w = some (1, w') ∧ MSt T tk st ln N p (a + 1) d m q w' ∧ FM p m q w w' := by
  obtain ⟨u1, u2⟩ := m_adv h ha hr
  refine ⟨_, ?_, u1, u2⟩
  unfold f_X15_eat
  refine bd1T (b_is h hk j c hj hc) ?_
  rw [if_pos hn]
  exact brF (by decide) rfl
theorem b_eSF (h : MSt T tk st ln N p a d m q w) (hk : ∀ j, j < N → KK (tk j)) (j : Nat) (c : Int32) (hj : KK j) (hc : mk j = 50 + c) (hn : tk a ≠ j) : f_X15_eatSign c w = some (0, w) := by
  unfold f_X15_eatSign
  exact bd1T (b_eatF h hk j _ hj hc hn) rfl
theorem b_eST (h : MSt T tk st ln N p a d m q w) (hk : ∀ j, j < N → KK (tk j)) (j : Nat) (c : Int32) (hj : KK j) (hc : mk j = 50 + c) (hn : tk a = j) (ha : a + 2 ≤ N) (hr : rol tk a = 0) : ∃ w', f_X15_eatSign c w = some (1, w') ∧ MSt T tk st ln N p (a + 1) d m q w' ∧ FM p m q w w' := by
  obtain ⟨w', e, u⟩ := b_eatT h hk j _ hj hc hn ha hr
  refine ⟨w', ?_, u⟩
  unfold f_X15_eatSign
  exact bd1T e rfl
/-- a token with a role -/
theorem b_eatAs (h : MSt T tk st ln N p a d m q w) (hk : ∀ j, j < N → KK (tk j)) (j : Nat) (c : Int32) (r : Nat) (hj : KK j) (hc : mk j = c) (ha : tk a = j → a + 2 ≤ N) (hr : tk a = j → rol tk a = r) : ∃ w', f_X15_eatAs c (nI r) w = some (if tk a = j then 1 else 0, w') ∧ (tk a = j → MSt T tk st ln N p (a + 1) d m q w') ∧ (tk a ≠ j → gI w' 32 0 9 = nI a) ∧ FM p m q w w' := by
  have h0 := h
  obtain ⟨⟨h1, h2, h3, h4⟩, h5, h6, h7, h8, h9, h10, h11⟩ := h
  have run : ∀ R, bd1 (f_X15_eat c (pI w 37 0 a (nI r))) (fun r3 w4 => gd (decide (r3 &&& 1 = r3)) (some (r3, w4))) = R → f_X15_eatAs c (nI r) w = R := by
    intro R hR
    unfold f_X15_eatAs
    rw [h1]
    refine gdT ((vB_nI (by omega)).mpr (by omega)) ?_
    rw [nI_clamp (by omega)]
    exact sqT hR
  have hb : f_X15_is c (pI w 37 0 a (nI r)) = some (if tk a = j then 1 else 0, pI w 37 0 a (nI r)) := by
    subst hc
    unfold f_X15_is
    have e1 : gI (pI w 37 0 a (nI r)) 32 0 9 = nI a := by rw [gI_pI, if_neg (by omega)]; exact h1
    rw [e1]
    refine gdT ((vB_nI (by omega)).mpr (by omega)) ?_
    have e2 : gI (pI w 37 0 a (nI r)) 34 0 a = mk (tk a) := by rw [gI_pI, if_neg (by omega)]; exact h5 a (by omega)
    rw [nI_clamp (by omega), e2]
    have e := mk_inj (hk a (by omega)) hj
    by_cases q : tk a = j
    · rw [if_pos q]; exact brT (e.mpr q) rfl
    · rw [if_neg q]; exact brF (fun h => q (e.mp h)) rfl
  by_cases q : tk a = j
  · refine ⟨pI (pI w 37 0 a (nI r)) 32 0 9 ((gI (pI w 37 0 a (nI r)) 32 0 9) + 1), ?_, fun _ => ?_, fun n => (n q).elim, ?_⟩
    · refine run _ (bd1T (x := 1) (w := pI (pI w 37 0 a (nI r)) 32 0 9 ((gI (pI w 37 0 a (nI r)) 32 0 9) + 1)) ?_ ?_)
      · unfold f_X15_eat
        refine bd1T hb ?_
        rw [if_pos q]
        exact brF (by decide) rfl
      · rw [if_pos q]; rfl
    · have e1 : gI (pI w 37 0 a (nI r)) 32 0 9 = nI a := by rw [gI_pI, if_neg (by omega)]; exact h1
      rw [e1, nI_1]
      refine ⟨⟨?_, ?_, ?_, ?_⟩, fun j hj => ?_, fun j hj => ?_, mfx_2 rfl h7, mn_cg h8 ?_ fun c j hc => ?_, h9, ha q, h11⟩
      · rw [gI_pI, if_pos ⟨rfl, rfl, rfl⟩]
      · rw [gI_pI, if_neg (by omega), gI_pI, if_neg (by omega)]; exact h2
      · rw [gI_pI, if_neg (by omega), gI_pI, if_neg (by omega)]; exact h3
      · rw [gI_pI, if_neg (by omega), gI_pI, if_neg (by omega)]; exact h4
      · rw [gI_pI, if_neg (by omega), gI_pI, if_neg (by omega)]; exact h5 j hj
      · rw [gI_pI, if_neg (by omega), gI_pI]
        by_cases q' : j = a
        · subst q'; rw [if_pos ⟨rfl, rfl, rfl⟩, if_pos (by omega), hr q]
        · rw [if_neg (by omega), h6 j hj]
          by_cases q2 : j < a
          · rw [if_pos q2, if_pos (by omega)]
          · rw [if_neg q2, if_neg (by omega)]
      · rw [gI_pI, if_neg (by omega), gI_pI, if_neg (by omega)]
      · rw [gI_pI, if_neg (by omega), gI_pI, if_neg (by omega)]
    · exact ⟨fun c k i q1 q2 q3 q4 q5 => by rw [gI_pI, if_neg (by omega), gI_pI, if_neg (by omega)], rfl⟩
  · refine ⟨pI w 37 0 a (nI r), ?_, fun n => (q n).elim, fun _ => ?_, ?_⟩
    · refine run _ (bd1T (x := 0) (w := pI w 37 0 a (nI r)) ?_ ?_)
      · unfold f_X15_eat
        refine bd1T hb ?_
        rw [if_neg q]
        exact brT rfl rfl
      · rw [if_neg q]; rfl
    · rw [gI_pI, if_neg (by omega)]; exact h1
    · exact ⟨fun c k i q1 q2 q3 q4 q5 => by rw [gI_pI, if_neg (by omega)], rfl⟩
theorem vok44 {p : Nat} : vok 44 (p + 1) = true := by
  have : cnt 44 = 0 := by decide
  simp [vok, this]
theorem b_put (h : MSt T tk st ln N p a d m q w) (v : Int32) (hm : m < 800) : ∃ w', f_X15_put v w = some w' ∧ MSt T tk st ln N p a d (m + 1) q w' ∧ gI w' 53 p m = v ∧ FM p m q w w' := by
  obtain ⟨⟨h1, h2, h3, h4⟩, h5, h6, h7, h8, h9, h10, h11⟩ := h
  refine ⟨pI (pI w 53 p m v) 44 p 13 (nI (m + 1)), ?_, ⟨⟨?_, ?_, ?_, ?_⟩, fun j hj => ?_, fun j hj => ?_, mfx_2 rfl h7, mn_cg h8 ?_ fun c j hc => ?_, h9, h10, h11⟩, ?_, fun c k i q1 q2 q3 q4 q5 => ?_, rfl⟩
  · have g44 := h7.2 44 (by omega) (by omega)
    have g53 := h7.2 53 (by omega) (by omega)
    unfold f_X15_put
    rw [h7.1]
    refine gdT vok44 (sqT (gdT g44 (gdT vok44 (sqT (gdT g44 ?_)))))
    rw [Nat.add_sub_cancel, h3]
    refine gdT ((vB_nI (by omega)).mpr hm) (gdT g53 ?_)
    rw [nI_clamp (by omega)]
    refine sqT ?_
    have e1 : gR (pI w 53 p m v) 32 0 12 = p + 1 := h7.1
    have e2 : gI (pI w 53 p m v) 44 p 13 = nI m := by rw [gI_pI, if_neg (by omega)]; exact h3
    rw [e1]
    refine gdT vok44 (sqT (gdT g44 (gdT g44 ?_)))
    rw [Nat.add_sub_cancel, e2, nI_1]
    rfl
  · rw [gI_pI, if_neg (by omega), gI_pI, if_neg (by omega)]; exact h1
  · rw [gI_pI, if_neg (by omega), gI_pI, if_neg (by omega)]; exact h2
  · rw [gI_pI, if_pos ⟨rfl, rfl, rfl⟩]
  · rw [gI_pI, if_neg (by omega), gI_pI, if_neg (by omega)]; exact h4
  · rw [gI_pI, if_neg (by omega), gI_pI, if_neg (by omega)]; exact h5 j hj
  · rw [gI_pI, if_neg (by omega), gI_pI, if_neg (by omega)]; exact h6 j hj
  · rw [gI_pI, if_neg (by omega), gI_pI, if_neg (by omega)]
  · rw [gI_pI, if_neg (by omega), gI_pI, if_neg (by omega)]
  · rw [gI_pI, if_neg (by omega), gI_pI, if_pos ⟨rfl, rfl, rfl⟩]
  · rw [gI_pI, if_neg (by omega), gI_pI, if_neg (by omega)]
theorem b_deepT (h : MSt T tk st ln N p a d m q w) (hd : d < 8) (ha : a + 2 ≤ N) (hr : rol tk a = 0) : ∃ w', f_X15_isDeeper w = some (1, w') ∧ MSt T tk st ln N p (a + 1) (d + 1) m q w' ∧ FM p m q w w' := by
  obtain ⟨⟨h1, h2, h3, h4⟩, h5, h6, h7, h8, h9, h10, h11⟩ := h
  have h' : MSt T tk st ln N p a (d + 1) m q (pI w 32 0 10 (nI (d + 1))) := by
    refine ⟨⟨?_, ?_, ?_, ?_⟩, fun j hj => ?_, fun j hj => ?_, mfx_2 rfl h7, mn_cg h8 ?_ fun c j hc => ?_, h9, h10, hd⟩
    · rw [gI_pI, if_neg (by omega)]; exact h1
    · rw [gI_pI, if_pos ⟨rfl, rfl, rfl⟩]
    · rw [gI_pI, if_neg (by omega)]; exact h3
    · rw [gI_pI, if_neg (by omega)]; exact h4
    · rw [gI_pI, if_neg (by omega)]; exact h5 j hj
    · rw [gI_pI, if_neg (by omega)]; exact h6 j hj
    · rw [gI_pI, if_neg (by omega)]
    · rw [gI_pI, if_neg (by omega)]
  obtain ⟨u1, u2⟩ := m_adv h' ha hr
  have hF : FM p m q w (pI w 32 0 10 (nI (d + 1))) := ⟨fun c k i q1 q2 q3 q4 q5 => by rw [gI_pI, if_neg (by omega)], rfl⟩
  refine ⟨_, ?_, u1, fm_tr (Nat.le_refl _) (Nat.le_refl _) hF u2⟩
  unfold f_X15_isDeeper
  rw [h2, nI_1]
  exact brF (by (simp (disch := omega) only [lit_nI, nI_leI, nI_ltI, nI_eq, nI_clamp, nI_add, nI_sub, vB_nI, Nat.add_sub_cancel, Nat.reduceSub, Nat.reduceLT, Nat.reduceLeDiff, Nat.reduceAdd, gI_pI, p2_pI, Nat.reduceEqDiff, false_and, and_false, true_and, and_true, if_false, if_true, and_self] <;> omega)) (sqT (sqT rfl))
theorem b_deepF (h : MSt T tk st ln N p a 8 m q w) : f_X15_isDeeper w = some (0, w) := by
  unfold f_X15_isDeeper
  rw [h.1.2.1]
  exact brT rfl rfl
/-- out of a bracket -/
theorem m_up (h : MSt T tk st ln N p a (d + 1) m q w) : MSt T tk st ln N p a d m q (pI w 32 0 10 ((gI w 32 0 10) - 1)) ∧ FM p m q w (pI w 32 0 10 ((gI w 32 0 10) - 1)) := by
  obtain ⟨⟨h1, h2, h3, h4⟩, h5, h6, h7, h8, h9, h10, h11⟩ := h
  rw [h2, nI_pr (by omega), Nat.add_sub_cancel]
  refine ⟨⟨⟨?_, ?_, ?_, ?_⟩, fun j hj => ?_, fun j hj => ?_, mfx_2 rfl h7, mn_cg h8 ?_ fun c j hc => ?_, h9, h10, by omega⟩, fun c k i q1 q2 q3 q4 q5 => ?_, rfl⟩
  · rw [gI_pI, if_neg (by omega)]; exact h1
  · rw [gI_pI, if_pos ⟨rfl, rfl, rfl⟩]
  · rw [gI_pI, if_neg (by omega)]; exact h3
  · rw [gI_pI, if_neg (by omega)]; exact h4
  · rw [gI_pI, if_neg (by omega)]; exact h5 j hj
  · rw [gI_pI, if_neg (by omega)]; exact h6 j hj
  · rw [gI_pI, if_neg (by omega)]
  · rw [gI_pI, if_neg (by omega)]
  · rw [gI_pI, if_neg (by omega)]
end RPARSE
