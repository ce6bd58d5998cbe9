-- THE PURE PART: the class's error of a token
def ocT (b1 b2 a2 r3 : Int32) (w : Mm) : Option (Int32 × Mm) := br (r3 < 8) (br (r3 = (-1)) (some (3, w)) (br (b1 = 0) (br (b2 = 0) (bd0 (f_X11_mean a2 r3 w) (fun w18 => some (0, w18))) (some (3, w))) (bd0 (f_X11_mean a2 r3 w) (fun w17 => some (0, w17))))) (br (r3 = (-1)) (some (3, w)) (br (b1 = 0) (br (b2 = 1) (bd0 (f_X11_mean a2 r3 w) (fun w20 => some (0, w20))) (some (3, w))) (bd0 (f_X11_mean a2 r3 w) (fun w19 => some (0, w19)))))
def ocT3 (b1 a2 r3 : Int32) (r5 : Nat) (w : Mm) : Option (Int32 × Mm) := br (r5 = 23) (bd1 (f_X11_kind (a2 - 2) w) (fun r11 w12 => br (r11 = 22) (ocT b1 1 a2 r3 w12) (ocT b1 0 a2 r3 w12))) (ocT b1 0 a2 r3 w)
theorem old_eq {a2 : Int32} {a3 : Nat} {w : Mm} : f_X5_errorOfOldName a2 a3 w = bd1 (f_X11_key a2 w) (fun r1 w2 => bd1 (f_X5_listenerNamed r1 a3 w2) (fun r3 w4 => bd1 (f_X11_kind (a2 - 1) w4) (fun r5 w6 => br (r5 = 11) (ocT3 1 a2 r3 r5 w6) (br (r5 = 12) (ocT3 1 a2 r3 r5 w6) (br (r5 = 24) (ocT3 1 a2 r3 r5 w6) (ocT3 0 a2 r3 r5 w6)))))) := rfl
section CNAMES
variable {T : List Nat} {tk st ln : Nat → Nat} {N z : Nat}
theorem li_r {j : Nat} (a3 : (cN tk 1 j).length ≤ 8) (a4 : (cN tk 2 j).length ≤ 8) : (∃ i, fI T tk st ln 1 j = some i ∧ i < 8 ∧ liN T tk st ln j = nI i ∧ mA T tk st ln j = i) ∨ (fI T tk st ln 1 j = none ∧ ∃ i, fI T tk st ln 2 j = some i ∧ i < 8 ∧ liN T tk st ln j = nI (8 + i) ∧ mA T tk st ln j = 8 + i) ∨ (fI T tk st ln 1 j = none ∧ fI T tk st ln 2 j = none ∧ liN T tk st ln j = -1) := by
  unfold liN mA
  cases e1 : fI T tk st ln 1 j with
  | some i =>
    obtain ⟨_, _, _, _, _, hl, _⟩ := fI_some e1
    exact Or.inl ⟨i, rfl, by omega, rfl, rfl⟩
  | none =>
    cases e2 : fI T tk st ln 2 j with
    | some i =>
      obtain ⟨_, _, _, _, _, hl, _⟩ := fI_some e2
      exact Or.inr (Or.inl ⟨rfl, i, rfl, by omega, rfl, rfl⟩)
    | none => exact Or.inr (Or.inr ⟨rfl, rfl, rfl⟩)
theorem ocT_no {b1 b2 a2 : Int32} {w : Mm} : ocT b1 b2 a2 (-1) w = some (3, w) := by
  unfold ocT
  exact brT (by decide) (brT rfl rfl)
theorem ocT_H {b1 b2 : Int32} {j i : Nat} {w : Mm} (h4 : gI w 4 0 4 = nI (N - 1)) (hN : N ≤ 401) (hj : j < N) (hi : i < 8) (hb : b1 = 1 ∨ b2 = 0) : ocT b1 b2 (nI j) (nI i) w = some (0, pI w 8 0 j (nI i)) := by
  unfold ocT
  have hm := c_mean (v := nI i) h4 hN hj
  refine brT (by rw [show (8 : Int32) = nI 8 from rfl, nI_ltI (by omega) (by omega)]; exact hi) (brF (by rw [nI_m1 (by omega)]; exact fun h => h) ?_)
  by_cases q : b1 = 0
  · exact brT q (brT (hb.resolve_left fun e => absurd (e.symm.trans q) (by decide)) (bd0T hm rfl))
  · exact brF q (bd0T hm rfl)
theorem ocT_Hn {j i : Nat} {w : Mm} (hi : i < 8) : ocT 0 1 (nI j) (nI i) w = some (3, w) := by
  unfold ocT
  exact brT (by rw [show (8 : Int32) = nI 8 from rfl, nI_ltI (by omega) (by omega)]; exact hi) (brF (by rw [nI_m1 (by omega)]; exact fun h => h) (brT rfl (brF (by decide) rfl)))
theorem ocT_R {b1 b2 : Int32} {j i : Nat} {w : Mm} (h4 : gI w 4 0 4 = nI (N - 1)) (hN : N ≤ 401) (hj : j < N) (hi : i < 8) (hb : b1 = 1 ∨ b2 = 1) : ocT b1 b2 (nI j) (nI (8 + i)) w = some (0, pI w 8 0 j (nI (8 + i))) := by
  unfold ocT
  have hm := c_mean (v := nI (8 + i)) h4 hN hj
  refine brF (by rw [show (8 : Int32) = nI 8 from rfl, nI_ltI (by omega) (by omega)]; omega) (brF (by rw [nI_m1 (by omega)]; exact fun h => h) ?_)
  by_cases q : b1 = 0
  · exact brT q (brT (hb.resolve_left fun e => absurd (e.symm.trans q) (by decide)) (bd0T hm rfl))
  · exact brF q (bd0T hm rfl)
theorem ocT_Rn {j i : Nat} {w : Mm} (hi : i < 8) : ocT 0 0 (nI j) (nI (8 + i)) w = some (3, w) := by
  unfold ocT
  exact brF (by rw [show (8 : Int32) = nI 8 from rfl, nI_ltI (by omega) (by omega)]; omega) (brF (by rw [nI_m1 (by omega)]; exact fun h => h) (brT rfl (brF (by decide) rfl)))
theorem fk_8 {j : Nat} {v : Int32} {w : Mm} : FK z w (pI w 8 0 j v) := ⟨fun c k i q1 q2 q3 q4 => by rw [gI_pI, if_neg (by omega)], fun _ _ _ _ => rfl, rfl⟩
/-- an old name -/
theorem c_old (hT : TKF T tk st ln N) {j : Nat} {w : Mm} (hj : j < N) (h3 : tk j = 3) (hB : ∀ u, u ≤ j → BS tk u) (h0 : ∀ u, u < j → ec T tk st ln u = 0) (h : CI T tk st ln N z j w) (h7 : tk (j - 1) ≠ 7) (h9 : tk (j - 1) ≠ 9) : ∃ w', f_X5_errorOfOldName (nI j) z w = some (nI (ec T tk st ln j), w') ∧ FK z w w' ∧ (ec T tk st ln j = 0 → CI T tk st ln N z (j + 1) w') := by
  obtain ⟨p1, p2, p3, p4, p5⟩ := id hT
  obtain ⟨⟨c5, c4, c7, c8⟩, ⟨a1, a2, a3, a4⟩, _⟩ := id h
  have hb := (hB j (Nat.le_refl _)).1 h3
  have hr := rolN h3 hb.1
  rw [if_neg h7, if_neg h9] at hr
  have run : ∀ X, (br (pk tk j = 11) (ocT3 1 (nI j) (liN T tk st ln j) (pk tk j) w) (br (pk tk j = 12) (ocT3 1 (nI j) (liN T tk st ln j) (pk tk j) w) (br (pk tk j = 24) (ocT3 1 (nI j) (liN T tk st ln j) (pk tk j) w) (ocT3 0 (nI j) (liN T tk st ln j) (pk tk j) w)))) = X → f_X5_errorOfOldName (nI j) z w = X := fun X hX => by
    rw [old_eq]
    refine bd1T (c_keyA c4 p2 hj) ?_
    rw [c7 j hj h3]
    exact bd1T (c_named hT hj h3 hB h) (bd1T (c_kindP c4 c5 p2 hj) hX)
  have epk : pk tk j = tk (j - 1) := by unfold pk; rw [if_neg (by omega)]
  rw [epk] at run
  have ciO := fun hr => ci_old hB h h3 hr
  have hli := li_r (T := T) (st := st) (ln := ln) a3 a4
  -- either kind
  have any : (rol tk j = 4 ∨ rol tk j = 6) → ∃ w', ocT 1 0 (nI j) (liN T tk st ln j) w = some (nI (ec T tk st ln j), w') ∧ FK z w w' ∧ (ec T tk st ln j = 0 → CI T tk st ln N z (j + 1) w') := fun r => by
    have ee : ec T tk st ln j = if fI T tk st ln 1 j = none ∧ fI T tk st ln 2 j = none then 3 else 0 := by
      unfold ec
      rw [if_neg (by omega), if_neg (by omega), if_pos r]
    rcases hli with ⟨i, e1, e2, e3, e4⟩ | ⟨e0, i, e1, e2, e3, e4⟩ | ⟨e1, e2, e3⟩
    · rw [ee, if_neg (fun q => by rw [e1] at q; cases q.1), e3]
      refine ⟨_, ocT_H c4 p2 hj e2 (Or.inl rfl), fk_8, fun _ => ?_⟩
      have := ciO (by omega); rwa [e4] at this
    · rw [ee, if_neg (fun q => by rw [e1] at q; cases q.2), e3]
      refine ⟨_, ocT_R c4 p2 hj e2 (Or.inl rfl), fk_8, fun _ => ?_⟩
      have := ciO (by omega); rwa [e4] at this
    · rw [ee, if_pos ⟨e1, e2⟩, e3]
      exact ⟨w, ocT_no, fk_rf, fun q => by cases q⟩
  -- a hedge
  have hed : (rol tk j = 5 ∨ rol tk j = 7) → ∃ w', ocT 0 0 (nI j) (liN T tk st ln j) w = some (nI (ec T tk st ln j), w') ∧ FK z w w' ∧ (ec T tk st ln j = 0 → CI T tk st ln N z (j + 1) w') := fun r => by
    have ee : ec T tk st ln j = if fI T tk st ln 1 j = none then 3 else 0 := by
      unfold ec
      rw [if_neg (by omega), if_neg (by omega), if_neg (by omega), if_pos r]
    rcases hli with ⟨i, e1, e2, e3, e4⟩ | ⟨e0, i, e1, e2, e3, e4⟩ | ⟨e1, e2, e3⟩
    · rw [ee, if_neg (fun q => by rw [e1] at q; cases q), e3]
      refine ⟨_, ocT_H c4 p2 hj e2 (Or.inr rfl), fk_8, fun _ => ?_⟩
      have := ciO (by omega); rwa [e4] at this
    · rw [ee, if_pos e0, e3]
      exact ⟨w, ocT_Rn e2, fk_rf, fun q => by cases q⟩
    · rw [ee, if_pos e1, e3]
      exact ⟨w, ocT_no, fk_rf, fun q => by cases q⟩
  -- a rose
  have ros : rol tk j = 8 → ∃ w', ocT 0 1 (nI j) (liN T tk st ln j) w = some (nI (ec T tk st ln j), w') ∧ FK z w w' ∧ (ec T tk st ln j = 0 → CI T tk st ln N z (j + 1) w') := fun r => by
    have ee : ec T tk st ln j = if fI T tk st ln 2 j = none then 3 else 0 := by
      unfold ec
      rw [if_neg (by omega), if_neg (by omega), if_neg (by omega), if_neg (by omega), if_pos r]
    rcases hli with ⟨i, e1, e2, e3, e4⟩ | ⟨e0, i, e1, e2, e3, e4⟩ | ⟨e1, e2, e3⟩
    · have e5 : fI T tk st ln 2 j = none := by
        cases e6 : fI T tk st ln 2 j with
        | none => rfl
        | some i' => exact (fI_un h0 e1 e6).elim
      rw [ee, if_pos e5, e3]
      exact ⟨w, ocT_Hn e2, fk_rf, fun q => by cases q⟩
    · rw [ee, if_neg (fun q => by rw [e1] at q; cases q), e3]
      refine ⟨_, ocT_R c4 p2 hj e2 (Or.inr rfl), fk_8, fun _ => ?_⟩
      have := ciO (by omega); rwa [e4] at this
    · rw [ee, if_pos e2, e3]
      exact ⟨w, ocT_no, fk_rf, fun q => by cases q⟩
  rcases hb.2 with q | q | q | q | q
  · exact (h7 q).elim
  · exact (h9 q).elim
  · by_cases q11 : tk (j - 1) = 11 ∨ tk (j - 1) = 12
    · rw [if_pos q11] at hr
      obtain ⟨w', t1, t2⟩ := any (Or.inl hr)
      refine ⟨w', run _ ?_, t2⟩
      rcases q11 with q11 | q11
      · exact brT q11 (brF (by omega) t1)
      · exact brF (by omega) (brT q11 (brF (by omega) t1))
    · rw [if_neg q11, if_pos (by omega)] at hr
      obtain ⟨w', t1, t2⟩ := hed (Or.inl hr)
      exact ⟨w', run _ (brF (by omega) (brF (by omega) (brF (by omega) (brF (by omega) t1)))), t2⟩
  · rw [if_neg (by omega), if_neg (by omega), if_neg (by omega), if_pos q] at hr
    have hk2 : ∃ r, f_X11_kind (nI j - 2) w = some (r, w) ∧ (r = 22 ↔ tk (j - 2) = 22) := by
      by_cases q1 : j = 1
      · subst q1
        refine ⟨1, ?_, by omega, fun e => ?_⟩
        · unfold f_X11_kind
          refine bd1T (x := 0) (w := w) ?_ (brT rfl rfl)
          unfold f_X11_has
          exact brT (by decide) rfl
        · have : (1 : Nat) - 2 = 1 - 1 := rfl
          rw [this, q] at e; omega
      · have e2 : nI j - 2 = nI (j - 2) := by rw [show (2 : Int32) = nI 2 from rfl, nI_sub (by omega)]
        rw [e2]
        exact ⟨_, c_kind c4 c5 p2 (by omega), Iff.rfl⟩
    obtain ⟨r, hk2, hr2⟩ := hk2
    by_cases q22 : tk (j - 2) = 22
    · rw [if_pos q22] at hr
      obtain ⟨w', t1, t2⟩ := ros hr
      exact ⟨w', run _ (brF (by omega) (brF (by omega) (brF (by omega) (brT q (bd1T hk2 (brT (hr2.mpr q22) t1)))))), t2⟩
    · rw [if_neg q22] at hr
      obtain ⟨w', t1, t2⟩ := hed (Or.inr hr)
      exact ⟨w', run _ (brF (by omega) (brF (by omega) (brF (by omega) (brT q (bd1T hk2 (brF (fun e => q22 (hr2.mp e)) t1)))))), t2⟩
  · rw [if_neg (by omega), if_neg (by omega), if_pos q] at hr
    obtain ⟨w', t1, t2⟩ := any (Or.inr hr)
    exact ⟨w', run _ (brF (by omega) (brF (by omega) (brT q (brF (by omega) t1)))), t2⟩
end CNAMES
