-- THE PURE PART: the reference's error of a token
section RNAMES
variable {T : List Nat} {tk st ln : Nat → Nat} {N p : Nat}
theorem tld_c {r j : Nat} (hl : (cN tk r j).length ≤ 8) : (∃ i, fI T tk st ln r j = some i ∧ i < 8 ∧ tld T tk st ln r j = nI i) ∨ (fI T tk st ln r j = none ∧ tld T tk st ln r j = -1) := by
  unfold tld
  cases e : fI T tk st ln r j with
  | none => exact Or.inr ⟨rfl, rfl⟩
  | some i =>
    obtain ⟨_, _, _, _, _, h, _⟩ := fI_some e
    exact Or.inl ⟨i, rfl, by omega, rfl⟩
theorem mB_n {j : Nat} (h : rol tk j ≠ 8) : mB T tk st ln j = mA T tk st ln j := by unfold mB; rw [if_neg h]
/-- a name of a hedge or a rose -/
theorem b_look11 (hK : TKF T tk st ln N) {j : Nat} {w : Mm} (hj : j + 1 < N) (h3 : tk j = 3) (h : RI T tk st ln N p j w) (hr : rol tk j = 4 ∨ rol tk j = 6) : ∃ v, f_X15_look (nI j) 1 1 w = some (nI (ec T tk st ln j), pI w 38 0 j v) ∧ (ec T tk st ln j = 0 → v = nI (mB T tk st ln j)) := by
  obtain ⟨p1, p2, p3, p4, p5⟩ := id hK
  obtain ⟨⟨hR, _, _⟩, ⟨a1, a2, a3, a4⟩, _⟩ := h
  have t1 := b_told hK hR hj h3 (Or.inl rfl)
  have t2 := b_told hK hR hj h3 (Or.inr rfl)
  have hv : vB (nI j) 401 = true := (vB_nI (by omega)).mpr (by omega)
  have ee : ec T tk st ln j = if fI T tk st ln 1 j = none ∧ fI T tk st ln 2 j = none then 3 else 0 := by
    unfold ec
    rw [if_neg (by omega), if_neg (by omega), if_pos hr]
  rw [mB_n (by omega)]
  rcases tld_c (T := T) (tk := tk) (st := st) (ln := ln) (r := 1) (j := j) a3 with ⟨i, e1, e2, e3⟩ | ⟨e1, e2⟩
  · rw [e3] at t1
    rw [ee, if_neg (fun q => by rw [e1] at q; cases q.1)]
    refine ⟨nI i, ?_, fun _ => by unfold mA; rw [e1]⟩
    unfold f_X15_look
    refine brF (by decide) (bd1T t1 (brF (by rw [nI_m1 (by omega)]; exact fun h => h) (gdT hv ?_)))
    rw [nI_clamp (by omega)]
    exact sqT (brF (by rw [nI_m1 (by omega)]; exact fun h => h) rfl)
  · rw [e2] at t1
    rcases tld_c (T := T) (tk := tk) (st := st) (ln := ln) (r := 2) (j := j) a4 with ⟨i, k1, k2, k3⟩ | ⟨k1, k2⟩
    · rw [k3] at t2
      rw [ee, if_neg (fun q => by rw [k1] at q; cases q.2)]
      refine ⟨nI (8 + i), ?_, fun _ => by unfold mA; rw [e1, k1]⟩
      unfold f_X15_look
      refine brF (by decide) (bd1T t1 (brT rfl (brF (by decide) (bd1T t2 (brF (by rw [nI_m1 (by omega)]; exact fun h => h) (brF (by decide) ?_))))))
      rw [show (8 : Int32) = nI 8 from rfl, nI_add, Nat.add_comm i 8]
      refine sqT (gdT hv ?_)
      rw [nI_clamp (by omega)]
      exact sqT (brF (by rw [nI_m1 (by omega)]; exact fun h => h) rfl)
    · rw [k2] at t2
      rw [ee, if_pos ⟨e1, k1⟩]
      refine ⟨-1, ?_, fun q => by cases q⟩
      unfold f_X15_look
      refine brF (by decide) (bd1T t1 (brT rfl (brF (by decide) (bd1T t2 (brT rfl (gdT hv ?_))))))
      rw [nI_clamp (by omega)]
      exact sqT (brT rfl rfl)
/-- a name of a hedge -/
theorem b_look10 (hK : TKF T tk st ln N) {j : Nat} {w : Mm} (hj : j + 1 < N) (h3 : tk j = 3) (h : RI T tk st ln N p j w) (hr : rol tk j = 5 ∨ rol tk j = 7) : ∃ v, f_X15_look (nI j) 1 0 w = some (nI (ec T tk st ln j), pI w 38 0 j v) ∧ (ec T tk st ln j = 0 → v = nI (mB T tk st ln j)) := by
  obtain ⟨p1, p2, p3, p4, p5⟩ := id hK
  obtain ⟨⟨hR, _, _⟩, ⟨a1, a2, a3, a4⟩, _⟩ := h
  have t1 := b_told hK hR hj h3 (Or.inl rfl)
  have hv : vB (nI j) 401 = true := (vB_nI (by omega)).mpr (by omega)
  have ee : ec T tk st ln j = if fI T tk st ln 1 j = none then 3 else 0 := by
    unfold ec
    rw [if_neg (by omega), if_neg (by omega), if_neg (by omega), if_pos hr]
  rw [mB_n (by omega)]
  rcases tld_c (T := T) (tk := tk) (st := st) (ln := ln) (r := 1) (j := j) a3 with ⟨i, e1, e2, e3⟩ | ⟨e1, e2⟩
  · rw [e3] at t1
    rw [ee, if_neg (fun q => by rw [e1] at q; cases q)]
    refine ⟨nI i, ?_, fun _ => by unfold mA; rw [e1]⟩
    unfold f_X15_look
    refine brF (by decide) (bd1T t1 (brF (by rw [nI_m1 (by omega)]; exact fun h => h) (gdT hv ?_)))
    rw [nI_clamp (by omega)]
    exact sqT (brF (by rw [nI_m1 (by omega)]; exact fun h => h) rfl)
  · rw [e2] at t1
    rw [ee, if_pos e1]
    refine ⟨-1, ?_, fun q => by cases q⟩
    unfold f_X15_look
    refine brF (by decide) (bd1T t1 (brT rfl (brT rfl (gdT hv ?_))))
    rw [nI_clamp (by omega)]
    exact sqT (brT rfl rfl)
/-- a name of a rose -/
theorem b_look01 (hK : TKF T tk st ln N) {j : Nat} {w : Mm} (hj : j + 1 < N) (h3 : tk j = 3) (h0 : ∀ u, u < j → ec T tk st ln u = 0) (h : RI T tk st ln N p j w) (hr : rol tk j = 8) : ∃ v, f_X15_look (nI j) 0 1 w = some (nI (ec T tk st ln j), pI w 38 0 j v) ∧ (ec T tk st ln j = 0 → v = nI (mB T tk st ln j)) := by
  obtain ⟨p1, p2, p3, p4, p5⟩ := id hK
  obtain ⟨⟨hR, _, _⟩, ⟨a1, a2, a3, a4⟩, _⟩ := h
  have t2 := b_told hK hR hj h3 (Or.inr rfl)
  have hv : vB (nI j) 401 = true := (vB_nI (by omega)).mpr (by omega)
  have ee : ec T tk st ln j = if fI T tk st ln 2 j = none then 3 else 0 := by
    unfold ec
    rw [if_neg (by omega), if_neg (by omega), if_neg (by omega), if_neg (by omega), if_pos hr]
  rcases tld_c (T := T) (tk := tk) (st := st) (ln := ln) (r := 2) (j := j) a4 with ⟨i, e1, e2, e3⟩ | ⟨e1, e2⟩
  · rw [e3] at t2
    rw [ee, if_neg (fun q => by rw [e1] at q; cases q)]
    refine ⟨nI i, ?_, fun _ => ?_⟩
    · unfold f_X15_look
      refine brT rfl (brT rfl (brF (by decide) (bd1T t2 (brF (by rw [nI_m1 (by omega)]; exact fun h => h) (brT rfl (gdT hv ?_))))))
      rw [nI_clamp (by omega)]
      exact sqT (brF (by rw [nI_m1 (by omega)]; exact fun h => h) rfl)
    · have e5 : fI T tk st ln 1 j = none := by
        cases e6 : fI T tk st ln 1 j with
        | none => rfl
        | some i' => exact (fI_un h0 e6 e1).elim
      unfold mB mA
      rw [if_pos hr, e5, e1]
      show nI i = nI (8 + i - 8)
      rw [Nat.add_sub_cancel_left]
  · rw [e2] at t2
    rw [ee, if_pos e1]
    refine ⟨-1, ?_, fun q => by cases q⟩
    unfold f_X15_look
    refine brT rfl (brT rfl (brF (by decide) (bd1T t2 (brT rfl (gdT hv ?_)))))
    rw [nI_clamp (by omega)]
    exact sqT (brT rfl rfl)
theorem ri_3 {j : Nat} {w : Mm} (h : RI T tk st ln N p j w) : gR w 32 0 12 = p + 1 ∧ ∀ c, 44 ≤ c → c ≤ 54 → shD w c p = true := h.1.2.2
/-- a new name's error -/
theorem b_isNew (hK : TKF T tk st ln N) {j r : Nat} {w : Mm} (hj : j + 1 < N) (h3 : tk j = 3) (h : RI T tk st ln N p j w) (hr : rol tk j = r) (hr2 : r = 1 ∨ r = 2) : f_X15_isNew (nI j) (nI (cN tk r j).length) 8 w = some (nI (ec T tk st ln j), w) := by
  obtain ⟨⟨hR, _, _⟩, ⟨a1, a2, a3, a4⟩, _⟩ := h
  have t1 := b_told hK hR hj h3 (Or.inl rfl)
  have t2 := b_told hK hR hj h3 (Or.inr rfl)
  have hl : (cN tk r j).length ≤ 8 := by
    rcases hr2 with e | e
    · rw [e]; exact a3
    · rw [e]; exact a4
  have ee : ec T tk st ln j = if fI T tk st ln 1 j = none ∧ fI T tk st ln 2 j = none then (if (cN tk r j).length = 8 then 4 else 0) else 2 := by
    unfold ec
    rw [if_neg (by omega), if_pos (by omega), hr]
  rw [ee]
  unfold f_X15_isNew
  rcases tld_c (T := T) (tk := tk) (st := st) (ln := ln) (r := 1) (j := j) a3 with ⟨i, e1, e2, e3⟩ | ⟨e1, e2⟩
  · rw [e3] at t1
    rw [if_neg (fun q => by rw [e1] at q; cases q.1)]
    exact bd1T t1 (brF (by rw [nI_m1 (by omega)]; exact fun h => h) rfl)
  · rw [e2] at t1
    rcases tld_c (T := T) (tk := tk) (st := st) (ln := ln) (r := 2) (j := j) a4 with ⟨i, k1, k2, k3⟩ | ⟨k1, k2⟩
    · rw [k3] at t2
      rw [if_neg (fun q => by rw [k1] at q; cases q.2)]
      exact bd1T t1 (brT rfl (bd1T t2 (brF (by rw [nI_m1 (by omega)]; exact fun h => h) rfl)))
    · rw [k2] at t2
      rw [if_pos ⟨e1, k1⟩]
      refine bd1T t1 (brT rfl (bd1T t2 (brT rfl ?_)))
      by_cases q : (cN tk r j).length = 8
      · rw [if_pos q, q]; exact brT rfl rfl
      · rw [if_neg q]
        refine brF ?_ rfl
        rw [show (8 : Int32) = nI 8 from rfl, nI_eq (by omega) (by omega)]; exact q
theorem ec5 {j : Nat} : ec T tk st ln j ≤ 5 := by
  unfold ec
  repeat' split
  all_goals omega
/-- the number of a new listener -/
theorem new_no {j : Nat} (hK : TKF T tk st ln N) (hB : ∀ u, u ≤ j → BS tk u) (hj : j < N) (h3 : tk j = 3) (h7 : tk (j - 1) = 7 ∨ tk (j - 1) = 9) : j + 2 < N ∧ tk (j + 2) = 4 := by
  obtain ⟨p1, p2, p3, p4, p5⟩ := hK
  have h1 := ((hB j (Nat.le_refl _)).1 h3).1
  have hb := hB (j - 1) (by omega)
  have key : tk (j + 1) ≠ 1 ∧ tk (j + 1) ≠ 2 ∧ tk (j + 2) = 4 := by
    rcases h7 with q | q
    · obtain ⟨k1, k2, k3⟩ := hb.2.1 q
      rw [show j - 1 + 2 = j + 1 by omega] at k2
      rw [show j - 1 + 3 = j + 2 by omega] at k3
      exact ⟨by omega, by omega, k3⟩
    · obtain ⟨k1, k2, k3⟩ := hb.2.2.1 q
      rw [show j - 1 + 2 = j + 1 by omega] at k2
      rw [show j - 1 + 3 = j + 2 by omega] at k3
      exact ⟨by omega, by omega, k3⟩
  have := p5 j (by omega)
  have := p5 (j + 1) (by omega)
  exact ⟨by omega, key.2.2⟩
theorem b_newHedge (hK : TKF T tk st ln N) {j : Nat} {w : Mm} (hB : ∀ u, u ≤ j → BS tk u) (hj : j + 1 < N) (h3 : tk j = 3) (h : RI T tk st ln N p j w) (h7 : tk (j - 1) = 7) : ∃ w', f_X15_newHedge (nI j) w = some (nI (ec T tk st ln j), w') ∧ FN p w w' ∧ (ec T tk st ln j = 0 → RI T tk st ln N p (j + 1) w') := by
  obtain ⟨m1, m2⟩ := ri_3 h
  have h1 := ((hB j (Nat.le_refl _)).1 h3).1
  have hr : rol tk j = 1 := by rw [rolN h3 h1, if_pos h7]
  have hn := b_isNew hK hj h3 h hr (Or.inl rfl)
  obtain ⟨g1, g2⟩ := new_no hK hB (by omega) h3 (Or.inl h7)
  have hnum := b_numR hK h.1.1 g1 g2
  obtain ⟨_, ⟨a1, a2, a3, a4⟩, _⟩ := id h
  have s44 := m2 44 (by omega) (by omega)
  have s45 := m2 45 (by omega) (by omega)
  unfold f_X15_newHedge
  rw [m1]
  by_cases q : ec T tk st ln j = 0
  · have hl : (cN tk 1 j).length < 8 := by
      have q' := q
      unfold ec at q'
      rw [if_neg (by omega), if_pos (by omega), hr] at q'
      by_cases z : fI T tk st ln 1 j = none ∧ fI T tk st ln 2 j = none
      · rw [if_pos z] at q'
        by_cases z2 : (cN tk 1 j).length = 8
        · rw [if_pos z2] at q'; cases q'
        · omega
      · rw [if_neg z] at q'; cases q'
    refine ⟨_, ?_, fn_p (fn_p fn_rf (by omega)) (by omega), fun _ => ri_newH h h3 hr hl⟩
    · refine gdT vok44 (sqT (gdT (by rw [Nat.add_sub_cancel]; exact s44) ?_))
      rw [Nat.add_sub_cancel, a1]
      refine bd1T hn (brT (by rw [q]; decide) ?_)
      rw [m1]
      refine gdT vok44 (sqT (gdT s44 (gdT vok44 (sqT (gdT s44 ?_)))))
      rw [show (2 : Int32) = nI 2 from rfl, nI_add]
      refine bd1T hnum ?_
      rw [Nat.add_sub_cancel, a1]
      refine gdT ((vB_nI (by omega)).mpr hl) (gdT s45 ?_)
      rw [nI_clamp (by omega)]
      refine sqT ?_
      have e1 : gR (pI w 45 p (cN tk 1 j).length (nva T st ln (j + 2))) 32 0 12 = p + 1 := m1
      rw [e1]
      refine gdT vok44 (sqT (gdT s44 (gdT s44 ?_)))
      rw [Nat.add_sub_cancel, gI_pI, if_neg (by omega), a1, nI_1, q]
      rfl
  · refine ⟨w, ?_, fn_rf, fun e => (q e).elim⟩
    have := ec5 (T := T) (tk := tk) (st := st) (ln := ln) (j := j)
    refine gdT vok44 (sqT (gdT (by rw [Nat.add_sub_cancel]; exact s44) ?_))
    rw [Nat.add_sub_cancel, a1]
    refine bd1T hn (brF (by rw [show (0 : Int32) = nI 0 from rfl, nI_leI (by omega) (by omega)]; omega) rfl)
theorem b_newRose (hK : TKF T tk st ln N) {j : Nat} {w : Mm} (hB : ∀ u, u ≤ j → BS tk u) (hj : j + 1 < N) (h3 : tk j = 3) (h : RI T tk st ln N p j w) (h7 : tk (j - 1) = 9) : ∃ w', f_X15_newRose (nI j) w = some (nI (ec T tk st ln j), w') ∧ FN p w w' ∧ (ec T tk st ln j = 0 → RI T tk st ln N p (j + 1) w') := by
  obtain ⟨m1, m2⟩ := ri_3 h
  have h1 := ((hB j (Nat.le_refl _)).1 h3).1
  have hr : rol tk j = 2 := by rw [rolN h3 h1, if_neg (by omega), if_pos h7]
  have hn := b_isNew hK hj h3 h hr (Or.inr rfl)
  obtain ⟨g1, g2⟩ := new_no hK hB (by omega) h3 (Or.inr h7)
  have hnum := b_numR hK h.1.1 g1 g2
  obtain ⟨_, ⟨a1, a2, a3, a4⟩, _⟩ := id h
  have s44 := m2 44 (by omega) (by omega)
  have s45 := m2 46 (by omega) (by omega)
  unfold f_X15_newRose
  rw [m1]
  by_cases q : ec T tk st ln j = 0
  · have hl : (cN tk 2 j).length < 8 := by
      have q' := q
      unfold ec at q'
      rw [if_neg (by omega), if_pos (by omega), hr] at q'
      by_cases z : fI T tk st ln 1 j = none ∧ fI T tk st ln 2 j = none
      · rw [if_pos z] at q'
        by_cases z2 : (cN tk 2 j).length = 8
        · rw [if_pos z2] at q'; cases q'
        · omega
      · rw [if_neg z] at q'; cases q'
    refine ⟨_, ?_, fn_p (fn_p fn_rf (by omega)) (by omega), fun _ => ri_newR h h3 hr hl⟩
    · refine gdT vok44 (sqT (gdT (by rw [Nat.add_sub_cancel]; exact s44) ?_))
      rw [Nat.add_sub_cancel, a2]
      refine bd1T hn (brT (by rw [q]; decide) ?_)
      rw [m1]
      refine gdT vok44 (sqT (gdT s44 (gdT vok44 (sqT (gdT s44 ?_)))))
      rw [show (2 : Int32) = nI 2 from rfl, nI_add]
      refine bd1T hnum ?_
      rw [Nat.add_sub_cancel, a2]
      refine gdT ((vB_nI (by omega)).mpr hl) (gdT s45 ?_)
      rw [nI_clamp (by omega)]
      refine sqT ?_
      have e1 : gR (pI w 46 p (cN tk 2 j).length (nva T st ln (j + 2))) 32 0 12 = p + 1 := m1
      rw [e1]
      refine gdT vok44 (sqT (gdT s44 (gdT s44 ?_)))
      rw [Nat.add_sub_cancel, gI_pI, if_neg (by omega), a2, nI_1, q]
      rfl
  · refine ⟨w, ?_, fn_rf, fun e => (q e).elim⟩
    have := ec5 (T := T) (tk := tk) (st := st) (ln := ln) (j := j)
    refine gdT vok44 (sqT (gdT (by rw [Nat.add_sub_cancel]; exact s44) ?_))
    rw [Nat.add_sub_cancel, a2]
    refine bd1T hn (brF (by rw [show (0 : Int32) = nI 0 from rfl, nI_leI (by omega) (by omega)]; omega) rfl)
theorem b_newOrder {j : Nat} {w : Mm} (h : RI T tk st ln N p j w) (hO : isO (tk j)) : ∃ w', f_X15_newOrder (mk (tk j)) w = some (nI (ec T tk st ln j), w') ∧ FN p w w' ∧ (ec T tk st ln j = 0 → RI T tk st ln N p (j + 1) w') := by
  obtain ⟨m1, m2⟩ := ri_3 h
  obtain ⟨_, _, _, ⟨d1, d2⟩, _⟩ := id h
  have s44 := m2 44 (by omega) (by omega)
  have s47 := m2 47 (by omega) (by omega)
  have ee : ec T tk st ln j = if cO tk j = 16 then 4 else 0 := by
    unfold ec
    rw [if_pos (rolO hO)]
  rw [ee]
  unfold f_X15_newOrder
  rw [m1]
  by_cases q : cO tk j = 16
  · rw [if_pos q]
    refine ⟨w, ?_, fn_rf, fun e => by cases e⟩
    refine gdT vok44 (sqT (gdT (by rw [Nat.add_sub_cancel]; exact s44) ?_))
    rw [Nat.add_sub_cancel, d1, q]
    exact brT rfl rfl
  · rw [if_neg q]
    refine ⟨_, ?_, fn_p (fn_p fn_rf (by omega)) (by omega), fun _ => ri_ord h hO q⟩
    refine gdT vok44 (sqT (gdT (by rw [Nat.add_sub_cancel]; exact s44) ?_))
    rw [Nat.add_sub_cancel, d1]
    refine brF (by rw [show (16 : Int32) = nI 16 from rfl, nI_eq (by omega) (by omega)]; exact q) (gdT vok44 (sqT (gdT s44 (gdT vok44 (sqT (gdT s44 ?_))))))
    rw [d1]
    refine gdT ((vB_nI (by omega)).mpr (by omega)) (gdT s47 ?_)
    rw [nI_clamp (by omega)]
    refine sqT ?_
    have e1 : gR (pI w 47 p (cO tk j) (mk (tk j))) 32 0 12 = p + 1 := m1
    rw [e1]
    refine gdT vok44 (sqT (gdT s44 (gdT s44 ?_)))
    rw [Nat.add_sub_cancel, gI_pI, if_neg (by omega), d1, nI_1]
    rfl
end RNAMES
