-- THE PURE PART: the class's check of a token
section CNAMES
variable {T : List Nat} {tk st ln : Nat → Nat} {N z : Nat}
/-- the role of a name -/
theorem rolN {j : Nat} (h : tk j = 3) (h1 : 1 ≤ j) : rol tk j = if tk (j - 1) = 7 then 1 else if tk (j - 1) = 9 then 2 else if tk (j - 1) = 11 ∨ tk (j - 1) = 12 then 4 else if tk (j - 1) = 13 ∨ tk (j - 1) = 14 then 5 else if tk (j - 1) = 24 then 6 else if tk (j - 1) = 23 then (if tk (j - 2) = 22 then 8 else 7) else 0 := by
  unfold rol
  rw [if_pos h, if_neg (by omega)]
theorem rol4 {j : Nat} (h : tk j = 4) : rol tk j = if j = 0 then 0 else if tk (j - 1) = 8 ∨ tk (j - 1) = 10 then 9 else 0 := by
  unfold rol
  rw [if_neg (by omega), if_pos h]
theorem rolO {j : Nat} (h : isO (tk j)) : rol tk j = 3 := by
  unfold isO at h
  unfold rol
  rw [if_neg (by omega), if_neg (by omega), if_pos h]
theorem rolX {j : Nat} (h3 : tk j ≠ 3) (h4 : tk j ≠ 4) (h : ¬ isO (tk j)) : rol tk j = 0 := by
  unfold isO at h
  unfold rol
  rw [if_neg h3, if_neg h4, if_neg h]
/-- between tokens the counts stay -/
theorem cN_st {r j : Nat} (hB : ∀ u, u ≤ j → BS tk u) (h9 : rol tk j ≠ 9) (hr : r = 1 ∨ r = 2) : cN tk r (j + 1 - 2) = cN tk r (j - 2) := by
  by_cases q : j < 2
  · by_cases q0 : j = 0
    · subst q0; rfl
    · have : j = 1 := by omega
      subst this; rfl
  · obtain ⟨u, rfl⟩ : ∃ u, j = u + 2 := ⟨j - 2, by omega⟩
    rw [show u + 2 + 1 - 2 = u + 1 by omega, show u + 2 - 2 = u by omega]
    refine cN_n fun e => h9 ?_
    obtain ⟨h3, h1⟩ := rol_nm (tk := tk) (u := u) (by omega) (by omega) (by omega)
    rw [rolN h3 h1] at e
    have hb := hB (u - 1) (by omega)
    by_cases q7 : tk (u - 1) = 7
    · obtain ⟨k1, k2, k3⟩ := hb.2.1 q7
      rw [show u - 1 + 2 = u + 1 by omega] at k2
      rw [show u - 1 + 3 = u + 2 by omega] at k3
      rw [rol4 k3, if_neg (by omega), show u + 2 - 1 = u + 1 by omega, if_pos (Or.inl k2)]
    · rw [if_neg q7] at e
      by_cases q9 : tk (u - 1) = 9
      · obtain ⟨k1, k2, k3⟩ := hb.2.2.1 q9
        rw [show u - 1 + 2 = u + 1 by omega] at k2
        rw [show u - 1 + 3 = u + 2 by omega] at k3
        rw [rol4 k3, if_neg (by omega), show u + 2 - 1 = u + 1 by omega, if_pos (Or.inr k2)]
      · rw [if_neg q9] at e
        split at e
        · omega
        · split at e
          · omega
          · split at e
            · omega
            · split at e
              · split at e <;> omega
              · omega
theorem cO_s {j : Nat} : cO tk (j + 1) = if isO (tk j) then cO tk j + 1 else cO tk j := rfl
/-- tokens that change nothing -/
theorem ci_same {j : Nat} {w : Mm} (hB : ∀ u, u ≤ j → BS tk u) (h : CI T tk st ln N z j w) (h1 : rol tk j = 0) (hO : ¬ isO (tk j)) (h3 : tk j ≠ 3) : CI T tk st ln N z (j + 1) w := by
  obtain ⟨h0, ⟨a1, a2, a3, a4⟩, ⟨b1, b2⟩, ⟨c1, c2⟩, ⟨d1, d2⟩, e⟩ := h
  have n1 := cN_st (r := 1) hB (by omega) (Or.inl rfl)
  have n2 := cN_st (r := 2) hB (by omega) (Or.inr rfl)
  have m1 : cN tk 1 (j + 1) = cN tk 1 j := cN_n (by omega)
  have m2 : cN tk 2 (j + 1) = cN tk 2 j := cN_n (by omega)
  refine ⟨h0, ⟨by rw [n1]; exact a1, by rw [n2]; exact a2, by rw [m1]; exact a3, by rw [m2]; exact a4⟩, ⟨by rw [m1]; exact b1, by rw [m2]; exact b2⟩, ⟨by rw [n1]; exact c1, by rw [n2]; exact c2⟩, ⟨by rw [cO_s, if_neg hO]; exact d1, by rw [cO_s, if_neg hO]; exact d2⟩, fun u hu q3 q4 => ?_⟩
  by_cases q : u = j
  · subst q; exact (h3 q3).elim
  · exact e u (by omega) q3 q4
/-- an order -/
theorem ci_ord {j : Nat} {w : Mm} (hB : ∀ u, u ≤ j → BS tk u) (h : CI T tk st ln N z j w) (hO : isO (tk j)) (hc : cO tk j ≠ 16) : CI T tk st ln N z (j + 1) (pI w 9 0 1 (nI (cO tk j + 1))) := by
  have h1 := rolO hO
  obtain ⟨⟨h0, h01, h02, h03⟩, ⟨a1, a2, a3, a4⟩, ⟨b1, b2⟩, ⟨c1, c2⟩, ⟨d1, d2⟩, e⟩ := h
  have n1 := cN_st (r := 1) hB (by omega) (Or.inl rfl)
  have n2 := cN_st (r := 2) hB (by omega) (Or.inr rfl)
  have m1 : cN tk 1 (j + 1) = cN tk 1 j := cN_n (by omega)
  have m2 : cN tk 2 (j + 1) = cN tk 2 j := cN_n (by omega)
  refine ⟨⟨h0, ?_, h02, fun u h1 h2 => ?_⟩, ⟨?_, ?_, by rw [m1]; exact a3, by rw [m2]; exact a4⟩, ⟨by rw [m1]; exact b1, by rw [m2]; exact b2⟩, ⟨fun i u q => ?_, fun i u q => ?_⟩, ⟨?_, by rw [cO_s, if_pos hO]; omega⟩, fun u hu q3 q4 => ?_⟩
  · rw [gI_pI, if_neg (by omega)]; exact h01
  · rw [gI_pI, if_neg (by omega)]; exact h03 u h1 h2
  · rw [n1, gI_pI, if_neg (by omega)]; exact a1
  · rw [n2, gI_pI, if_neg (by omega)]; exact a2
  · rw [n1] at q; rw [gI_pI, if_neg (by omega)]; exact c1 i u q
  · rw [n2] at q; rw [gI_pI, if_neg (by omega)]; exact c2 i u q
  · rw [cO_s, if_pos hO, gI_pI, if_pos ⟨rfl, rfl, rfl⟩]
  · have : u ≠ j := fun q => by subst q; unfold isO at hO; omega
    rw [gI_pI, if_neg (by omega)]; exact e u (by omega) q3 q4
/-- an old name -/
theorem ci_old {j : Nat} {w : Mm} (hB : ∀ u, u ≤ j → BS tk u) (h : CI T tk st ln N z j w) (h3 : tk j = 3) (hr : 4 ≤ rol tk j ∧ rol tk j ≤ 8) : CI T tk st ln N z (j + 1) (pI w 8 0 j (nI (mA T tk st ln j))) := by
  obtain ⟨⟨h0, h01, h02, h03⟩, ⟨a1, a2, a3, a4⟩, ⟨b1, b2⟩, ⟨c1, c2⟩, ⟨d1, d2⟩, e⟩ := h
  have n1 := cN_st (r := 1) hB (by omega) (Or.inl rfl)
  have n2 := cN_st (r := 2) hB (by omega) (Or.inr rfl)
  have m1 : cN tk 1 (j + 1) = cN tk 1 j := cN_n (by omega)
  have m2 : cN tk 2 (j + 1) = cN tk 2 j := cN_n (by omega)
  have hO : ¬ isO (tk j) := by unfold isO; omega
  refine ⟨⟨h0, ?_, h02, fun u h1 h2 => ?_⟩, ⟨?_, ?_, by rw [m1]; exact a3, by rw [m2]; exact a4⟩, ⟨by rw [m1]; exact b1, by rw [m2]; exact b2⟩, ⟨fun i u q => ?_, fun i u q => ?_⟩, ⟨?_, by rw [cO_s, if_neg hO]; exact d2⟩, fun u hu q3 q4 => ?_⟩
  · rw [gI_pI, if_neg (by omega)]; exact h01
  · have : u ≠ j := fun q => by subst q; omega
    rw [gI_pI, if_neg (by omega)]; exact h03 u h1 h2
  · rw [n1, gI_pI, if_neg (by omega)]; exact a1
  · rw [n2, gI_pI, if_neg (by omega)]; exact a2
  · rw [n1] at q; rw [gI_pI, if_neg (by omega)]; exact c1 i u q
  · rw [n2] at q; rw [gI_pI, if_neg (by omega)]; exact c2 i u q
  · rw [cO_s, if_neg hO, gI_pI, if_neg (by omega)]; exact d1
  · by_cases q : u = j
    · subst q; rw [gI_pI, if_pos ⟨rfl, rfl, rfl⟩]
    · rw [gI_pI, if_neg (by omega)]; exact e u (by omega) q3 q4
theorem gL_pL2 {w : Mm} {c k i : Nat} {v : Int64} {c' k' i' : Nat} : gL (pL w c k i v) c' k' i' = if c' = c ∧ k' = k ∧ i' = i then v else gL w c' k' i' := rfl
/-- a new hedge -/
theorem ci_newH {j : Nat} {w : Mm} (hB : ∀ u, u ≤ j → BS tk u) (h : CI T tk st ln N z j w) (h3 : tk j = 3) (hr : rol tk j = 1) (hl : (cN tk 1 j).length < 8) : CI T tk st ln N z (j + 1) (pL w 10 0 (cN tk 1 j).length (kyN T st ln j)) := by
  obtain ⟨⟨h0, h01, h02, h03⟩, ⟨a1, a2, a3, a4⟩, ⟨b1, b2⟩, ⟨c1, c2⟩, ⟨d1, d2⟩, e⟩ := h
  have n1 := cN_st (r := 1) hB (by omega) (Or.inl rfl)
  have n2 := cN_st (r := 2) hB (by omega) (Or.inr rfl)
  have m1 : cN tk 1 (j + 1) = cN tk 1 j ++ [j] := cN_y hr
  have m2 : cN tk 2 (j + 1) = cN tk 2 j := cN_n (by omega)
  have hO : ¬ isO (tk j) := by unfold isO; omega
  refine ⟨⟨h0, h01, fun u h1 h2 => ?_, h03⟩, ⟨by rw [n1]; exact a1, by rw [n2]; exact a2, by rw [m1, List.length_append, List.length_singleton]; omega, by rw [m2]; exact a4⟩, ⟨fun i u q => ?_, fun i u q => ?_⟩, ⟨by rw [n1]; exact c1, by rw [n2]; exact c2⟩, ⟨by rw [cO_s, if_neg hO]; exact d1, by rw [cO_s, if_neg hO]; exact d2⟩, fun u hu q3 q4 => ?_⟩
  · rw [gL_pL2, if_neg (by omega)]; exact h02 u h1 h2
  · rw [m1] at q
    rcases app_some q with ⟨q1, q2⟩ | ⟨q1, q2⟩
    · rw [gL_pL2, if_neg (by omega)]; exact b1 i u q2
    · subst q1; subst q2; rw [gL_pL2, if_pos ⟨rfl, rfl, rfl⟩]
  · rw [m2] at q; rw [gL_pL2, if_neg (by omega)]; exact b2 i u q
  · have : u ≠ j := fun q => by subst q; omega
    exact e u (by omega) q3 q4
/-- a new rose -/
theorem ci_newR {j : Nat} {w : Mm} (hB : ∀ u, u ≤ j → BS tk u) (h : CI T tk st ln N z j w) (h3 : tk j = 3) (hr : rol tk j = 2) (hl : (cN tk 2 j).length < 8) : CI T tk st ln N z (j + 1) (pL w 10 0 (8 + (cN tk 2 j).length) (kyN T st ln j)) := by
  obtain ⟨⟨h0, h01, h02, h03⟩, ⟨a1, a2, a3, a4⟩, ⟨b1, b2⟩, ⟨c1, c2⟩, ⟨d1, d2⟩, e⟩ := h
  have n1 := cN_st (r := 1) hB (by omega) (Or.inl rfl)
  have n2 := cN_st (r := 2) hB (by omega) (Or.inr rfl)
  have m1 : cN tk 1 (j + 1) = cN tk 1 j := cN_n (by omega)
  have m2 : cN tk 2 (j + 1) = cN tk 2 j ++ [j] := cN_y hr
  have hO : ¬ isO (tk j) := by unfold isO; omega
  refine ⟨⟨h0, h01, fun u h1 h2 => ?_, h03⟩, ⟨by rw [n1]; exact a1, by rw [n2]; exact a2, by rw [m1]; exact a3, by rw [m2, List.length_append, List.length_singleton]; omega⟩, ⟨fun i u q => ?_, fun i u q => ?_⟩, ⟨by rw [n1]; exact c1, by rw [n2]; exact c2⟩, ⟨by rw [cO_s, if_neg hO]; exact d1, by rw [cO_s, if_neg hO]; exact d2⟩, fun u hu q3 q4 => ?_⟩
  · rw [gL_pL2, if_neg (by omega)]; exact h02 u h1 h2
  · rw [m1] at q
    have := (List.getElem?_eq_some_iff.mp q).1
    rw [gL_pL2, if_neg (by omega)]; exact b1 i u q
  · rw [m2] at q
    rcases app_some q with ⟨q1, q2⟩ | ⟨q1, q2⟩
    · rw [gL_pL2, if_neg (by omega)]; exact b2 i u q2
    · subst q1; subst q2; rw [gL_pL2, if_pos ⟨rfl, rfl, rfl⟩]
  · have : u ≠ j := fun q => by subst q; omega
    exact e u (by omega) q3 q4
/-- a hedge's number -/
theorem ci_numH {j : Nat} {w : Mm} (hB : ∀ u, u ≤ j → BS tk u) (h : CI T tk st ln N z j w) (h4 : tk j = 4) (h1 : 1 ≤ j) (h8 : tk (j - 1) = 8) : (cN tk 1 (j - 2)).length < 8 ∧ CI T tk st ln N z (j + 1) (pI (pI w 26 z (cN tk 1 (j - 2)).length (nva T st ln j)) 25 z 2 (nI ((cN tk 1 (j - 2)).length + 1))) := by
  obtain ⟨⟨h0, h01, h02, h03⟩, ⟨a1, a2, a3, a4⟩, ⟨b1, b2⟩, ⟨c1, c2⟩, ⟨d1, d2⟩, e⟩ := h
  obtain ⟨k1, k2, k3⟩ := (hB (j - 1) (by omega)).2.2.2.1 h8
  obtain ⟨u, rfl⟩ : ∃ u, j = u + 2 := ⟨j - 2, by omega⟩
  rw [show u + 2 - 1 - 1 = u by omega] at k2
  rw [show u + 2 - 1 - 2 = u - 1 by omega] at k3
  rw [show u + 2 - 2 = u by omega] at a1 a2 c1 c2 ⊢
  have hr : rol tk u = 1 := by rw [rolN k2 (by omega), if_pos k3]
  have r9 : rol tk (u + 2) = 9 := by rw [rol4 h4, if_neg (by omega), if_pos (Or.inl h8)]
  have m1 : cN tk 1 (u + 2 + 1) = cN tk 1 (u + 2) := cN_n (by omega)
  have m2 : cN tk 2 (u + 2 + 1) = cN tk 2 (u + 2) := cN_n (by omega)
  have n1 : cN tk 1 (u + 2 + 1 - 2) = cN tk 1 u ++ [u] := cN_y hr
  have n2 : cN tk 2 (u + 2 + 1 - 2) = cN tk 2 u := cN_n (by omega)
  have hO : ¬ isO (tk (u + 2)) := by unfold isO; omega
  have hl : (cN tk 1 u).length < 8 := by
    have := (List.getElem?_eq_some_iff.mp (cN_at hr (by omega : u < u + 2))).1
    omega
  refine ⟨hl, ⟨h0, ?_, h02, fun v q1 q2 => ?_⟩, ⟨?_, ?_, by rw [m1]; exact a3, by rw [m2]; exact a4⟩, ⟨by rw [m1]; exact b1, by rw [m2]; exact b2⟩, ⟨fun i v q => ?_, fun i v q => ?_⟩, ⟨?_, by rw [cO_s, if_neg hO]; exact d2⟩, fun v hv q3 q4 => ?_⟩
  · rw [gI_pI, if_neg (by omega), gI_pI, if_neg (by omega)]; exact h01
  · rw [gI_pI, if_neg (by omega), gI_pI, if_neg (by omega)]; exact h03 v q1 q2
  · rw [n1, gI_pI, if_pos ⟨rfl, rfl, rfl⟩, List.length_append, List.length_singleton]
  · rw [n2, gI_pI, if_neg (by omega), gI_pI, if_neg (by omega)]; exact a2
  · rw [n1] at q
    rw [gI_pI, if_neg (by omega)]
    rcases app_some q with ⟨q1, q2⟩ | ⟨q1, q2⟩
    · rw [gI_pI, if_neg (by omega)]; exact c1 i v q2
    · subst q1; subst q2; rw [gI_pI, if_pos ⟨rfl, rfl, rfl⟩]
  · rw [n2] at q; rw [gI_pI, if_neg (by omega), gI_pI, if_neg (by omega)]; exact c2 i v q
  · rw [cO_s, if_neg hO, gI_pI, if_neg (by omega), gI_pI, if_neg (by omega)]; exact d1
  · have : v ≠ u + 2 := fun q => by subst q; omega
    rw [gI_pI, if_neg (by omega), gI_pI, if_neg (by omega)]; exact e v (by omega) q3 q4
/-- a rose's number -/
theorem ci_numR {j : Nat} {w : Mm} (hB : ∀ u, u ≤ j → BS tk u) (h : CI T tk st ln N z j w) (h4 : tk j = 4) (h1 : 1 ≤ j) (h8 : tk (j - 1) = 10) : (cN tk 2 (j - 2)).length < 8 ∧ CI T tk st ln N z (j + 1) (pI (pI w 27 z (cN tk 2 (j - 2)).length (nva T st ln j)) 25 z 3 (nI ((cN tk 2 (j - 2)).length + 1))) := by
  obtain ⟨⟨h0, h01, h02, h03⟩, ⟨a1, a2, a3, a4⟩, ⟨b1, b2⟩, ⟨c1, c2⟩, ⟨d1, d2⟩, e⟩ := h
  obtain ⟨k1, k2, k3⟩ := (hB (j - 1) (by omega)).2.2.2.2.1 h8
  obtain ⟨u, rfl⟩ : ∃ u, j = u + 2 := ⟨j - 2, by omega⟩
  rw [show u + 2 - 1 - 1 = u by omega] at k2
  rw [show u + 2 - 1 - 2 = u - 1 by omega] at k3
  rw [show u + 2 - 2 = u by omega] at a1 a2 c1 c2 ⊢
  have hr : rol tk u = 2 := by rw [rolN k2 (by omega), if_neg (by omega), if_pos k3]
  have r9 : rol tk (u + 2) = 9 := by rw [rol4 h4, if_neg (by omega), if_pos (Or.inr h8)]
  have m1 : cN tk 1 (u + 2 + 1) = cN tk 1 (u + 2) := cN_n (by omega)
  have m2 : cN tk 2 (u + 2 + 1) = cN tk 2 (u + 2) := cN_n (by omega)
  have n1 : cN tk 1 (u + 2 + 1 - 2) = cN tk 1 u := cN_n (by omega)
  have n2 : cN tk 2 (u + 2 + 1 - 2) = cN tk 2 u ++ [u] := cN_y hr
  have hO : ¬ isO (tk (u + 2)) := by unfold isO; omega
  have hl : (cN tk 2 u).length < 8 := by
    have := (List.getElem?_eq_some_iff.mp (cN_at hr (by omega : u < u + 2))).1
    omega
  refine ⟨hl, ⟨h0, ?_, h02, fun v q1 q2 => ?_⟩, ⟨?_, ?_, by rw [m1]; exact a3, by rw [m2]; exact a4⟩, ⟨by rw [m1]; exact b1, by rw [m2]; exact b2⟩, ⟨fun i v q => ?_, fun i v q => ?_⟩, ⟨?_, by rw [cO_s, if_neg hO]; exact d2⟩, fun v hv q3 q4 => ?_⟩
  · rw [gI_pI, if_neg (by omega), gI_pI, if_neg (by omega)]; exact h01
  · rw [gI_pI, if_neg (by omega), gI_pI, if_neg (by omega)]; exact h03 v q1 q2
  · rw [n1, gI_pI, if_neg (by omega), gI_pI, if_neg (by omega)]; exact a1
  · rw [n2, gI_pI, if_pos ⟨rfl, rfl, rfl⟩, List.length_append, List.length_singleton]
  · rw [n1] at q; rw [gI_pI, if_neg (by omega), gI_pI, if_neg (by omega)]; exact c1 i v q
  · rw [n2] at q
    rw [gI_pI, if_neg (by omega)]
    rcases app_some q with ⟨q1, q2⟩ | ⟨q1, q2⟩
    · rw [gI_pI, if_neg (by omega)]; exact c2 i v q2
    · subst q1; subst q2; rw [gI_pI, if_pos ⟨rfl, rfl, rfl⟩]
  · rw [cO_s, if_neg hO, gI_pI, if_neg (by omega), gI_pI, if_neg (by omega)]; exact d1
  · have : v ≠ u + 2 := fun q => by subst q; omega
    rw [gI_pI, if_neg (by omega), gI_pI, if_neg (by omega)]; exact e v (by omega) q3 q4
end CNAMES
