-- THE PURE PART: the reference's check of the names: its state, what changes it
/-- the orders' kinds and names that were looked up before token j -/
def OR2 (T : List Nat) (tk st ln : Nat → Nat) (p j : Nat) (w : Mm) : Prop := ∀ b, b < j → isO (tk b) → gI w 47 p (cO tk b) = mk (tk b) ∧ (b + 1 < j → tk (b + 1) = 3 → gI w (if tk b = 14 then 49 else 48) p (cO tk b) = nI (mB T tk st ln (b + 1))) ∧ (b + 3 < j → tk b ≠ 14 → tk (b + 2) = 13 → tk (b + 3) = 3 → gI w 49 p (cO tk b) = nI (mB T tk st ln (b + 3)))
def RI (T : List Nat) (tk st ln : Nat → Nat) (N p j : Nat) (w : Mm) : Prop :=
  (RT T tk st ln N w ∧ (∀ u, u < N → gI w 34 0 u = mk (tk u)) ∧ MFx p w) ∧
  (gI w 44 p 0 = nI (cN tk 1 j).length ∧ gI w 44 p 1 = nI (cN tk 2 j).length ∧ (cN tk 1 j).length ≤ 8 ∧ (cN tk 2 j).length ≤ 8) ∧
  ((∀ i u, (cN tk 1 j)[i]? = some u → gI w 45 p i = nva T st ln (u + 2)) ∧ (∀ i u, (cN tk 2 j)[i]? = some u → gI w 46 p i = nva T st ln (u + 2))) ∧
  (gI w 44 p 4 = nI (cO tk j) ∧ cO tk j ≤ 16) ∧
  OR2 T tk st ln p j w ∧
  (∀ u, u < j → tk u = 3 → 4 ≤ rol tk u → gI w 38 0 u = nI (mB T tk st ln u))
/-- what the reference's check leaves alone -/
def FN (p : Nat) (w w' : Mm) : Prop := (∀ c k i, ¬ (c = 32 ∧ k = 0 ∧ i = 9) → ¬ (c = 38 ∧ k = 0) → ¬ (c = 44 ∧ k = p ∧ (i = 0 ∨ i = 1 ∨ i = 4)) → ¬ (45 ≤ c ∧ c ≤ 49 ∧ k = p) → gI w' c k i = gI w c k i) ∧ w'.2 = w.2
theorem fn_rf {p : Nat} {w : Mm} : FN p w w := ⟨fun _ _ _ _ _ _ _ => rfl, rfl⟩
theorem fn_tr {p : Nat} {w w1 w2 : Mm} (h : FN p w w1) (g : FN p w1 w2) : FN p w w2 := ⟨fun c k i q1 q2 q3 q4 => (g.1 c k i q1 q2 q3 q4).trans (h.1 c k i q1 q2 q3 q4), g.2.trans h.2⟩
theorem fn_p {p c k i : Nat} {v : Int32} {w w1 : Mm} (h : FN p w w1) (hc : (c = 32 ∧ k = 0 ∧ i = 9) ∨ (c = 38 ∧ k = 0) ∨ (c = 44 ∧ k = p ∧ (i = 0 ∨ i = 1 ∨ i = 4)) ∨ (45 ≤ c ∧ c ≤ 49 ∧ k = p)) : FN p w (pI w1 c k i v) := ⟨fun c' k' i' q1 q2 q3 q4 => by rw [gI_pI, if_neg (by omega)]; exact h.1 c' k' i' q1 q2 q3 q4, h.2⟩
section RNAMES
variable {T : List Nat} {tk st ln : Nat → Nat} {N p : Nat}
theorem rt_fn {w w' : Mm} (h : RT T tk st ln N w) (u : FN p w w') : RT T tk st ln N w' := by
  obtain ⟨h1, h2, h3⟩ := h
  refine ⟨tm_cg h1 (u.1 _ _ _ (by omega) (by omega) (by omega) (by omega)) fun j => u.1 _ _ _ (by omega) (by omega) (by omega) (by omega), fun v hv hk => ?_, fun v hv => ?_⟩
  · rw [u.1 35 0 _ (by omega) (by omega) (by omega) (by omega), u.1 36 0 _ (by omega) (by omega) (by omega) (by omega)]; exact h2 v hv hk
  · rw [u.1 37 0 _ (by omega) (by omega) (by omega) (by omega)]; exact h3 v hv
theorem ra_fn {w w' : Mm} (h : RT T tk st ln N w ∧ (∀ u, u < N → gI w 34 0 u = mk (tk u)) ∧ MFx p w) (u : FN p w w') : RT T tk st ln N w' ∧ (∀ u, u < N → gI w' 34 0 u = mk (tk u)) ∧ MFx p w' :=
  ⟨rt_fn h.1 u, fun v hv => by rw [u.1 34 0 _ (by omega) (by omega) (by omega) (by omega)]; exact h.2.1 v hv, mfx_2 u.2 h.2.2⟩
theorem cO_lt {b : Nat} (hb : isO (tk b)) : ∀ d, cO tk b < cO tk (b + 1 + d)
  | 0 => by rw [Nat.add_zero, cO_s, if_pos hb]; omega
  | d + 1 => by
    have := cO_lt hb d
    show _ < cO tk ((b + 1 + d) + 1)
    rw [cO_s]
    split <;> omega
theorem cO_ne {a b : Nat} (ha : isO (tk a)) (hb : isO (tk b)) (h : a ≠ b) : cO tk a ≠ cO tk b := by
  by_cases q : a < b
  · obtain ⟨d, rfl⟩ : ∃ d, b = a + 1 + d := ⟨b - (a + 1), by omega⟩
    have := cO_lt ha d
    omega
  · obtain ⟨d, rfl⟩ : ∃ d, a = b + 1 + d := ⟨a - (b + 1), by omega⟩
    have := cO_lt hb d
    omega
theorem rol_cO {b : Nat} (hb : isO (tk b)) : tk b ≠ 3 := by unfold isO at hb; omega
/-- an old name's role by the order before it -/
theorem rol_o1 {b : Nat} (hb : isO (tk b)) (h3 : tk (b + 1) = 3) : rol tk (b + 1) = if tk b = 14 then 5 else 4 := by
  have h := rolN h3 (by omega)
  rw [Nat.add_sub_cancel] at h
  unfold isO at hb
  rw [if_neg (by omega), if_neg (by omega)] at h
  by_cases q : tk b = 14
  · rw [if_neg (by omega), if_pos (by omega)] at h; rw [if_pos q, h]
  · rw [if_pos (by omega)] at h; rw [if_neg q, h]
theorem rol_o3 {b : Nat} (h13 : tk (b + 2) = 13) (h3 : tk (b + 3) = 3) : rol tk (b + 3) = 5 := by
  have h := rolN h3 (by omega)
  rw [show b + 3 - 1 = b + 2 by omega] at h
  rw [if_neg (by omega), if_neg (by omega), if_neg (by omega), if_pos (by omega)] at h
  exact h
/-- the orders' records behind a token that is no order and no name of an order -/
theorem or2_s {j : Nat} {w : Mm} (h : OR2 T tk st ln p j w) (hO : ¬ isO (tk j)) (h4 : rol tk j ≠ 4) (h5 : rol tk j ≠ 5) : OR2 T tk st ln p (j + 1) w := fun b hb hob => by
  have hbj : b < j := by
    by_cases q : b = j
    · subst q; exact (hO hob).elim
    · omega
  obtain ⟨k1, k2, k3⟩ := h b hbj hob
  refine ⟨k1, fun q1 q3 => ?_, fun q1 q14 q2 q3 => ?_⟩
  · by_cases q : b + 1 = j
    · subst q
      have := rol_o1 hob q3
      split at this
      · exact (h5 this).elim
      · exact (h4 this).elim
    · exact k2 (by omega) q3
  · by_cases q : b + 3 = j
    · subst q
      exact (h5 (rol_o3 q2 q3)).elim
    · exact k3 (by omega) q14 q2 q3
theorem or2_cg {j : Nat} {w w' : Mm} (h : OR2 T tk st ln p j w) (u : ∀ c i, 47 ≤ c → c ≤ 49 → gI w' c p i = gI w c p i) : OR2 T tk st ln p j w' := fun b hb hob => by
  obtain ⟨k1, k2, k3⟩ := h b hb hob
  refine ⟨by rw [u 47 _ (by omega) (by omega)]; exact k1, fun q1 q3 => ?_, fun q1 q14 q2 q3 => ?_⟩
  · rw [u _ _ (by split <;> omega) (by split <;> omega)]; exact k2 q1 q3
  · rw [u 49 _ (by omega) (by omega)]; exact k3 q1 q14 q2 q3
/-- a token that changes nothing -/
theorem ri_same {j : Nat} {w : Mm} (h : RI T tk st ln N p j w) (hr : rol tk j = 0 ∨ rol tk j = 9) (hO : ¬ isO (tk j)) (h34 : tk j = 3 → rol tk j = 0) : RI T tk st ln N p (j + 1) w := by
  obtain ⟨h0, ⟨a1, a2, a3, a4⟩, ⟨b1, b2⟩, ⟨d1, d2⟩, e, g⟩ := h
  have m1 : cN tk 1 (j + 1) = cN tk 1 j := cN_n (by omega)
  have m2 : cN tk 2 (j + 1) = cN tk 2 j := cN_n (by omega)
  refine ⟨h0, ⟨by rw [m1]; exact a1, by rw [m2]; exact a2, by rw [m1]; exact a3, by rw [m2]; exact a4⟩, ⟨by rw [m1]; exact b1, by rw [m2]; exact b2⟩, ⟨by rw [cO_s, if_neg hO]; exact d1, by rw [cO_s, if_neg hO]; exact d2⟩, or2_s e hO (by omega) (by omega), fun u hu q3 q4 => ?_⟩
  by_cases q : u = j
  · subst q; have := h34 q3; omega
  · exact g u (by omega) q3 q4
/-- a move of the reading place changes no state -/
theorem ri_9 {j : Nat} {v : Int32} {w : Mm} (h : RI T tk st ln N p j w) : RI T tk st ln N p j (pI w 32 0 9 v) := by
  obtain ⟨h0, ⟨a1, a2, a3, a4⟩, ⟨b1, b2⟩, ⟨d1, d2⟩, e, g⟩ := h
  have u : ∀ c k i, c ≠ 32 → gI (pI w 32 0 9 v) c k i = gI w c k i := fun c k i q => by rw [gI_pI, if_neg (by omega)]
  exact ⟨ra_fn h0 (fn_p fn_rf (by omega)), ⟨by rw [u _ _ _ (by omega)]; exact a1, by rw [u _ _ _ (by omega)]; exact a2, a3, a4⟩, ⟨fun i x q => by rw [u _ _ _ (by omega)]; exact b1 i x q, fun i x q => by rw [u _ _ _ (by omega)]; exact b2 i x q⟩, ⟨by rw [u _ _ _ (by omega)]; exact d1, d2⟩, or2_cg e (fun c i q1 q2 => u c p i (by omega)), fun x q1 q2 q3 => by rw [u _ _ _ (by omega)]; exact g x q1 q2 q3⟩
/-- an order -/
theorem ri_ord {j : Nat} {w : Mm} (h : RI T tk st ln N p j w) (hO : isO (tk j)) (hc : cO tk j ≠ 16) : RI T tk st ln N p (j + 1) (pI (pI w 47 p (cO tk j) (mk (tk j))) 44 p 4 (nI (cO tk j + 1))) := by
  have hr := rolO hO
  obtain ⟨h0, ⟨a1, a2, a3, a4⟩, ⟨b1, b2⟩, ⟨d1, d2⟩, e, g⟩ := h
  have m1 : cN tk 1 (j + 1) = cN tk 1 j := cN_n (by omega)
  have m2 : cN tk 2 (j + 1) = cN tk 2 j := cN_n (by omega)
  refine ⟨ra_fn h0 (fn_p (fn_p fn_rf (by omega)) (by omega)), ⟨?_, ?_, by rw [m1]; exact a3, by rw [m2]; exact a4⟩, ⟨fun i u q => ?_, fun i u q => ?_⟩, ⟨?_, by rw [cO_s, if_pos hO]; omega⟩, fun b hb hob => ?_, fun u hu q3 q4 => ?_⟩
  · rw [m1, gI_pI, if_neg (by omega), gI_pI, if_neg (by omega)]; exact a1
  · rw [m2, gI_pI, if_neg (by omega), gI_pI, if_neg (by omega)]; exact a2
  · rw [m1] at q; rw [gI_pI, if_neg (by omega), gI_pI, if_neg (by omega)]; exact b1 i u q
  · rw [m2] at q; rw [gI_pI, if_neg (by omega), gI_pI, if_neg (by omega)]; exact b2 i u q
  · rw [cO_s, if_pos hO, gI_pI, if_pos ⟨rfl, rfl, rfl⟩]
  · by_cases q : b = j
    · subst q
      refine ⟨?_, fun q1 => by omega, fun q1 => by omega⟩
      rw [gI_pI, if_neg (by omega), gI_pI, if_pos ⟨rfl, rfl, rfl⟩]
    · obtain ⟨k1, k2, k3⟩ := e b (by omega) hob
      refine ⟨?_, fun q1 q3 => ?_, fun q1 q14 q2 q3 => ?_⟩
      · have := cO_ne hob hO q
        rw [gI_pI, if_neg (by omega), gI_pI, if_neg (by omega)]; exact k1
      · by_cases qj : b + 1 = j
        · subst qj; exact absurd q3 (rol_cO hO)
        · rw [gI_pI, if_neg (by split <;> omega), gI_pI, if_neg (by split <;> omega)]; exact k2 (by omega) q3
      · by_cases qj : b + 3 = j
        · subst qj; exact absurd q3 (rol_cO hO)
        · rw [gI_pI, if_neg (by omega), gI_pI, if_neg (by omega)]; exact k3 (by omega) q14 q2 q3
  · have : u ≠ j := fun q => by subst q; exact absurd q3 (rol_cO hO)
    rw [gI_pI, if_neg (by omega), gI_pI, if_neg (by omega)]; exact g u (by omega) q3 q4
/-- a new hedge, a new rose -/
theorem ri_newH {j : Nat} {w : Mm} (h : RI T tk st ln N p j w) (h3 : tk j = 3) (hr : rol tk j = 1) (hl : (cN tk 1 j).length < 8) : RI T tk st ln N p (j + 1) (pI (pI w 45 p (cN tk 1 j).length (nva T st ln (j + 2))) 44 p 0 (nI ((cN tk 1 j).length + 1))) := by
  obtain ⟨h0, ⟨a1, a2, a3, a4⟩, ⟨b1, b2⟩, ⟨d1, d2⟩, e, g⟩ := h
  have hO : ¬ isO (tk j) := by unfold isO; omega
  have m1 : cN tk 1 (j + 1) = cN tk 1 j ++ [j] := cN_y hr
  have m2 : cN tk 2 (j + 1) = cN tk 2 j := cN_n (by omega)
  refine ⟨ra_fn h0 (fn_p (fn_p fn_rf (by omega)) (by omega)), ⟨?_, ?_, by rw [m1, List.length_append, List.length_singleton]; omega, by rw [m2]; exact a4⟩, ⟨fun i u q => ?_, fun i u q => ?_⟩, ⟨?_, by rw [cO_s, if_neg hO]; exact d2⟩, or2_cg (or2_s e hO (by omega) (by omega)) fun c i q1 q2 => by rw [gI_pI, if_neg (by omega), gI_pI, if_neg (by omega)], fun u hu q3 q4 => ?_⟩
  · rw [m1, gI_pI, if_pos ⟨rfl, rfl, rfl⟩, List.length_append, List.length_singleton]
  · rw [m2, gI_pI, if_neg (by omega), gI_pI, if_neg (by omega)]; exact a2
  · rw [m1] at q
    rw [gI_pI, if_neg (by omega)]
    rcases app_some q with ⟨q1, q2⟩ | ⟨q1, q2⟩
    · rw [gI_pI, if_neg (by omega)]; exact b1 i u q2
    · subst q1; subst q2; rw [gI_pI, if_pos ⟨rfl, rfl, rfl⟩]
  · rw [m2] at q; rw [gI_pI, if_neg (by omega), gI_pI, if_neg (by omega)]; exact b2 i u q
  · rw [cO_s, if_neg hO, gI_pI, if_neg (by omega), gI_pI, if_neg (by omega)]; exact d1
  · have : u ≠ j := fun q => by subst q; omega
    rw [gI_pI, if_neg (by omega), gI_pI, if_neg (by omega)]; exact g u (by omega) q3 q4
theorem ri_newR {j : Nat} {w : Mm} (h : RI T tk st ln N p j w) (h3 : tk j = 3) (hr : rol tk j = 2) (hl : (cN tk 2 j).length < 8) : RI T tk st ln N p (j + 1) (pI (pI w 46 p (cN tk 2 j).length (nva T st ln (j + 2))) 44 p 1 (nI ((cN tk 2 j).length + 1))) := by
  obtain ⟨h0, ⟨a1, a2, a3, a4⟩, ⟨b1, b2⟩, ⟨d1, d2⟩, e, g⟩ := h
  have hO : ¬ isO (tk j) := by unfold isO; omega
  have m1 : cN tk 1 (j + 1) = cN tk 1 j := cN_n (by omega)
  have m2 : cN tk 2 (j + 1) = cN tk 2 j ++ [j] := cN_y hr
  refine ⟨ra_fn h0 (fn_p (fn_p fn_rf (by omega)) (by omega)), ⟨?_, ?_, by rw [m1]; exact a3, by rw [m2, List.length_append, List.length_singleton]; omega⟩, ⟨fun i u q => ?_, fun i u q => ?_⟩, ⟨?_, by rw [cO_s, if_neg hO]; exact d2⟩, or2_cg (or2_s e hO (by omega) (by omega)) fun c i q1 q2 => by rw [gI_pI, if_neg (by omega), gI_pI, if_neg (by omega)], fun u hu q3 q4 => ?_⟩
  · rw [m1, gI_pI, if_neg (by omega), gI_pI, if_neg (by omega)]; exact a1
  · rw [m2, gI_pI, if_pos ⟨rfl, rfl, rfl⟩, List.length_append, List.length_singleton]
  · rw [m1] at q; rw [gI_pI, if_neg (by omega), gI_pI, if_neg (by omega)]; exact b1 i u q
  · rw [m2] at q
    rw [gI_pI, if_neg (by omega)]
    rcases app_some q with ⟨q1, q2⟩ | ⟨q1, q2⟩
    · rw [gI_pI, if_neg (by omega)]; exact b2 i u q2
    · subst q1; subst q2; rw [gI_pI, if_pos ⟨rfl, rfl, rfl⟩]
  · rw [cO_s, if_neg hO, gI_pI, if_neg (by omega), gI_pI, if_neg (by omega)]; exact d1
  · have : u ≠ j := fun q => by subst q; omega
    rw [gI_pI, if_neg (by omega), gI_pI, if_neg (by omega)]; exact g u (by omega) q3 q4
/-- an old name outside the orders' heads -/
theorem ri_look {j : Nat} {w : Mm} (h : RI T tk st ln N p j w) (h3 : tk j = 3) (hr : 6 ≤ rol tk j ∧ rol tk j ≤ 8) : RI T tk st ln N p (j + 1) (pI w 38 0 j (nI (mB T tk st ln j))) := by
  obtain ⟨h0, ⟨a1, a2, a3, a4⟩, ⟨b1, b2⟩, ⟨d1, d2⟩, e, g⟩ := h
  have hO : ¬ isO (tk j) := by unfold isO; omega
  have m1 : cN tk 1 (j + 1) = cN tk 1 j := cN_n (by omega)
  have m2 : cN tk 2 (j + 1) = cN tk 2 j := cN_n (by omega)
  have u : ∀ c k i, c ≠ 38 → gI (pI w 38 0 j (nI (mB T tk st ln j))) c k i = gI w c k i := fun c k i q => by rw [gI_pI, if_neg (by omega)]
  refine ⟨ra_fn h0 (fn_p fn_rf (by omega)), ⟨by rw [m1, u _ _ _ (by omega)]; exact a1, by rw [m2, u _ _ _ (by omega)]; exact a2, by rw [m1]; exact a3, by rw [m2]; exact a4⟩, ⟨fun i x q => by rw [m1] at q; rw [u _ _ _ (by omega)]; exact b1 i x q, fun i x q => by rw [m2] at q; rw [u _ _ _ (by omega)]; exact b2 i x q⟩, ⟨by rw [cO_s, if_neg hO, u _ _ _ (by omega)]; exact d1, by rw [cO_s, if_neg hO]; exact d2⟩, or2_cg (or2_s e hO (by omega) (by omega)) fun c i q1 q2 => u c p i (by omega), fun x hx q3 q4 => ?_⟩
  by_cases q : x = j
  · subst q; rw [gI_pI, if_pos ⟨rfl, rfl, rfl⟩]
  · rw [gI_pI, if_neg (by omega)]; exact g x (by omega) q3 q4
/-- an old name in an order's head: b is the order, c the cell -/
theorem ri_of {j b c : Nat} {w : Mm} (h : RI T tk st ln N p j w) (h3 : tk j = 3) (hob : isO (tk b)) (hc : (j = b + 1 ∧ c = (if tk b = 14 then 49 else 48)) ∨ (j = b + 3 ∧ tk b ≠ 14 ∧ tk (b + 2) = 13 ∧ c = 49)) (hr : 4 ≤ rol tk j ∧ rol tk j ≤ 5) : RI T tk st ln N p (j + 1) (pI (pI w 38 0 j (nI (mB T tk st ln j))) c p (cO tk b) (nI (mB T tk st ln j))) := by
  obtain ⟨h0, ⟨a1, a2, a3, a4⟩, ⟨b1, b2⟩, ⟨d1, d2⟩, e, g⟩ := h
  have hO : ¬ isO (tk j) := by unfold isO; omega
  have m1 : cN tk 1 (j + 1) = cN tk 1 j := cN_n (by omega)
  have m2 : cN tk 2 (j + 1) = cN tk 2 j := cN_n (by omega)
  have hcc : c = 48 ∨ c = 49 := by
    rcases hc with ⟨_, hc⟩ | ⟨_, _, _, hc⟩
    · split at hc <;> omega
    · omega
  refine ⟨ra_fn h0 (fn_p (fn_p fn_rf (by omega)) (by omega)), ⟨?_, ?_, by rw [m1]; exact a3, by rw [m2]; exact a4⟩, ⟨fun i x q => ?_, fun i x q => ?_⟩, ⟨?_, by rw [cO_s, if_neg hO]; exact d2⟩, fun x hx hox => ?_, fun x hx q3 q4 => ?_⟩
  · rw [m1, gI_pI, if_neg (by omega), gI_pI, if_neg (by omega)]; exact a1
  · rw [m2, gI_pI, if_neg (by omega), gI_pI, if_neg (by omega)]; exact a2
  · rw [m1] at q; rw [gI_pI, if_neg (by omega), gI_pI, if_neg (by omega)]; exact b1 i x q
  · rw [m2] at q; rw [gI_pI, if_neg (by omega), gI_pI, if_neg (by omega)]; exact b2 i x q
  · rw [cO_s, if_neg hO, gI_pI, if_neg (by omega), gI_pI, if_neg (by omega)]; exact d1
  · have hxj : x < j := by
      by_cases q : x = j
      · subst q; exact (hO hox).elim
      · omega
    obtain ⟨k1, k2, k3⟩ := e x hxj hox
    by_cases qx : x = b
    · subst qx
      refine ⟨by rw [gI_pI, if_neg (by omega), gI_pI, if_neg (by omega)]; exact k1, fun q1 q3 => ?_, fun q1 q14 q2 q3 => ?_⟩
      · rcases hc with ⟨rfl, hc⟩ | ⟨rfl, n14, _, hc⟩
        · rw [gI_pI, if_pos ⟨hc.symm, rfl, rfl⟩]
        · rw [if_neg n14] at k2 ⊢
          rw [gI_pI, if_neg (by omega), gI_pI, if_neg (by omega)]; exact k2 (by omega) q3
      · rcases hc with ⟨rfl, hc⟩ | ⟨rfl, n14, _, hc⟩
        · omega
        · rw [gI_pI, if_pos ⟨hc.symm, rfl, rfl⟩]
    · have hne := cO_ne hox hob qx
      refine ⟨by rw [gI_pI, if_neg (by omega), gI_pI, if_neg (by omega)]; exact k1, fun q1 q3 => ?_, fun q1 q14 q2 q3 => ?_⟩
      · by_cases qj : x + 1 = j
        · rcases hc with ⟨hj, hc⟩ | ⟨hj, n14, t13, hc⟩
          · omega
          · have : x = b + 2 := by omega
            subst this; unfold isO at hox; omega
        · rw [gI_pI, if_neg (by omega), gI_pI, if_neg (by split <;> omega)]; exact k2 (by omega) q3
      · by_cases qj : x + 3 = j
        · rcases hc with ⟨hj, hc⟩ | ⟨hj, n14, t13, hc⟩
          · have : b = x + 2 := by omega
            subst this; unfold isO at hob; omega
          · omega
        · rw [gI_pI, if_neg (by omega), gI_pI, if_neg (by omega)]; exact k3 (by omega) q14 q2 q3
  · rw [gI_pI, if_neg (by omega)]
    by_cases q : x = j
    · subst q; rw [gI_pI, if_pos ⟨rfl, rfl, rfl⟩]
    · rw [gI_pI, if_neg (by omega)]; exact g x (by omega) q3 q4
end RNAMES
