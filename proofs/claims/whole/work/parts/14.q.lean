-- THE PURE PART: the class looks names up
/-- the facts of the tokens -/
def TKF (T : List Nat) (tk st ln : Nat → Nat) (N : Nat) : Prop := 1 ≤ N ∧ N ≤ 401 ∧ T.length ≤ 2000 ∧ (∀ j, j < N → KK (tk j) ∧ tkR T (tk j) (st j) (ln j)) ∧ (∀ j, j + 1 ≤ N → (tk j = 1 ∨ tk j = 2) ∨ j + 2 ≤ N)
/-- what a check leaves alone -/
def FK (z : Nat) (w w' : Mm) : Prop := (∀ c k i, ¬ (c = 9 ∧ k = 0 ∧ (i = 1 ∨ i = 2)) → ¬ (c = 25 ∧ k = z ∧ (i = 2 ∨ i = 3)) → ¬ ((c = 26 ∨ c = 27) ∧ k = z) → ¬ (c = 8 ∧ k = 0) → gI w' c k i = gI w c k i) ∧ (∀ c k i, ¬ (c = 10 ∧ k = 0) → gL w' c k i = gL w c k i) ∧ w'.2.2 = w.2.2
theorem fk_rf {z : Nat} {w : Mm} : FK z w w := ⟨fun _ _ _ _ _ _ _ => rfl, fun _ _ _ _ => rfl, rfl⟩
theorem fk_tr {z : Nat} {w w1 w2 : Mm} (h : FK z w w1) (g : FK z w1 w2) : FK z w w2 := ⟨fun c k i q1 q2 q3 q4 => (g.1 c k i q1 q2 q3 q4).trans (h.1 c k i q1 q2 q3 q4), fun c k i q => (g.2.1 c k i q).trans (h.2.1 c k i q), g.2.2.trans h.2.2⟩
theorem gR_22 {w w' : Mm} (h : w'.2.2 = w.2.2) : gR w' = gR w := by unfold gR; rw [h]
def kyN (T : List Nat) (st ln : Nat → Nat) (j : Nat) : Int64 := lN (kF 0 (nm T st ln j))
/-- the class's check stands before token j -/
def CI (T : List Nat) (tk st ln : Nat → Nat) (N z j : Nat) (w : Mm) : Prop :=
  ((∀ u, u < N → gR w 5 0 u = tk u) ∧ gI w 4 0 4 = nI (N - 1) ∧ (∀ u, u < N → tk u = 3 → gL w 7 0 u = kyN T st ln u) ∧ (∀ u, u < N → tk u = 4 → gI w 8 0 u = nva T st ln u)) ∧
  (gI w 25 z 2 = nI (cN tk 1 (j - 2)).length ∧ gI w 25 z 3 = nI (cN tk 2 (j - 2)).length ∧ (cN tk 1 j).length ≤ 8 ∧ (cN tk 2 j).length ≤ 8) ∧
  ((∀ i u, (cN tk 1 j)[i]? = some u → gL w 10 0 i = kyN T st ln u) ∧ (∀ i u, (cN tk 2 j)[i]? = some u → gL w 10 0 (8 + i) = kyN T st ln u)) ∧
  ((∀ i u, (cN tk 1 (j - 2))[i]? = some u → gI w 26 z i = nva T st ln (u + 2)) ∧ (∀ i u, (cN tk 2 (j - 2))[i]? = some u → gI w 27 z i = nva T st ln (u + 2))) ∧
  (gI w 9 0 1 = nI (cO tk j) ∧ cO tk j ≤ 16) ∧
  (∀ u, u < j → tk u = 3 → 4 ≤ rol tk u → gI w 8 0 u = nI (mA T tk st ln u))
section CNAMES
variable {T : List Nat} {tk st ln : Nat → Nat} {N z : Nat}
theorem nm_wd (hT : TKF T tk st ln N) {j : Nat} (hj : j < N) (h3 : tk j = 3) : (∀ c ∈ nm T st ln j, isWd c = true) ∧ (nm T st ln j).length ≤ 10 ∧ (nm T st ln j).length = ln j ∧ st j + ln j ≤ T.length := by
  obtain ⟨_, _, _, h, _⟩ := hT
  obtain ⟨_, _, _, _, g4, g5, _⟩ := h j hj
  obtain ⟨k1, k2, k3, k4⟩ := g5 h3
  exact ⟨k4, by unfold nm; omega, k3, g4 (by omega) (by omega)⟩
theorem ky_eq (hT : TKF T tk st ln N) {i j : Nat} (hi : i < N) (h3i : tk i = 3) (hj : j < N) (h3 : tk j = 3) : kyN T st ln i = kyN T st ln j ↔ nm T st ln i = nm T st ln j := by
  obtain ⟨a1, a2, _⟩ := nm_wd hT hi h3i
  obtain ⟨b1, b2, _⟩ := nm_wd hT hj h3
  have l1 := kF_lt a1 a2
  have l2 := kF_lt b1 b2
  unfold kyN
  rw [lN_inj (by omega) (by omega)]
  exact ⟨kF_inj a1 b1, fun e => by rw [e]⟩
theorem c_has {a : Nat} {w : Mm} (h4 : gI w 4 0 4 = nI (N - 1)) (hN : N ≤ 401) (ha : a < N) : f_X11_has (nI a) w = some (1, w) := by
  unfold f_X11_has
  rw [h4]
  exact brF (nI_pos (by omega)) (brF (by (simp (disch := omega) only [lit_nI, nI_leI, nI_ltI, nI_eq, nI_clamp, nI_add, nI_sub, vB_nI, Nat.add_sub_cancel, Nat.reduceSub, Nat.reduceLT, Nat.reduceLeDiff, Nat.reduceAdd, gI_pI, p2_pI, Nat.reduceEqDiff, false_and, and_false, true_and, and_true, if_false, if_true, and_self] <;> omega)) (brF (by (simp (disch := omega) only [lit_nI, nI_leI, nI_ltI, nI_eq, nI_clamp, nI_add, nI_sub, vB_nI, Nat.add_sub_cancel, Nat.reduceSub, Nat.reduceLT, Nat.reduceLeDiff, Nat.reduceAdd, gI_pI, p2_pI, Nat.reduceEqDiff, false_and, and_false, true_and, and_true, if_false, if_true, and_self] <;> omega)) rfl))
theorem c_kind {a : Nat} {w : Mm} (h4 : gI w 4 0 4 = nI (N - 1)) (h5 : ∀ u, u < N → gR w 5 0 u = tk u) (hN : N ≤ 401) (ha : a < N) : f_X11_kind (nI a) w = some (tk a, w) := by
  unfold f_X11_kind
  refine bd1T (c_has h4 hN ha) (brF (by decide) (gdT ((vB_nI (by omega)).mpr (by omega)) ?_))
  rw [nI_clamp (by omega), h5 a ha]
/-- the kind of the token before -/
def pk (tk : Nat → Nat) (j : Nat) : Nat := if j = 0 then 1 else tk (j - 1)
theorem c_kindP {a : Nat} {w : Mm} (h4 : gI w 4 0 4 = nI (N - 1)) (h5 : ∀ u, u < N → gR w 5 0 u = tk u) (hN : N ≤ 401) (ha : a < N) : f_X11_kind (nI a - 1) w = some (pk tk a, w) := by
  unfold pk
  by_cases q : a = 0
  · subst q
    rw [if_pos rfl]
    unfold f_X11_kind
    refine bd1T (x := 0) (w := w) ?_ (brT rfl rfl)
    unfold f_X11_has
    exact brT (by decide) rfl
  · rw [if_neg q, nI_pr (by omega)]
    exact c_kind h4 h5 hN (by omega)
theorem c_keyA {a : Nat} {w : Mm} (h4 : gI w 4 0 4 = nI (N - 1)) (hN : N ≤ 401) (ha : a < N) : f_X11_key (nI a) w = some (gL w 7 0 a, w) := by
  unfold f_X11_key
  refine bd1T (c_has h4 hN ha) (brF (by decide) (gdT ((vB_nI (by omega)).mpr (by omega)) ?_))
  rw [nI_clamp (by omega)]
theorem c_meaning {a : Nat} {w : Mm} (h4 : gI w 4 0 4 = nI (N - 1)) (hN : N ≤ 401) (ha : a < N) : f_X11_meaning (nI a) w = some (gI w 8 0 a, w) := by
  unfold f_X11_meaning
  refine bd1T (c_has h4 hN ha) (brF (by decide) (gdT ((vB_nI (by omega)).mpr (by omega)) ?_))
  rw [nI_clamp (by omega)]
theorem c_mean {a : Nat} {v : Int32} {w : Mm} (h4 : gI w 4 0 4 = nI (N - 1)) (hN : N ≤ 401) (ha : a < N) : f_X11_mean (nI a) v w = some (pI w 8 0 a v) := by
  unfold f_X11_mean
  refine bd1T (c_has h4 hN ha) (brF (by decide) (gdT ((vB_nI (by omega)).mpr (by omega)) ?_))
  rw [nI_clamp (by omega)]
  rfl
theorem c_lR {K : Int64} {c2 : Nat} {w : Mm} (h3 : gI w 25 z 3 = nI c2) (hc : c2 ≤ 8) : ∀ (d u n : Nat), u + d = 8 → d < n → f_X5_listenerNamed_L3 K z n (nI (8 + u)) w = some (match fnd (fun i => decide (gL w 10 0 (8 + i) = K)) (c2 - u) u with | some i => (0, nI (8 + i), w) | none => (1, nI 16, w))
  | 0, u, n + 1, e, hn => by
    have e : u = 8 := by omega
    subst e
    rw [f_X5_listenerNamed_L3, show c2 - 8 = 0 by omega]
    exact brT (by decide) rfl
  | d + 1, u, n + 1, e, hn => by
    have ih := c_lR (K := K) h3 hc d (u + 1) n (by omega) (by omega)
    rw [f_X5_listenerNamed_L3]
    refine brF (by rw [show (16 : Int32) = nI 16 from rfl, nI_leI (by omega) (by omega)]; omega) (brT (by rw [show (8 : Int32) = nI 8 from rfl, nI_leI (by omega) (by omega)]; omega) ?_)
    rw [h3, show (8 : Int32) = nI 8 from rfl, nI_sub (by omega), show 8 + u - 8 = u by omega]
    by_cases q : c2 ≤ u
    · refine brT (by rw [nI_leI (by omega) (by omega)]; exact q) (brT rfl (sqT ?_))
      rw [nI_1, show 8 + u + 1 = 8 + (u + 1) by omega, ih, show c2 - (u + 1) = 0 by omega, show c2 - u = 0 by omega]
      rfl
    · refine brF (by rw [nI_leI (by omega) (by omega)]; exact q) (brF (by decide) (gdT ((vB_nI (by omega)).mpr (by omega)) ?_))
      rw [nI_clamp (by omega)]
      obtain ⟨m, hm⟩ : ∃ m, c2 - u = m + 1 := ⟨c2 - u - 1, by omega⟩
      rw [hm, fnd]
      by_cases r : gL w 10 0 (8 + u) = K
      · refine brT (by rw [lg_cmp_0]; exact r) ?_
        simp [r]
      · refine brF (by rw [lg_cmp_0]; exact r) (sqT ?_)
        rw [nI_1, show 8 + u + 1 = 8 + (u + 1) by omega, ih, show c2 - (u + 1) = m by omega]
        simp [r]
theorem c_lH {K : Int64} {c1 c2 : Nat} {w : Mm} (h2 : gI w 25 z 2 = nI c1) (h3 : gI w 25 z 3 = nI c2) (hc1 : c1 ≤ 8) (hc : c2 ≤ 8) : ∀ (d u n : Nat), u + d = 8 → d + 9 ≤ n → f_X5_listenerNamed_L3 K z n (nI u) w = some (match fnd (fun i => decide (gL w 10 0 i = K)) (c1 - u) u with | some i => (0, nI i, w) | none => (match fnd (fun i => decide (gL w 10 0 (8 + i) = K)) c2 0 with | some i => (0, nI (8 + i), w) | none => (1, nI 16, w)))
  | 0, u, n, e, hn => by
    have e : u = 8 := by omega
    subst e
    have := c_lR (K := K) h3 hc 8 0 n (by omega) (by omega)
    rw [show nI 8 = nI (8 + 0) from rfl, this, show c1 - 8 = 0 by omega, Nat.sub_zero]
    rfl
  | d + 1, u, n + 1, e, hn => by
    have ih := c_lH (K := K) h2 h3 hc1 hc d (u + 1) n (by omega) (by omega)
    rw [f_X5_listenerNamed_L3]
    refine brF (by rw [show (16 : Int32) = nI 16 from rfl, nI_leI (by omega) (by omega)]; omega) (brF (by rw [show (8 : Int32) = nI 8 from rfl, nI_leI (by omega) (by omega)]; omega) ?_)
    rw [h2]
    by_cases q : c1 ≤ u
    · refine brT (by rw [nI_leI (by omega) (by omega)]; exact q) (brT rfl (sqT ?_))
      rw [nI_1, ih, show c1 - (u + 1) = 0 by omega, show c1 - u = 0 by omega]
      rfl
    · refine brF (by rw [nI_leI (by omega) (by omega)]; exact q) (brF (by decide) (gdT ((vB_nI (by omega)).mpr (by omega)) ?_))
      rw [nI_clamp (by omega)]
      obtain ⟨m, hm⟩ : ∃ m, c1 - u = m + 1 := ⟨c1 - u - 1, by omega⟩
      rw [hm, fnd]
      by_cases r : gL w 10 0 u = K
      · refine brT (by rw [lg_cmp_0]; exact r) ?_
        simp [r]
      · refine brF (by rw [lg_cmp_0]; exact r) (sqT ?_)
        rw [nI_1, ih, show c1 - (u + 1) = m by omega]
        simp [r]
theorem fnd_cg {p q : Nat → Bool} : ∀ (n i : Nat), (∀ j, i ≤ j → j < i + n → p j = q j) → fnd p n i = fnd q n i
  | 0, _, _ => rfl
  | n + 1, i, h => by
    unfold fnd
    rw [h i (Nat.le_refl _) (by omega), fnd_cg n (i + 1) fun j h1 h2 => h j (by omega) (by omega)]
theorem rol_nm {u : Nat} (h0 : rol tk u ≠ 0) (h3 : rol tk u ≠ 3) (h9 : rol tk u ≠ 9) : tk u = 3 ∧ 1 ≤ u := by
  unfold rol at h0 h3 h9
  by_cases q : tk u = 3
  · refine ⟨q, ?_⟩
    rw [if_pos q] at h0
    by_cases q0 : u = 0
    · rw [if_pos q0] at h0; exact (h0 rfl).elim
    · omega
  · rw [if_neg q] at h0 h3 h9
    by_cases q4 : tk u = 4
    · rw [if_pos q4] at h0 h9
      split at h0
      · exact (h0 rfl).elim
      · split at h0
        · rename_i h1 h2
          rw [if_neg h1, if_pos h2] at h9; exact (h9 rfl).elim
        · exact (h0 rfl).elim
    · rw [if_neg q4] at h0 h3
      split at h0
      · rename_i h1
        rw [if_pos h1] at h3; exact (h3 rfl).elim
      · exact (h0 rfl).elim
/-- the index of the listener with the name of token j -/
def liN (T : List Nat) (tk st ln : Nat → Nat) (j : Nat) : Int32 := match fI T tk st ln 1 j with
  | some i => nI i
  | none => match fI T tk st ln 2 j with
    | some i => nI (8 + i)
    | none => -1
theorem c_named (hT : TKF T tk st ln N) {j : Nat} {w : Mm} (hj : j < N) (h3 : tk j = 3) (hB : ∀ u, u ≤ j → BS tk u) (h : CI T tk st ln N z j w) : f_X5_listenerNamed (kyN T st ln j) z w = some (liN T tk st ln j, w) := by
  obtain ⟨_, ⟨a1, a2, a3, a4⟩, ⟨b1, b2⟩, _⟩ := h
  rw [cN_nm h3 (fun u hu => hB u (by omega)) (hB j (Nat.le_refl _)) (Or.inl rfl)] at a1
  rw [cN_nm h3 (fun u hu => hB u (by omega)) (hB j (Nat.le_refl _)) (Or.inr rfl)] at a2
  have hL := c_lH (K := kyN T st ln j) a1 a2 a3 a4 8 0 LF (by omega) (by unfold LF; omega)
  have get : ∀ r i, i < (cN tk r j).length → (r = 1 ∨ r = 2) → ∃ u, (cN tk r j)[i]? = some u ∧ (cN tk r j).getD i 0 = u ∧ u < N ∧ tk u = 3 := fun r i hi hr => by
    have e := List.getElem?_eq_getElem hi
    have hm := cN_2 e
    refine ⟨_, e, ?_, by omega, (rol_nm (by omega) (by omega) (by omega)).1⟩
    rw [List.getD_eq_getElem?_getD, e]; rfl
  have e1 : fnd (fun i => decide (gL w 10 0 i = kyN T st ln j)) (cN tk 1 j).length 0 = fI T tk st ln 1 j := by
    unfold fI
    refine fnd_cg _ _ fun i _ hi => ?_
    obtain ⟨u, k1, k2, k3, k4⟩ := get 1 i (by omega) (Or.inl rfl)
    simp only [k2]
    rw [b1 i u k1, decide_eq_decide]
    exact ky_eq hT k3 k4 hj h3
  have e2 : fnd (fun i => decide (gL w 10 0 (8 + i) = kyN T st ln j)) (cN tk 2 j).length 0 = fI T tk st ln 2 j := by
    unfold fI
    refine fnd_cg _ _ fun i _ hi => ?_
    obtain ⟨u, k1, k2, k3, k4⟩ := get 2 i (by omega) (Or.inr rfl)
    simp only [k2]
    rw [b2 i u k1, decide_eq_decide]
    exact ky_eq hT k3 k4 hj h3
  rw [Nat.sub_zero, e1, e2] at hL
  unfold f_X5_listenerNamed liN
  rw [show (0 : Int32) = nI 0 from rfl, hL]
  match fI T tk st ln 1 j with
  | some i => exact brT rfl rfl
  | none =>
    match fI T tk st ln 2 j with
    | some i => exact brT rfl rfl
    | none => exact brF (by decide) rfl
end CNAMES
