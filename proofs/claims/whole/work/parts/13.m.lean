-- THE PURE PART: the class's parser
def CSt (tk : Nat → Nat) (N z a s : Nat) (w : Mm) : Prop := gI w 31 0 2 = nI a ∧ gR w 31 0 3 = tk a ∧ gR w 31 0 1 = z + 1 ∧ z < 2 ∧ (∀ j, j < N → gR w 5 0 j = tk j) ∧ gI w 25 z 7 = nI s ∧ N ≤ 401 ∧ a + 1 ≤ N
def FC (z s : Nat) (w w' : Mm) : Prop := (∀ c k i, c ≠ 31 → ¬ (c = 25 ∧ k = z ∧ i = 7) → ¬ ((c = 29 ∨ c = 30) ∧ k = z ∧ s ≤ i) → gI w' c k i = gI w c k i) ∧ (∀ c k i, gL w' c k i = gL w c k i) ∧ (∀ c k i, ¬ (c = 31 ∧ k = 0 ∧ i = 3) → ¬ (c = 28 ∧ k = z ∧ s ≤ i) → gR w' c k i = gR w c k i) ∧ w'.2.2.2 = w.2.2.2
theorem fc_rf {z s : Nat} {w : Mm} : FC z s w w := ⟨fun _ _ _ _ _ _ => rfl, fun _ _ _ => rfl, fun _ _ _ _ _ => rfl, rfl⟩
theorem fc_tr {z s s' : Nat} {w w1 w2 : Mm} (hs : s ≤ s') (h : FC z s w w1) (g : FC z s' w1 w2) : FC z s w w2 := ⟨fun c k i q1 q2 q3 => (g.1 c k i q1 q2 (by omega)).trans (h.1 c k i q1 q2 q3), fun c k i => (g.2.1 c k i).trans (h.2.1 c k i), fun c k i q1 q2 => (g.2.2.1 c k i q1 (by omega)).trans (h.2.2.1 c k i q1 q2), g.2.2.2.trans h.2.2.2⟩
theorem cseg_fc {z i s : Nat} {o : List Ps} {w w' : Mm} (h : CSEG z i o w) (u : FC z s w w') (hs : i + o.length ≤ s) : CSEG z i o w' := fun j k a b e => by
  have hj := (List.getElem?_eq_some_iff.mp e).1
  rw [u.2.2.1 _ _ _ (by omega) (by omega), u.1 _ _ _ (by omega) (by omega) (by omega), u.1 _ _ _ (by omega) (by omega) (by omega)]
  exact h j k a b e
theorem cseg_app {z i : Nat} {o o' : List Ps} {w : Mm} (h : CSEG z i o w) (h' : CSEG z (i + o.length) o' w) : CSEG z i (o ++ o') w := fun j k a b e => by
  by_cases q : j < o.length
  · rw [List.getElem?_append_left q] at e; exact h j k a b e
  · rw [List.getElem?_append_right (by omega)] at e
    have := h' (j - o.length) k a b e
    rwa [show i + o.length + (j - o.length) = i + j by omega] at this
theorem cseg_nil {z i : Nat} {w : Mm} : CSEG z i [] w := fun j k a b e => by simp at e
theorem c_take {tk : Nat → Nat} {N z a s k : Nat} {w : Mm} (h : CSt tk N z a s w) (hk : tk a = k) (ha : a + 2 ≤ N) : ∃ w', f_X7_take k w = some (1, w') ∧ CSt tk N z (a + 1) s w' ∧ FC z s w w' := by
  obtain ⟨h1, h2, h3, h4, h5, h6, h7, h8⟩ := h
  refine ⟨pR (pI w 31 0 2 (nI (a + 1))) 31 0 3 (tk (a + 1)), ?_, ⟨?_, ?_, ?_, h4, fun j hj => ?_, ?_, h7, ha⟩, ⟨fun c k i q1 q2 q3 => ?_, fun _ _ _ => rfl, fun c k i q1 q2 => ?_, rfl⟩⟩
  · unfold f_X7_take
    rw [h1]
    refine brT (by rw [h2, hk]) (brF (nI_pos (by omega)) (brT (by (simp (disch := omega) only [lit_nI, nI_leI, nI_ltI, nI_eq, nI_clamp, nI_add, nI_sub, vB_nI, Nat.add_sub_cancel, Nat.reduceSub, Nat.reduceLT, Nat.reduceLeDiff, Nat.reduceAdd, gI_pI, p2_pI, Nat.reduceEqDiff, false_and, and_false, true_and, and_true, if_false, if_true, and_self] <;> omega)) ?_))
    rw [nI_1]
    refine sqT ?_
    have e : gI (pI w 31 0 2 (nI (a + 1))) 31 0 2 = nI (a + 1) := by simp [gI_pI]
    rw [e]
    refine gdT ((vB_nI (by omega)).mpr (by omega)) ?_
    rw [nI_clamp (by omega)]
    have e2 : gR (pI w 31 0 2 (nI (a + 1))) 5 0 (a + 1) = tk (a + 1) := h5 (a + 1) (by omega)
    rw [e2]
    rfl
  · show gI (pI w 31 0 2 (nI (a + 1))) 31 0 2 = _
    simp [gI_pI]
  · rw [gR_pR, if_pos ⟨rfl, rfl, rfl⟩]
  · rw [gR_pR, if_neg (by omega)]; exact h3
  · rw [gR_pR, if_neg (by omega)]; exact h5 j hj
  · show gI (pI w 31 0 2 (nI (a + 1))) 25 z 7 = _
    rw [gI_pI, if_neg (by omega)]; exact h6
  · show gI (pI w 31 0 2 (nI (a + 1))) c k i = _
    rw [gI_pI, if_neg (by omega)]
  · rw [gR_pR, if_neg q1]; rfl
theorem c_takeN {tk : Nat → Nat} {N z a s k : Nat} {w : Mm} (h : CSt tk N z a s w) (hk : tk a ≠ k) : f_X7_take k w = some (0, w) := by
  unfold f_X7_take
  rw [h.2.1]
  exact brF hk rfl
theorem c_add {tk : Nat → Nat} {N z a s k : Nat} {x y : Int32} {w : Mm} (h : CSt tk N z a s w) (hk : 1 ≤ k ∧ k ≤ 44) (hs : s < 400) : ∃ w', f_X8_add z k x y w = some (1, w') ∧ CSt tk N z a (s + 1) w' ∧ CSEG z s [(k, x, y)] w' ∧ FC z s w w' := by
  obtain ⟨h1, h2, h3, h4, h5, h6, h7, h8⟩ := h
  have hv : vB (nI s) 400 = true := (vB_nI (by omega)).mpr hs
  have hcl : (nI s).toNatClampNeg = s := nI_clamp (by omega)
  refine ⟨pI (pI (pI (pR w 28 z s k) 29 z s x) 30 z s y) 25 z 7 (nI (s + 1)), ?_, ⟨?_, ?_, ?_, h4, fun j hj => ?_, ?_, h7, h8⟩, ?_, ⟨fun c k' i q1 q2 q3 => ?_, fun _ _ _ => rfl, fun c k' i q1 q2 => ?_, rfl⟩⟩
  · unfold f_X8_add
    rw [h6]
    refine brF (nI_pos (by omega)) (brT (by (simp (disch := omega) only [lit_nI, nI_leI, nI_ltI, nI_eq, nI_clamp, nI_add, nI_sub, vB_nI, Nat.add_sub_cancel, Nat.reduceSub, Nat.reduceLT, Nat.reduceLeDiff, Nat.reduceAdd, gI_pI, p2_pI, Nat.reduceEqDiff, false_and, and_false, true_and, and_true, if_false, if_true, and_self] <;> omega)) (gdT hv (gdT (by simp only [kok, Bool.and_eq_true, decide_eq_true_eq]; exact hk) ?_)))
    rw [hcl]
    refine sqT ?_
    have e1 : gI (pR w 28 z s k) 25 z 7 = nI s := h6
    rw [e1]
    refine gdT hv ?_
    rw [hcl]
    refine sqT ?_
    have e2 : gI (pI (pR w 28 z s k) 29 z s x) 25 z 7 = nI s := by rw [gI_pI, if_neg (by omega)]; exact h6
    rw [e2]
    refine gdT hv ?_
    rw [hcl]
    refine sqT ?_
    have e3 : gI (pI (pI (pR w 28 z s k) 29 z s x) 30 z s y) 25 z 7 = nI s := by rw [gI_pI, if_neg (by omega), gI_pI, if_neg (by omega)]; exact h6
    rw [e3, nI_1]
    rfl
  · rw [gI_pI, if_neg (by omega), gI_pI, if_neg (by omega), gI_pI, if_neg (by omega)]; exact h1
  · show gR (pR w 28 z s k) 31 0 3 = _
    rw [gR_pR, if_neg (by omega)]; exact h2
  · show gR (pR w 28 z s k) 31 0 1 = _
    rw [gR_pR, if_neg (by omega)]; exact h3
  · show gR (pR w 28 z s k) 5 0 j = _
    rw [gR_pR, if_neg (by omega)]; exact h5 j hj
  · simp [gI_pI]
  · intro j k' x' y' e
    cases j with
    | zero =>
      cases e
      refine ⟨?_, ?_, ?_⟩
      · show gR (pR w 28 z s k) 28 z (s + 0) = _
        rw [gR_pR, if_pos ⟨rfl, rfl, rfl⟩]
      · rw [gI_pI, if_neg (by omega), gI_pI, if_neg (by omega), gI_pI, if_pos ⟨rfl, rfl, rfl⟩]
      · rw [gI_pI, if_neg (by omega), gI_pI, if_pos ⟨rfl, rfl, rfl⟩]
    | succ j => simp at e
  · rw [gI_pI, if_neg (by omega), gI_pI, if_neg (by omega), gI_pI, if_neg (by omega)]; rfl
  · show gR (pR w 28 z s k) c k' i = _
    rw [gR_pR, if_neg (by omega)]
def RC (tk : Nat → Nat) (N z s : Nat) (w : Mm) (res : Rz) (out : Int32 × Mm) : Prop := match res with
  | .inl e => out.1 = 0 ∧ gI out.2 31 0 2 = nI e ∧ FC z s w out.2
  | .inr (a, o) => out.1 = 1 ∧ CSt tk N z a (s + o.length) out.2 ∧ CSEG z s o out.2 ∧ FC z s w out.2
def ndC (v d : Nat) : Nat := 2 * (8 - d) + (if v = 0 then 4 else if v = 1 then 3 else if v = 2 then 2 else if v = 3 then 1 else if v = 4 then 3 else 1)
def T4 (m d f u x : Nat) (w : Mm) : Option (Int32 × Mm) := bd2 (f_X7_test_L11 (grpC m) (nI d) f (nI u) 1 (nI x) w) (fun y65 y66 w67 => br (y65 = 0) (some (0, w67)) (br (y66 = 0) (some (1, w67)) (gd (vok 25 (gR w67 31 0 1)) (sq (gR w67 31 0 1 - 1) (fun p69 => bd1 (f_X8_add p69 27 (-1) (-1) w67) (fun r70 w71 => br (r70 = 0) (some (0, w71)) (some (1, w71))))))))
def T5 (m d f u x : Nat) (w : Mm) : Option (Int32 × Mm) := bd2 (f_X7_sum_L13 (grpC m) (nI d) f (nI u) 1 x w) (fun y77 y78 w79 => br (y77 = 0) (some (0, w79)) (br (y78 = 1) (some (1, w79)) (gd (vok 25 (gR w79 31 0 1)) (sq (gR w79 31 0 1 - 1) (fun p81 => bd1 (f_X8_add p81 y78 (-1) (-1) w79) (fun r82 w83 => br (r82 = 0) (some (0, w83)) (some (1, w83))))))))
theorem swv_0 : ∀ j, j < 44 → ((swv (j + 1) = 9 ∨ swv (j + 1) = 10 ∨ swv (j + 1) = 11 ∨ swv (j + 1) = 12) ↔ ((j + 1) = 4 ∨ (j + 1) = 17 ∨ (j + 1) = 18 ∨ (j + 1) = 19)) := by decide +kernel
theorem swv_1 : ∀ j, j < 44 → ((swv (j + 1) = 13 ∨ swv (j + 1) = 14 ∨ swv (j + 1) = 15) ↔ ((j + 1) = 20 ∨ (j + 1) = 21 ∨ (j + 1) = 22)) := by decide +kernel
theorem swv_2 : ∀ j, j < 44 → (swv (j + 1) = 16 ↔ (j + 1) = 37) := by decide +kernel
theorem swv_3 : ∀ j, j < 44 → (swv (j + 1) = 17 ↔ (j + 1) = 30) := by decide +kernel
theorem swv_4 : ∀ j, j < 44 → ((swv (j + 1) = 18 ∨ swv (j + 1) = 19) ↔ ((j + 1) = 28 ∨ (j + 1) = 29)) := by decide +kernel
theorem swv_5 : ∀ j, j < 44 → (swv (j + 1) = 6 ↔ (j + 1) = 25) := by decide +kernel
theorem swv_6 : ∀ j, j < 44 → (swv (j + 1) = 7 ↔ (j + 1) = 32) := by decide +kernel
theorem swv_7 : ∀ j, j < 44 → (swv (j + 1) = 8 ↔ (j + 1) = 24) := by decide +kernel
theorem swv_8 : ∀ j, j < 44 → (swv (j + 1) = 1 ↔ (j + 1) = 7) := by decide +kernel
theorem swv_9 : ∀ j, j < 44 → (swv (j + 1) = 2 ↔ (j + 1) = 9) := by decide +kernel
theorem swv_10 : ∀ j, j < 44 → ((swv (j + 1) = 3 ∨ swv (j + 1) = 4 ∨ swv (j + 1) = 5) ↔ ((j + 1) = 11 ∨ (j + 1) = 12 ∨ (j + 1) = 14)) := by decide +kernel
theorem swvL {k : Nat} (h1 : 1 ≤ k) (h2 : k ≤ 44) : ((swv k = 9 ∨ swv k = 10 ∨ swv k = 11 ∨ swv k = 12) ↔ (k = 4 ∨ k = 17 ∨ k = 18 ∨ k = 19)) ∧ ((swv k = 13 ∨ swv k = 14 ∨ swv k = 15) ↔ (k = 20 ∨ k = 21 ∨ k = 22)) ∧ (swv k = 16 ↔ k = 37) ∧ (swv k = 17 ↔ k = 30) ∧ ((swv k = 18 ∨ swv k = 19) ↔ (k = 28 ∨ k = 29)) ∧ (swv k = 6 ↔ k = 25) ∧ (swv k = 7 ↔ k = 32) ∧ (swv k = 8 ↔ k = 24) ∧ (swv k = 1 ↔ k = 7) ∧ (swv k = 2 ↔ k = 9) ∧ ((swv k = 3 ∨ swv k = 4 ∨ swv k = 5) ↔ (k = 11 ∨ k = 12 ∨ k = 14)) := by
  obtain ⟨j, rfl⟩ : ∃ j, k = j + 1 := ⟨k - 1, by omega⟩
  exact ⟨swv_0 j (by omega), swv_1 j (by omega), swv_2 j (by omega), swv_3 j (by omega), swv_4 j (by omega), swv_5 j (by omega), swv_6 j (by omega), swv_7 j (by omega), swv_8 j (by omega), swv_9 j (by omega), swv_10 j (by omega)⟩
theorem bdz_in {X : Option Rz} {K : Nat → List Ps → Option Rz} {r : Rz} (h : bdz X K = some r) : (∃ e, X = some (.inl e) ∧ r = .inl e) ∨ (∃ a o, X = some (.inr (a, o)) ∧ K a o = some r) := by
  match X, h with
  | none, h => cases h
  | some (.inl e), h => cases h; exact Or.inl ⟨e, rfl, rfl⟩
  | some (.inr (a, o)), h => exact Or.inr ⟨a, o, rfl, h⟩
theorem emz_in {X : Option Rz} {p : List Ps} {r : Rz} (h : emz p X = some r) : (∃ e, X = some (.inl e) ∧ r = .inl e) ∨ (∃ a o, X = some (.inr (a, o)) ∧ r = .inr (a, p ++ o)) := by
  match X, h with
  | none, h => cases h
  | some (.inl e), h => cases h; exact Or.inl ⟨e, rfl, rfl⟩
  | some (.inr (a, o)), h => cases h; exact Or.inr ⟨a, o, rfl, rfl⟩
theorem rc_fl {tk : Nat → Nat} {N z a s s' : Nat} {w w1 : Mm} (h : CSt tk N z a s' w1) (u : FC z s w w1) : RC tk N z s w (.inl a) (0, w1) := ⟨rfl, h.1, u⟩
theorem rc_fl' {tk : Nat → Nat} {N z s s' e : Nat} {w w1 w2 : Mm} {r : Int32} (h : RC tk N z s' w1 (.inl e) (r, w2)) (hs : s ≤ s') (u : FC z s w w1) : RC tk N z s w (.inl e) (0, w2) := ⟨rfl, h.2.1, fc_tr hs u h.2.2⟩
