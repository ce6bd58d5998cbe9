-- THE PURE PART: the class's scan
theorem wl_le : ∀ l : List Nat, wl l ≤ l.length
  | [] => Nat.le_refl _
  | c :: t => by
    have := wl_le t
    show (if isWd c = true then wl t + 1 else 0) ≤ _
    split <;> simp only [List.length_cons] <;> omega
theorem dl_le : ∀ l : List Nat, dl l ≤ l.length
  | [] => Nat.le_refl _
  | c :: t => by
    have := dl_le t
    show (if isDg c = true then dl t + 1 else 0) ≤ _
    split <;> simp only [List.length_cons] <;> omega
theorem bl_le : ∀ l : List Nat, bl l ≤ l.length
  | [] => Nat.le_refl _
  | c :: t => by
    have := bl_le t
    show (if c = 32 ∨ c = 10 then bl t + 1 else 0) ≤ _
    split <;> simp only [List.length_cons] <;> omega
theorem wl_wd : ∀ l : List Nat, ∀ c ∈ l.take (wl l), isWd c = true
  | [], c, h => by simp at h
  | d :: t, c, h => by
    have e : wl (d :: t) = if isWd d = true then wl t + 1 else 0 := rfl
    rw [e] at h
    by_cases q : isWd d = true
    · rw [if_pos q] at h
      simp only [List.take_succ_cons, List.mem_cons] at h
      rcases h with rfl | h
      · exact q
      · exact wl_wd t c h
    · rw [if_neg q] at h
      simp at h
theorem fnd_lt {p : Nat → Bool} : ∀ n i j, fnd p n i = some j → j < i + n
  | 0, i, j, h => by cases h
  | n + 1, i, j, h => by
    unfold fnd at h
    split at h
    · cases h; omega
    · have := fnd_lt n _ _ h; omega
theorem wk_r (l : List Nat) : wk l = 3 ∨ (7 ≤ wk l ∧ wk l ≤ 29) := by
  unfold wk
  cases q : fnd (fun k => decide (l = tx k)) 23 0 with
  | none => exact Or.inl rfl
  | some k => have := fnd_lt _ _ _ q; exact Or.inr ⟨by simp only; omega, by simp only; omega⟩
theorem sy_r (c : Nat) (e : Bool) : (sy c e = (2, 0)) ∨ (30 ≤ (sy c e).1 ∧ (sy c e).1 ≤ 44 ∧ 1 ≤ (sy c e).2 ∧ ((sy c e).2 ≤ 1 ∨ (e = true ∧ (sy c e).2 = 2))) := by
  by_cases h40 : c = 40
  · subst h40; cases e <;> decide
  by_cases h41 : c = 41
  · subst h41; cases e <;> decide
  by_cases h42 : c = 42
  · subst h42; cases e <;> decide
  by_cases h43 : c = 43
  · subst h43; cases e <;> decide
  by_cases h44 : c = 44
  · subst h44; cases e <;> decide
  by_cases h45 : c = 45
  · subst h45; cases e <;> decide
  by_cases h47 : c = 47
  · subst h47; cases e <;> decide
  by_cases h59 : c = 59
  · subst h59; cases e <;> decide
  by_cases h60 : c = 60
  · subst h60; cases e <;> decide
  by_cases h61 : c = 61
  · subst h61; cases e <;> decide
  by_cases h62 : c = 62
  · subst h62; cases e <;> decide
  by_cases h91 : c = 91
  · subst h91; cases e <;> decide
  by_cases h93 : c = 93
  · subst h93; cases e <;> decide
  refine Or.inl ?_
  unfold sy
  rw [if_neg h40, if_neg h41, if_neg h42, if_neg h43, if_neg h44, if_neg h45, if_neg h47, if_neg h59, if_neg h60, if_neg h61, if_neg h62, if_neg h91, if_neg h93]
/-- kinds and lengths -/
theorem tok1_r (l : List Nat) : (tok1 l).1 = 1 ∨ (tok1 l).1 = 2 ∨ ((tok1 l).1 = 3 ∨ (tok1 l).1 = 4 ∨ (7 ≤ (tok1 l).1 ∧ (tok1 l).1 ≤ 44)) ∧ 1 ≤ (tok1 l).2 ∧ (tok1 l).2 ≤ l.length := by
  cases l with
  | nil => exact Or.inl rfl
  | cons c t =>
    refine Or.inr ?_
    unfold tok1
    simp only
    by_cases h : isLt c = true
    · have hw : isWd c = true := by unfold isWd; rw [h]; rfl
      have e : wl (c :: t) = wl t + 1 := by
        show (if isWd c = true then wl t + 1 else 0) = _
        rw [if_pos hw]
      have hle := wl_le (c :: t)
      rw [if_pos h]
      split
      · refine Or.inr ⟨?_, by simp only; omega, hle⟩
        rcases wk_r ((c :: t).take (wl (c :: t))) with q | q
        · exact Or.inl q
        · exact Or.inr (Or.inr ⟨q.1, by simp only; omega⟩)
      · exact Or.inl rfl
    · rw [if_neg h]
      by_cases hd : isDg c = true
      · have e : dl (c :: t) = dl t + 1 := by
          show (if isDg c = true then dl t + 1 else 0) = _
          rw [if_pos hd]
        have hle := dl_le (c :: t)
        rw [if_pos hd]
        split
        · exact Or.inr ⟨Or.inr (Or.inl rfl), by simp only; omega, hle⟩
        · exact Or.inl rfl
      · rw [if_neg hd]
        rcases sy_r c (decide (t.head? = some 61)) with q | ⟨q1, q2, q3, q4⟩
        · rw [q]; exact Or.inl rfl
        · refine Or.inr ⟨Or.inr (Or.inr ⟨by omega, q2⟩), q3, ?_⟩
          rcases q4 with q | ⟨q, q5⟩
          · simp only [List.length_cons]; omega
          · rw [q5]
            cases t with
            | nil => simp at q
            | cons d t => simp only [List.length_cons]; omega
theorem a_next {T : List Nat} {p : Nat} {l : List Nat} {w : Mm} (hT : TC T w) (hp : p ≤ T.length) (e : T.drop p = l) (h5 : gI w 4 0 5 = nI p) : ∃ w', f_X11_next w = some ((tok1 l).1, w') ∧ CK w w' ∧ ((tok1 l).1 ≠ 1 → (tok1 l).1 ≠ 2 → gI w' 4 0 5 = nI (p + (tok1 l).2)) ∧ ((tok1 l).1 = 3 → gL w' 4 0 6 = lN (kF 0 (l.take (tok1 l).2))) ∧ ((tok1 l).1 = 4 → gI w' 4 0 7 = nI (nV 0 (l.take (tok1 l).2))) := by
  have hlen := hT.2.1
  have hat := a_at hT (p := p) (by omega)
  cases l with
  | nil =>
    rw [ch_nil e] at hat
    refine ⟨w, ?_, ck_rf, fun q => (q rfl).elim, fun q => (by cases q), fun q => (by cases q)⟩
    unfold f_X11_next
    rw [h5]
    exact bd1T hat (brT rfl rfl)
  | cons c t =>
    obtain ⟨e1, e2, e3⟩ := dr_cons e
    rw [ch_cons e] at hat
    have hc := tc_lt hT e
    have hm1 : ¬ nI c = -1 := fun h => (nI_m1 (by omega)).mp h
    have hL := a_isL (w := w) hc
    have hD := a_isD (w := w) hc
    have hdr : (T.drop p).length ≤ 2000 := by rw [List.length_drop]; omega
    rw [e] at hdr
    by_cases h : isLt c = true
    · rw [h] at hL
      have hw : isWd c = true := by unfold isWd; rw [h]; rfl
      have e0 : wl (c :: t) = wl t + 1 := by
        show (if isWd c = true then wl t + 1 else 0) = _
        rw [if_pos hw]
      obtain ⟨w', y, g1, g2, g3, g4, g5⟩ := a_word (c :: t) p 0 0 LF (pL w 4 0 6 0) e hp (by omega) (by decide) (by unfold LF; omega) (tc_ck hT ck_pL) h5 (by
        show gL (pL w 4 0 6 0) 4 0 6 = _
        rw [gL_pL, if_pos ⟨rfl, rfl, rfl⟩]; rfl)
      rw [Nat.zero_add] at g4 g5
      have run : ∀ r, br (y ≤ 10) (bd1 (f_X4_ofWord (gL w' 4 0 6) w') (fun r15 w16 => some (r15, w16))) (some (2, w')) = some r → f_X11_next w = some r := by
        intro r hr
        unfold f_X11_next
        rw [h5]
        refine bd1T hat (brF hm1 (bd1T hL (brF (by decide) ?_)))
        obtain ⟨r1, r2⟩ := r
        refine bd1T (x := r1) (w := r2) ?_ rfl
        unfold f_X11_word
        exact sqT (bd1T g1 hr)
      unfold tok1
      simp only
      rw [if_pos h]
      by_cases q : wl (c :: t) ≤ 10
      · rw [if_pos q]
        obtain ⟨y1, y2, y3⟩ := g4 q
        have hle := wl_le (c :: t)
        have hof := a_ofWord (w := w') (wl_wd (c :: t)) (by rw [e0]; simp) (by rw [List.length_take]; omega)
        refine ⟨w', run _ ?_, ck_tr ck_pL g2, fun _ _ => y2, fun _ => y3, fun qq => ?_⟩
        · rw [y1, y3]
          exact brT (by (simp (disch := omega) only [lit_nI, nI_leI, nI_ltI, nI_eq, nI_clamp, nI_add, nI_sub, vB_nI, Nat.add_sub_cancel, Nat.reduceSub, Nat.reduceLT, Nat.reduceLeDiff, Nat.reduceAdd, gI_pI, p2_pI, Nat.reduceEqDiff, false_and, and_false, true_and, and_true, if_false, if_true, and_self] <;> omega)) (bd1T hof rfl)
        · exfalso
          rcases wk_r ((c :: t).take (wl (c :: t))) with r | r
          · simp only at qq; omega
          · simp only at qq; omega
      · rw [if_neg q]
        refine ⟨w', run _ ?_, ck_tr ck_pL g2, fun _ q => (q rfl).elim, fun q => (by cases q), fun q => (by cases q)⟩
        rw [g5 (by omega)]
        exact brF (by decide) rfl
    · have h' : isLt c = false := by simpa using h
      rw [h'] at hL
      by_cases hd : isDg c = true
      · rw [hd] at hD
        obtain ⟨w', y, g1, g2, g4, g5⟩ := a_num (c :: t) p 0 0 LF (pI w 4 0 7 0) e hp (by omega) (by decide) (by unfold LF; omega) (tc_ck hT (ck_pI (Or.inr rfl))) (by rw [gI_pI, if_neg (by omega)]; exact h5) (by simp [gI_pI]; rfl)
        rw [Nat.zero_add] at g4 g5
        have run : ∀ r, br (y ≤ 6) (some (4, w')) (some (2, w')) = some r → f_X11_next w = some r := by
          intro r hr
          unfold f_X11_next
          rw [h5]
          refine bd1T hat (brF hm1 (bd1T hL (brT rfl (bd1T hD (brF (by decide) ?_)))))
          obtain ⟨r1, r2⟩ := r
          refine bd1T (x := r1) (w := r2) ?_ rfl
          unfold f_X11_number
          exact sqT (bd1T g1 hr)
        unfold tok1
        simp only
        rw [if_neg h, if_pos hd]
        by_cases q : dl (c :: t) ≤ 6
        · rw [if_pos q]
          obtain ⟨y1, y2, y3⟩ := g4 q
          refine ⟨w', run _ ?_, ck_tr (ck_pI (Or.inr rfl)) g2, fun _ _ => y2, fun q => (by cases q), fun _ => y3⟩
          rw [y1]
          exact brT (by (simp (disch := omega) only [lit_nI, nI_leI, nI_ltI, nI_eq, nI_clamp, nI_add, nI_sub, vB_nI, Nat.add_sub_cancel, Nat.reduceSub, Nat.reduceLT, Nat.reduceLeDiff, Nat.reduceAdd, gI_pI, p2_pI, Nat.reduceEqDiff, false_and, and_false, true_and, and_true, if_false, if_true, and_self] <;> omega)) rfl
        · rw [if_neg q]
          refine ⟨w', run _ ?_, ck_tr (ck_pI (Or.inr rfl)) g2, fun _ q => (q rfl).elim, fun q => (by cases q), fun q => (by cases q)⟩
          rw [g5 (by omega)]
          exact brF (by decide) rfl
      · have hd' : isDg c = false := by simpa using hd
        rw [hd'] at hD
        obtain ⟨w', g1, g2, g3⟩ := a_sym (c := c) (w := pI w 4 0 5 (nI (p + 1))) (tc_ck hT (ck_pI (Or.inl rfl))) hc (by omega) e3 (by simp [gI_pI])
        unfold tok1
        simp only
        rw [if_neg h, if_neg hd]
        refine ⟨w', ?_, ck_tr (ck_pI (Or.inl rfl)) g2, fun _ q => g3 q, fun q => ?_, fun q => ?_⟩
        · unfold f_X11_next
          rw [h5]
          refine bd1T hat (brF hm1 (bd1T hL (brT rfl (bd1T hD (brT rfl ?_)))))
          rw [h5, nI_1]
          exact sqT (bd1T g1 rfl)
        · exfalso
          rcases sy_r c (decide (t.head? = some 61)) with r | r
          · rw [r] at q; cases q
          · omega
        · exfalso
          rcases sy_r c (decide (t.head? = some 61)) with r | r
          · rw [r] at q; cases q
          · omega
def scn (T : List Nat) : Nat → Nat → Nat → List (Nat × Nat × Nat)
  | 0, _, _ => []
  | n + 1, i, p => (if i = 400 ∧ (tok1 (T.drop (p + bl (T.drop p)))).1 ≠ 1 then 2 else (tok1 (T.drop (p + bl (T.drop p)))).1, p + bl (T.drop p), (tok1 (T.drop (p + bl (T.drop p)))).2) ::
    (if (if i = 400 ∧ (tok1 (T.drop (p + bl (T.drop p)))).1 ≠ 1 then 2 else (tok1 (T.drop (p + bl (T.drop p)))).1) = 1 ∨ (if i = 400 ∧ (tok1 (T.drop (p + bl (T.drop p)))).1 ≠ 1 then 2 else (tok1 (T.drop (p + bl (T.drop p)))).1) = 2 then [] else scn T n (i + 1) (p + bl (T.drop p) + (tok1 (T.drop (p + bl (T.drop p)))).2))
def KT (T : List Nat) (L : List (Nat × Nat × Nat)) (i : Nat) (w : Mm) : Prop := ∀ j k s m, L[j]? = some (k, s, m) → gR w 5 0 (i + j) = k ∧ gI w 6 0 (i + j) = nI s ∧ (k = 3 → gL w 7 0 (i + j) = lN (kF 0 ((T.drop s).take m))) ∧ (k = 4 → gI w 8 0 (i + j) = nI (nV 0 ((T.drop s).take m)))
/-- what the class's scan may touch, from token i on -/
def SCF (i : Nat) (w w' : Mm) : Prop := (∀ c k j, ¬ (c = 4 ∧ k = 0 ∧ (j = 4 ∨ j = 5 ∨ j = 7)) → ¬ ((c = 6 ∨ c = 8) ∧ k = 0 ∧ i ≤ j) → gI w' c k j = gI w c k j) ∧ (∀ c k j, ¬ (c = 4 ∧ k = 0 ∧ j = 6) → ¬ (c = 7 ∧ k = 0 ∧ i ≤ j) → gL w' c k j = gL w c k j) ∧ (∀ c k j, ¬ (c = 5 ∧ k = 0 ∧ i ≤ j) → gR w' c k j = gR w c k j) ∧ w'.2.2.2 = w.2.2.2
theorem scf_tr {i i' : Nat} {w w1 w2 : Mm} (hi : i ≤ i') (h : SCF i w w1) (g : SCF i' w1 w2) : SCF i w w2 := ⟨fun c k j q q' => (g.1 c k j q (by omega)).trans (h.1 c k j q q'), fun c k j q q' => (g.2.1 c k j q (by omega)).trans (h.2.1 c k j q q'), fun c k j q => (g.2.2.1 c k j (by omega)).trans (h.2.2.1 c k j q), g.2.2.2.trans h.2.2.2⟩
theorem scf_ck {i : Nat} {w w' : Mm} (h : CK w w') : SCF i w w' := ⟨fun c k j q _ => h.1 c k j (by omega), fun c k j q _ => h.2.1 c k j q, fun c k j q => by unfold gR; rw [h.2.2], by rw [h.2.2]⟩
theorem gR_pR {w : Mm} {c k i v c' k' i' : Nat} : gR (pR w c k i v) c' k' i' = if c' = c ∧ k' = k ∧ i' = i then v else gR w c' k' i' := rfl
def putT (w : Mm) (i k : Nat) : Mm := pI (pI (pL (pR w 5 0 i k) 7 0 i (gL w 4 0 6)) 8 0 i (gI w 4 0 7)) 4 0 4 (nI i)
theorem putT_I {w : Mm} {i k c k' j : Nat} : gI (putT w i k) c k' j = if c = 4 ∧ k' = 0 ∧ j = 4 then nI i else if c = 8 ∧ k' = 0 ∧ j = i then gI w 4 0 7 else gI w c k' j := rfl
theorem putT_L {w : Mm} {i k c k' j : Nat} : gL (putT w i k) c k' j = if c = 7 ∧ k' = 0 ∧ j = i then gL w 4 0 6 else gL w c k' j := rfl
theorem putT_R {w : Mm} {i k c k' j : Nat} : gR (putT w i k) c k' j = if c = 5 ∧ k' = 0 ∧ j = i then k else gR w c k' j := rfl
theorem scf_put {w : Mm} {i k : Nat} : SCF i w (putT w i k) := ⟨fun c k' j q q' => by rw [putT_I, if_neg (by omega), if_neg (by omega)], fun c k' j q q' => by rw [putT_L, if_neg (by omega)], fun c k' j q => by rw [putT_R, if_neg (by omega)], rfl⟩
theorem tc_scf {T : List Nat} {i : Nat} {w w' : Mm} (h : TC T w) (u : SCF i w w') : TC T w' := by
  obtain ⟨h1, h2, h3⟩ := h
  refine ⟨by rw [u.1 _ _ _ (by omega) (by omega)]; exact h1, h2, fun j x e => ?_⟩
  rw [u.1 _ _ _ (by omega) (by omega)]; exact h3 j x e
theorem tok1_k (l : List Nat) : 1 ≤ (tok1 l).1 ∧ (tok1 l).1 ≤ 44 := by
  rcases tok1_r l with h | h | ⟨h, -⟩ <;> omega
theorem kt_put {T : List Nat} {i k s m : Nat} {w w' : Mm} {L : List (Nat × Nat × Nat)} (h : KT T L (i + 1) w') (u : SCF (i + 1) w w') (h5 : gR w 5 0 i = k) (h6 : gI w 6 0 i = nI s) (h7 : k = 3 → gL w 7 0 i = lN (kF 0 ((T.drop s).take m))) (h8 : k = 4 → gI w 8 0 i = nI (nV 0 ((T.drop s).take m))) : KT T ((k, s, m) :: L) i w' := by
  intro j k' s' m' e
  cases j with
  | zero =>
    cases e
    rw [Nat.add_zero, u.2.2.1 _ _ _ (by omega), u.1 _ _ _ (by omega) (by omega), u.2.1 _ _ _ (by omega) (by omega), u.1 _ _ _ (by omega) (by omega)]
    exact ⟨h5, h6, h7, h8⟩
  | succ j =>
    have := h j k' s' m' (by simpa using e)
    rwa [show i + 1 + j = i + (j + 1) by omega] at this
theorem a_scan {T : List Nat} : ∀ (n i p f : Nat) (w : Mm), i + n + 1 = 401 → n < f → TC T w → p ≤ T.length → gI w 4 0 5 = nI p → ∃ t w', f_X11_scan_L7 (f + 1) (nI i) w = some (t, w') ∧ SCF i w w' ∧ KT T (scn T (n + 1) i p) i w' ∧ gI w' 4 0 4 = nI (i + (scn T (n + 1) i p).length - 1) := by
  intro n
  induction n with
  | zero =>
    intro i p f w hi hf hT hp h5
    have i4 : i = 400 := by omega
    subst i4
    obtain ⟨w1, a1, a2, a3⟩ := a_skip (T.drop p) p LF w rfl hp (by have := hT.2.1; rw [List.length_drop]; unfold LF; omega) hT h5
    have hq : p + bl (T.drop p) ≤ T.length := by
      have := bl_le (T.drop p); rw [List.length_drop] at this; omega
    generalize hqq : p + bl (T.drop p) = q at a2 hq
    have hT1 : TC T (pI w1 6 0 400 (nI q)) := tc_scf (i := 400) (tc_ck hT a3) ⟨fun c k j h h' => by rw [gI_pI, if_neg (by omega)], fun _ _ _ _ _ => rfl, fun _ _ _ _ => rfl, rfl⟩
    obtain ⟨w2, b1, b2, b3, b4, b5⟩ := a_next hT1 hq rfl (by rw [gI_pI, if_neg (by omega)]; exact a2)
    have hF : SCF 400 w w2 := ⟨fun c k j h h' => by rw [b2.1 _ _ _ (by omega), gI_pI, if_neg (by omega), a3.1 _ _ _ (by omega)], fun c k j h h' => by rw [b2.2.1 _ _ _ h]; exact a3.2.1 _ _ _ h, fun c k j h => by
      have e1 : gR w2 = gR w1 := by funext c k j; unfold gR; rw [b2.2.2]; rfl
      rw [e1]; unfold gR; rw [a3.2.2], by rw [b2.2.2]; show w1.2.2.2 = _; rw [a3.2.2]⟩
    have h6 : gI w2 6 0 400 = nI q := by rw [b2.1 _ _ _ (by omega)]; simp [gI_pI]
    have hk := tok1_k (T.drop q)
    have hscn : scn T (0 + 1) 400 p = [(if (tok1 (T.drop q)).1 = 1 then 1 else 2, q, (tok1 (T.drop q)).2)] := by
      simp only [scn, hqq]
      by_cases h1 : (tok1 (T.drop q)).1 = 1
      · rw [h1]; simp
      · simp [h1]
    have c400 : (400 : Int32) = nI 400 := rfl
    have hv : vB (nI 400) 401 = true := by decide
    have hcl : (nI 400).toNatClampNeg = 400 := by decide
    have main : ∀ kk, (kk = 1 ∨ kk = 2) → kk = (if (tok1 (T.drop q)).1 = 1 then 1 else 2) → (f_X11_scan_L7 (f + 1) (nI 400) w = some (0, putT w2 400 kk)) → ∃ t w', f_X11_scan_L7 (f + 1) (nI 400) w = some (t, w') ∧ SCF 400 w w' ∧ KT T (scn T (0 + 1) 400 p) 400 w' ∧ gI w' 4 0 4 = nI (400 + (scn T (0 + 1) 400 p).length - 1) := by
      intro kk h12 hkk hrun
      refine ⟨0, _, hrun, scf_tr (Nat.le_refl _) hF scf_put, ?_, ?_⟩
      · rw [hscn, ← hkk]
        intro j k s m e
        cases j with
        | zero =>
          cases e
          refine ⟨by rw [putT_R]; simp, by rw [putT_I, if_neg (by omega), if_neg (by omega)]; exact h6, fun h => by omega, fun h => by omega⟩
        | succ j => simp at e
      · rw [hscn, putT_I]; simp
    by_cases h1 : (tok1 (T.drop q)).1 = 1
    · rw [h1] at b1
      refine main 1 (Or.inl rfl) (by rw [if_pos h1]) ?_
      rw [f_X11_scan_L7]
      refine brF (by decide) (bd0T (w := w1) ?_ (gdT hv ?_))
      · unfold f_X11_skipBlanks; exact bd0T a1 rfl
      rw [hcl, a2]
      refine sqT (bd1T b1 (brT rfl (brT rfl (gdT hv (gdT rfl (sqT (gdT hv (sqT (gdT hv (sqT (sqT (brT rfl rfl))))))))))))
    · refine main 2 (Or.inr rfl) (by rw [if_neg h1]) ?_
      rw [f_X11_scan_L7]
      refine brF (by decide) (bd0T (w := w1) ?_ (gdT hv ?_))
      · unfold f_X11_skipBlanks; exact bd0T a1 rfl
      rw [hcl, a2]
      refine sqT (bd1T b1 (brT rfl (brF h1 (gdT hv (gdT rfl (sqT (gdT hv (sqT (gdT hv (sqT (sqT (brF (by decide) (brT rfl rfl)))))))))))))
  | succ n ih =>
    intro i p f w hi hf hT hp h5
    obtain ⟨w1, a1, a2, a3⟩ := a_skip (T.drop p) p LF w rfl hp (by have := hT.2.1; rw [List.length_drop]; unfold LF; omega) hT h5
    have hq : p + bl (T.drop p) ≤ T.length := by
      have := bl_le (T.drop p); rw [List.length_drop] at this; omega
    generalize hqq : p + bl (T.drop p) = q at a2 hq
    have hT1 : TC T (pI w1 6 0 i (nI q)) := tc_scf (i := i) (tc_ck hT a3) ⟨fun c k j h h' => by rw [gI_pI, if_neg (by omega)], fun _ _ _ _ _ => rfl, fun _ _ _ _ => rfl, rfl⟩
    obtain ⟨w2, b1, b2, b3, b4, b5⟩ := a_next hT1 hq rfl (by rw [gI_pI, if_neg (by omega)]; exact a2)
    have hF : SCF i w w2 := ⟨fun c k j h h' => by rw [b2.1 _ _ _ (by omega), gI_pI, if_neg (by omega), a3.1 _ _ _ (by omega)], fun c k j h h' => by rw [b2.2.1 _ _ _ h]; exact a3.2.1 _ _ _ h, fun c k j h => by
      have e1 : gR w2 = gR w1 := by funext c k j; unfold gR; rw [b2.2.2]; rfl
      rw [e1]; unfold gR; rw [a3.2.2], by rw [b2.2.2]; show w1.2.2.2 = _; rw [a3.2.2]⟩
    have h6 : gI w2 6 0 i = nI q := by rw [b2.1 _ _ _ (by omega)]; simp [gI_pI]
    have hk := tok1_k (T.drop q)
    have hr := tok1_r (T.drop q)
    rw [List.length_drop] at hr
    have n400 : ¬ nI i = 400 := fun h => by
      have := (nI_eq (b := 400) (by omega) (by decide)).mp h
      omega
    have hscn : scn T (n + 1 + 1) i p = ((tok1 (T.drop q)).1, q, (tok1 (T.drop q)).2) :: (if (tok1 (T.drop q)).1 = 1 ∨ (tok1 (T.drop q)).1 = 2 then [] else scn T (n + 1) (i + 1) (q + (tok1 (T.drop q)).2)) := by
      have e4 : ¬ (i = 400 ∧ (tok1 (T.drop q)).1 ≠ 1) := by omega
      rw [scn, hqq, if_neg e4]
    have hv : vB (nI i) 401 = true := (vB_nI (by omega)).mpr (by omega)
    have hcl : (nI i).toNatClampNeg = i := nI_clamp (by omega)
    have hkok : kok (tok1 (T.drop q)).1 = true := by simp only [kok, Bool.and_eq_true, decide_eq_true_eq]; exact hk
    have run : ∀ x, br ((tok1 (T.drop q)).1 = 1) (some ((0 : Nat), putT w2 i (tok1 (T.drop q)).1)) (br ((tok1 (T.drop q)).1 = 2) (some ((0 : Nat), putT w2 i (tok1 (T.drop q)).1)) (sq (nI i + 1) (fun x14 => f_X11_scan_L7 f x14 (putT w2 i (tok1 (T.drop q)).1)))) = x → f_X11_scan_L7 (f + 1) (nI i) w = x := by
      intro x hx
      rw [f_X11_scan_L7]
      refine brF (by (simp (disch := omega) only [lit_nI, nI_leI, nI_ltI, nI_eq, nI_clamp, nI_add, nI_sub, vB_nI, Nat.add_sub_cancel, Nat.reduceSub, Nat.reduceLT, Nat.reduceLeDiff, Nat.reduceAdd, gI_pI, p2_pI, Nat.reduceEqDiff, false_and, and_false, true_and, and_true, if_false, if_true, and_self] <;> omega)) (bd0T (w := w1) ?_ (gdT hv ?_))
      · unfold f_X11_skipBlanks; exact bd0T a1 rfl
      rw [hcl, a2]
      exact sqT (bd1T b1 (brF n400 (gdT hv (gdT hkok (sqT (gdT hv (sqT (gdT hv (sqT (sqT hx))))))))))
    have p5 : gR (putT w2 i (tok1 (T.drop q)).1) 5 0 i = (tok1 (T.drop q)).1 := by rw [putT_R]; simp
    have p6 : gI (putT w2 i (tok1 (T.drop q)).1) 6 0 i = nI q := by rw [putT_I, if_neg (by omega), if_neg (by omega)]; exact h6
    have p7 : (tok1 (T.drop q)).1 = 3 → gL (putT w2 i (tok1 (T.drop q)).1) 7 0 i = lN (kF 0 ((T.drop q).take (tok1 (T.drop q)).2)) := fun h => by rw [putT_L, if_pos ⟨rfl, rfl, rfl⟩]; exact b4 h
    have p8 : (tok1 (T.drop q)).1 = 4 → gI (putT w2 i (tok1 (T.drop q)).1) 8 0 i = nI (nV 0 ((T.drop q).take (tok1 (T.drop q)).2)) := fun h => by rw [putT_I, if_neg (by omega), if_pos ⟨rfl, rfl, rfl⟩]; exact b5 h
    have hFp := scf_tr (Nat.le_refl _) hF (scf_put (w := w2) (i := i) (k := (tok1 (T.drop q)).1))
    by_cases hend : (tok1 (T.drop q)).1 = 1 ∨ (tok1 (T.drop q)).1 = 2
    · rw [hscn, if_pos hend]
      refine ⟨0, putT w2 i (tok1 (T.drop q)).1, run _ ?_, hFp, kt_put (L := []) (fun j k s m e => by simp at e) ⟨fun _ _ _ _ _ => rfl, fun _ _ _ _ _ => rfl, fun _ _ _ _ => rfl, rfl⟩ p5 p6 p7 p8, by rw [putT_I]; simp⟩
      rcases hend with h | h
      · exact brT h rfl
      · exact brF (by omega) (brT h rfl)
    · have h1 : ¬ (tok1 (T.drop q)).1 = 1 := fun h => hend (Or.inl h)
      have h2 : ¬ (tok1 (T.drop q)).1 = 2 := fun h => hend (Or.inr h)
      have hc5 : gI (putT w2 i (tok1 (T.drop q)).1) 4 0 5 = nI (q + (tok1 (T.drop q)).2) := by rw [putT_I, if_neg (by omega), if_neg (by omega)]; exact b3 h1 h2
      obtain ⟨f', rfl⟩ : ∃ f', f = f' + 1 := ⟨f - 1, by omega⟩
      obtain ⟨t, w3, c1, c2, c3, c4⟩ := ih (i + 1) (q + (tok1 (T.drop q)).2) f' (putT w2 i (tok1 (T.drop q)).1) (by omega) (by omega) (tc_scf hT hFp) (by omega) hc5
      rw [hscn, if_neg hend]
      refine ⟨t, w3, run _ (brF h1 (brF h2 (sqT ?_))), scf_tr (by omega) hFp c2, kt_put c3 c2 p5 p6 p7 p8, ?_⟩
      · rw [nI_1]; exact c1
      · rw [c4]
        simp only [List.length_cons]
        congr 1
        omega
