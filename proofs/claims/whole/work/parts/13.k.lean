-- THE PURE PART: the reference's cut
def MT (L : List (Nat × Nat × Nat)) (i : Nat) (w : Mm) : Prop := ∀ j k s m, L[j]? = some (k, s, m) → gI w 34 0 (i + j) = mk k ∧ gI w 35 0 (i + j) = nI s ∧ (k ≠ 1 → k ≠ 2 → gI w 36 0 (i + j) = nI m) ∧ gI w 37 0 (i + j) = 0 ∧ gI w 38 0 (i + j) = 0
def MCF (i : Nat) (w w' : Mm) : Prop := (∀ c k j, ¬ (34 ≤ c ∧ c ≤ 38 ∧ k = 0 ∧ i ≤ j) → gI w' c k j = gI w c k j) ∧ w'.2 = w.2
theorem mcf_tr {i i' : Nat} {w w1 w2 : Mm} (hi : i ≤ i') (h : MCF i w w1) (g : MCF i' w1 w2) : MCF i w w2 := ⟨fun c k j q => (g.1 c k j (by omega)).trans (h.1 c k j q), g.2.trans h.2⟩
theorem tm_mcf {T : List Nat} {i : Nat} {w w' : Mm} (h : TM T w) (u : MCF i w w') : TM T w' := by
  obtain ⟨h1, h2, h3⟩ := h
  refine ⟨by rw [u.1 _ _ _ (by omega)]; exact h1, h2, fun j x e => ?_⟩
  rw [u.1 _ _ _ (by omega)]; exact h3 j x e
theorem mk_900 : ∀ k, 1 ≤ k → k ≤ 44 → (mk k < 900 ↔ k ≠ 1 ∧ k ≠ 2) ∧ (mk k = 900 ↔ k = 1) := by
  intro k h1 h2
  have : ∀ j, j < 44 → (mk (j + 1) < 900 ↔ j + 1 ≠ 1 ∧ j + 1 ≠ 2) ∧ (mk (j + 1) = 900 ↔ j + 1 = 1) := by decide +kernel
  have := this (k - 1) (by omega)
  rwa [show k - 1 + 1 = k by omega] at this
theorem mt_put {i k s m : Nat} {w w' : Mm} {L : List (Nat × Nat × Nat)} (h : MT L (i + 1) w') (u : MCF (i + 1) w w') (h4 : gI w 34 0 i = mk k) (h5 : gI w 35 0 i = nI s) (h6 : k ≠ 1 → k ≠ 2 → gI w 36 0 i = nI m) (h7 : gI w 37 0 i = 0) (h8 : gI w 38 0 i = 0) : MT ((k, s, m) :: L) i w' := by
  intro j k' s' m' e
  cases j with
  | zero =>
    cases e
    rw [Nat.add_zero, u.1 _ _ _ (by omega), u.1 _ _ _ (by omega), u.1 _ _ _ (by omega), u.1 _ _ _ (by omega), u.1 _ _ _ (by omega)]
    exact ⟨h4, h5, h6, h7, h8⟩
  | succ j =>
    have := h j k' s' m' (by simpa using e)
    rwa [show i + 1 + j = i + (j + 1) by omega] at this
theorem b_cut {T : List Nat} : ∀ (n i p f : Nat) (w : Mm), i + n + 1 = 401 → n < f → TM T w → p ≤ T.length → ∃ t w', f_X15_cut_L4 (f + 1) (nI i) (nI p) w = some (t, w') ∧ MCF i w w' ∧ MT (scn T (n + 1) i p) i w' := by
  intro n
  induction n with
  | zero =>
    intro i p f w hi hf hT hp
    have i4 : i = 400 := by omega
    subst i4
    have hsk := b_skip (z := nI 400) hT (T.drop p) p LF rfl hp (by have := hT.2.1; rw [List.length_drop]; unfold LF; omega)
    have hq : p + bl (T.drop p) ≤ T.length := by
      have := bl_le (T.drop p); rw [List.length_drop] at this; omega
    generalize hqq : p + bl (T.drop p) = q at hsk hq
    have hM0 : MCF 400 w (pI (pI (pI w 35 0 400 (nI q)) 37 0 400 0) 38 0 400 0) := ⟨fun c k j h => by rw [gI_pI, if_neg (by omega), gI_pI, if_neg (by omega), gI_pI, if_neg (by omega)], rfl⟩
    obtain ⟨w2, b1, b2, b3⟩ := b_kindAt (i := 400) (tm_mcf hT hM0) hq (by omega) rfl
    have hk := tok1_k (T.drop q)
    have hmk := mk_900 _ hk.1 hk.2
    have hv : vB (nI 400) 401 = true := by decide
    have hcl : (nI 400).toNatClampNeg = 400 := by decide
    have hscn : scn T (0 + 1) 400 p = [(if (tok1 (T.drop q)).1 = 1 then 1 else 2, q, (tok1 (T.drop q)).2)] := by
      simp only [scn, hqq]
      by_cases h1 : (tok1 (T.drop q)).1 = 1
      · rw [h1]; simp
      · simp [h1]
    have hF : ∀ v, MCF 400 w (pI w2 34 0 400 v) := fun v => mcf_tr (Nat.le_refl _) hM0 ⟨fun c k j h => by rw [gI_pI, if_neg (by omega), b2.1 _ _ _ (by omega)], b2.2⟩
    have hF2 : ∀ v v', MCF 400 w (pI (pI w2 34 0 400 v) 34 0 400 v') := fun v v' => mcf_tr (Nat.le_refl _) (hF v) ⟨fun c k j h => by rw [gI_pI, if_neg (by omega)], rfl⟩
    have g5 : gI w2 35 0 400 = nI q := by rw [b2.1 _ _ _ (by omega)]; simp [gI_pI]
    have g7 : gI w2 37 0 400 = 0 := by rw [b2.1 _ _ _ (by omega)]; simp [gI_pI]
    have g8 : gI w2 38 0 400 = 0 := by rw [b2.1 _ _ _ (by omega)]; simp [gI_pI]
    have e34 : ∀ v, gI (pI w2 34 0 400 v) 34 0 400 = v := fun v => by simp [gI_pI]
    rw [hscn]
    by_cases h1 : (tok1 (T.drop q)).1 = 1
    · refine ⟨0, pI w2 34 0 400 (mk 1), ?_, hF _, ?_⟩
      · rw [f_X15_cut_L4]
        refine brF (by decide) (bd1T hsk (gdT hv ?_))
        rw [hcl]
        refine sqT (gdT hv (sqT (gdT hv (sqT (bd1T b1 (gdT hv (sqT (brT rfl (gdT hv ?_)))))))))
        rw [h1, e34]
        exact brT (by decide) (gdT hv (brF (by decide) rfl))
      · rw [if_pos h1]
        exact mt_put (L := []) (w := pI w2 34 0 400 (mk 1)) (fun j k s m e => by simp at e) ⟨fun _ _ _ _ => rfl, rfl⟩ (e34 _) (by rw [gI_pI, if_neg (by omega)]; exact g5) (fun h => (h rfl).elim) (by rw [gI_pI, if_neg (by omega)]; exact g7) (by rw [gI_pI, if_neg (by omega)]; exact g8)
    · refine ⟨0, pI (pI w2 34 0 400 (mk (tok1 (T.drop q)).1)) 34 0 400 901, ?_, hF2 _ _, ?_⟩
      · rw [f_X15_cut_L4]
        refine brF (by decide) (bd1T hsk (gdT hv ?_))
        rw [hcl]
        refine sqT (gdT hv (sqT (gdT hv (sqT (bd1T b1 (gdT hv (sqT (brT rfl (gdT hv ?_)))))))))
        rw [e34]
        refine brF (fun h => h1 (hmk.2.mp h)) (gdT hv (sqT (gdT hv ?_)))
        have : gI (pI (pI w2 34 0 400 (mk (tok1 (T.drop q)).1)) 34 0 400 901) 34 0 400 = 901 := by simp [gI_pI]
        rw [this]
        exact brF (by decide) rfl
      · rw [if_neg h1]
        refine mt_put (L := []) (w := pI (pI w2 34 0 400 (mk (tok1 (T.drop q)).1)) 34 0 400 901) (fun j k s m e => by simp at e) ⟨fun _ _ _ _ => rfl, rfl⟩ (by simp [gI_pI]; rfl) ?_ (fun _ h => (h rfl).elim) ?_ ?_
        · rw [gI_pI, if_neg (by omega), gI_pI, if_neg (by omega)]; exact g5
        · rw [gI_pI, if_neg (by omega), gI_pI, if_neg (by omega)]; exact g7
        · rw [gI_pI, if_neg (by omega), gI_pI, if_neg (by omega)]; exact g8
  | succ n ih =>
    intro i p f w hi hf hT hp
    have hsk := b_skip (z := nI i) hT (T.drop p) p LF rfl hp (by have := hT.2.1; rw [List.length_drop]; unfold LF; omega)
    have hq : p + bl (T.drop p) ≤ T.length := by
      have := bl_le (T.drop p); rw [List.length_drop] at this; omega
    generalize hqq : p + bl (T.drop p) = q at hsk hq
    have hM0 : MCF i w (pI (pI (pI w 35 0 i (nI q)) 37 0 i 0) 38 0 i 0) := ⟨fun c k j h => by rw [gI_pI, if_neg (by omega), gI_pI, if_neg (by omega), gI_pI, if_neg (by omega)], rfl⟩
    obtain ⟨w2, b1, b2, b3⟩ := b_kindAt (i := i) (tm_mcf hT hM0) hq (by omega) rfl
    have hk := tok1_k (T.drop q)
    have hmk := mk_900 _ hk.1 hk.2
    have hr := tok1_r (T.drop q)
    rw [List.length_drop] at hr
    have hl := hT.2.1
    have hv : vB (nI i) 401 = true := (vB_nI (by omega)).mpr (by omega)
    have hcl : (nI i).toNatClampNeg = i := nI_clamp (by omega)
    have n400 : ¬ nI i = 400 := fun h => by
      have := (nI_eq (b := 400) (by omega) (by decide)).mp h
      omega
    have hscn : scn T (n + 1 + 1) i p = ((tok1 (T.drop q)).1, q, (tok1 (T.drop q)).2) :: (if (tok1 (T.drop q)).1 = 1 ∨ (tok1 (T.drop q)).1 = 2 then [] else scn T (n + 1) (i + 1) (q + (tok1 (T.drop q)).2)) := by
      have e4 : ¬ (i = 400 ∧ (tok1 (T.drop q)).1 ≠ 1) := by omega
      rw [scn, hqq, if_neg e4]
    have hF : MCF i w (pI w2 34 0 i (mk (tok1 (T.drop q)).1)) := mcf_tr (Nat.le_refl _) hM0 ⟨fun c k j h => by rw [gI_pI, if_neg (by omega), b2.1 _ _ _ (by omega)], b2.2⟩
    have g5 : gI (pI w2 34 0 i (mk (tok1 (T.drop q)).1)) 35 0 i = nI q := by rw [gI_pI, if_neg (by omega), b2.1 _ _ _ (by omega)]; simp [gI_pI]
    have g7 : gI (pI w2 34 0 i (mk (tok1 (T.drop q)).1)) 37 0 i = 0 := by rw [gI_pI, if_neg (by omega), b2.1 _ _ _ (by omega)]; simp [gI_pI]
    have g8 : gI (pI w2 34 0 i (mk (tok1 (T.drop q)).1)) 38 0 i = 0 := by rw [gI_pI, if_neg (by omega), b2.1 _ _ _ (by omega)]; simp [gI_pI]
    have g6 : (tok1 (T.drop q)).1 ≠ 1 → (tok1 (T.drop q)).1 ≠ 2 → gI (pI w2 34 0 i (mk (tok1 (T.drop q)).1)) 36 0 i = nI (tok1 (T.drop q)).2 := fun h1 h2 => by rw [gI_pI, if_neg (by omega)]; exact b3 h1 h2
    have e34 : gI (pI w2 34 0 i (mk (tok1 (T.drop q)).1)) 34 0 i = mk (tok1 (T.drop q)).1 := by simp [gI_pI]
    have run : ∀ x, br (mk (tok1 (T.drop q)).1 < 900) (gd (vB (nI i) 401) (sq (nI q + (gI (pI w2 34 0 i (mk (tok1 (T.drop q)).1)) 36 0 i)) (fun x21 => sq (nI i + 1) (fun x22 => f_X15_cut_L4 f x22 x21 (pI w2 34 0 i (mk (tok1 (T.drop q)).1)))))) (some ((0 : Nat), pI w2 34 0 i (mk (tok1 (T.drop q)).1))) = x → f_X15_cut_L4 (f + 1) (nI i) (nI p) w = x := by
      intro x hx
      rw [f_X15_cut_L4]
      refine brF (by (simp (disch := omega) only [lit_nI, nI_leI, nI_ltI, nI_eq, nI_clamp, nI_add, nI_sub, vB_nI, Nat.add_sub_cancel, Nat.reduceSub, Nat.reduceLT, Nat.reduceLeDiff, Nat.reduceAdd, gI_pI, p2_pI, Nat.reduceEqDiff, false_and, and_false, true_and, and_true, if_false, if_true, and_self] <;> omega)) (bd1T hsk (gdT hv ?_))
      rw [hcl]
      refine sqT (gdT hv (sqT (gdT hv (sqT (bd1T b1 (gdT hv (sqT (brF n400 (gdT hv ?_)))))))))
      rw [e34]
      exact hx
    by_cases hend : (tok1 (T.drop q)).1 = 1 ∨ (tok1 (T.drop q)).1 = 2
    · rw [hscn, if_pos hend]
      refine ⟨0, _, run _ (brF (fun h => ?_) rfl), hF, mt_put (L := []) (fun j k s m e => by simp at e) ⟨fun _ _ _ _ => rfl, rfl⟩ e34 g5 g6 g7 g8⟩
      have := hmk.1.mp h
      omega
    · have h1 : (tok1 (T.drop q)).1 ≠ 1 := fun h => hend (Or.inl h)
      have h2 : (tok1 (T.drop q)).1 ≠ 2 := fun h => hend (Or.inr h)
      obtain ⟨f', rfl⟩ : ∃ f', f = f' + 1 := ⟨f - 1, by omega⟩
      obtain ⟨t, w3, c1, c2, c3⟩ := ih (i + 1) (q + (tok1 (T.drop q)).2) f' (pI w2 34 0 i (mk (tok1 (T.drop q)).1)) (by omega) (by omega) (tm_mcf hT hF) (by omega)
      rw [hscn, if_neg hend]
      refine ⟨t, w3, run _ (brT (hmk.1.mpr ⟨h1, h2⟩) (gdT hv ?_)), mcf_tr (by omega) hF c2, mt_put c3 c2 e34 g5 g6 g7 g8⟩
      rw [g6 h1 h2, nI_add, nI_1]
      exact sqT (sqT c1)
def TKs (T : List Nat) : List (Nat × Nat × Nat) := scn T 401 0 0
theorem b_cut' {T : List Nat} {w : Mm} (hT : TM T w) : ∃ w', f_X15_cut w = some w' ∧ MCF 0 w w' ∧ MT (TKs T) 0 w' := by
  obtain ⟨t, w', h1, h2, h3⟩ := b_cut 400 0 0 999999 w rfl (by omega) hT (Nat.zero_le _)
  refine ⟨w', ?_, h2, h3⟩
  unfold f_X15_cut
  refine bd1T (x := t) (w := w') h1 ?_
  by_cases q : t = 0
  · exact brT q rfl
  · exact brF q rfl
theorem a_scan' {T : List Nat} {w : Mm} (hT : TC T w) : ∃ w', f_X11_scan w = some w' ∧ SCF 0 w w' ∧ KT T (TKs T) 0 w' ∧ gI w' 4 0 4 = nI ((TKs T).length - 1) := by
  obtain ⟨t, w', h1, h2, h3, h4⟩ := a_scan (T := T) 400 0 0 999999 (pI w 4 0 5 0) rfl (by omega) (tc_ck hT (ck_pI (Or.inl rfl))) (Nat.zero_le _) (by simp [gI_pI]; rfl)
  refine ⟨w', ?_, scf_tr (Nat.le_refl _) (scf_ck (ck_pI (Or.inl rfl))) h2, h3, by rw [h4, Nat.zero_add]; rfl⟩
  unfold f_X11_scan
  refine sqT (bd1T (x := t) (w := w') h1 ?_)
  by_cases q : t = 0
  · exact brT q rfl
  · exact brF q rfl
/-- a token's own facts -/
def tkR (T : List Nat) (k s m : Nat) : Prop := 1 ≤ k ∧ k ≤ 44 ∧ s ≤ T.length ∧ (k ≠ 1 → k ≠ 2 → s + m ≤ T.length) ∧ (k = 3 → 1 ≤ m ∧ m ≤ 10 ∧ ((T.drop s).take m).length = m ∧ ∀ c ∈ (T.drop s).take m, isWd c = true) ∧ (k = 4 → 1 ≤ m ∧ m ≤ 6 ∧ ((T.drop s).take m).length = m ∧ ∀ c ∈ (T.drop s).take m, isDg c = true)
theorem dl_dg : ∀ l : List Nat, ∀ c ∈ l.take (dl l), isDg c = true
  | [], c, h => by simp at h
  | d :: t, c, h => by
    have e : dl (d :: t) = if isDg d = true then dl t + 1 else 0 := rfl
    rw [e] at h
    by_cases q : isDg d = true
    · rw [if_pos q] at h
      simp only [List.take_succ_cons, List.mem_cons] at h
      rcases h with rfl | h
      · exact q
      · exact dl_dg t c h
    · rw [if_neg q] at h
      simp at h
theorem tok1_tkR {T : List Nat} {q : Nat} (hq : q ≤ T.length) : tkR T (tok1 (T.drop q)).1 q (tok1 (T.drop q)).2 := by
  have hk := tok1_k (T.drop q)
  have hr := tok1_r (T.drop q)
  rw [List.length_drop] at hr
  refine ⟨hk.1, hk.2, hq, fun h1 h2 => by omega, fun h => ?_, fun h => ?_⟩
  · cases e : T.drop q with
    | nil => rw [e] at h; cases h
    | cons c t =>
      rw [e] at h
      unfold tok1 at h ⊢
      simp only at h ⊢
      by_cases hl : isLt c = true
      · rw [if_pos hl] at h ⊢
        have hw : isWd c = true := by unfold isWd; rw [hl]; rfl
        have e0 : wl (c :: t) = wl t + 1 := by
          show (if isWd c = true then wl t + 1 else 0) = _
          rw [if_pos hw]
        by_cases h10 : wl (c :: t) ≤ 10
        · rw [if_pos h10]
          have hle := wl_le (c :: t)
          exact ⟨by simp only; omega, h10, by rw [List.length_take]; simp only; omega, wl_wd (c :: t)⟩
        · rw [if_neg h10] at h; cases h
      · rw [if_neg hl] at h
        exfalso
        by_cases hd : isDg c = true
        · rw [if_pos hd] at h
          split at h <;> cases h
        · rw [if_neg hd] at h
          rcases sy_r c (decide (t.head? = some 61)) with r | r
          · rw [r] at h; cases h
          · omega
  · cases e : T.drop q with
    | nil => rw [e] at h; cases h
    | cons c t =>
      rw [e] at h
      unfold tok1 at h ⊢
      simp only at h ⊢
      by_cases hl : isLt c = true
      · rw [if_pos hl] at h
        exfalso
        split at h
        · rcases wk_r ((c :: t).take (wl (c :: t))) with r | r <;> (simp only at h; omega)
        · cases h
      · rw [if_neg hl] at h ⊢
        by_cases hd : isDg c = true
        · rw [if_pos hd] at h ⊢
          have e0 : dl (c :: t) = dl t + 1 := by
            show (if isDg c = true then dl t + 1 else 0) = _
            rw [if_pos hd]
          by_cases h6 : dl (c :: t) ≤ 6
          · rw [if_pos h6]
            have hle := dl_le (c :: t)
            exact ⟨by simp only; omega, h6, by rw [List.length_take]; simp only; omega, dl_dg (c :: t)⟩
          · rw [if_neg h6] at h; cases h
        · rw [if_neg hd] at h
          exfalso
          rcases sy_r c (decide (t.head? = some 61)) with r | r
          · rw [r] at h; cases h
          · omega
theorem tkR_2 {T : List Nat} {q m : Nat} (hq : q ≤ T.length) : tkR T 2 q m := ⟨by omega, by omega, hq, fun _ h => (h rfl).elim, fun h => (by cases h), fun h => (by cases h)⟩
/-- the tokens: their number, the last one -/
theorem scn_r {T : List Nat} : ∀ (n i p : Nat), i + n + 1 = 401 → p ≤ T.length → (scn T (n + 1) i p).length ≤ n + 1 ∧ 1 ≤ (scn T (n + 1) i p).length ∧ ∀ j k s m, (scn T (n + 1) i p)[j]? = some (k, s, m) → tkR T k s m ∧ ((k = 1 ∨ k = 2) ↔ j + 1 = (scn T (n + 1) i p).length) := by
  intro n
  induction n with
  | zero =>
    intro i p hi hp
    have i4 : i = 400 := by omega
    subst i4
    have hq : p + bl (T.drop p) ≤ T.length := by
      have := bl_le (T.drop p); rw [List.length_drop] at this; omega
    have hr := tok1_tkR hq
    generalize hqq : p + bl (T.drop p) = q at hq hr
    have hscn : scn T (0 + 1) 400 p = [(if (tok1 (T.drop q)).1 = 1 then 1 else 2, q, (tok1 (T.drop q)).2)] := by
      simp only [scn, hqq]
      by_cases h1 : (tok1 (T.drop q)).1 = 1
      · rw [h1]; simp
      · simp [h1]
    rw [hscn]
    refine ⟨by simp, by simp, fun j k s m e => ?_⟩
    cases j with
    | succ j => simp at e
    | zero =>
      cases e
      by_cases h1 : (tok1 (T.drop q)).1 = 1
      · rw [if_pos h1]
        rw [h1] at hr
        exact ⟨hr, by simp⟩
      · rw [if_neg h1]
        exact ⟨tkR_2 hq, by simp⟩
  | succ n ih =>
    intro i p hi hp
    have hq : p + bl (T.drop p) ≤ T.length := by
      have := bl_le (T.drop p); rw [List.length_drop] at this; omega
    have hr := tok1_tkR hq
    have hrr := tok1_r (T.drop (p + bl (T.drop p)))
    rw [List.length_drop] at hrr
    generalize hqq : p + bl (T.drop p) = q at hq hr hrr
    have hscn : scn T (n + 1 + 1) i p = ((tok1 (T.drop q)).1, q, (tok1 (T.drop q)).2) :: (if (tok1 (T.drop q)).1 = 1 ∨ (tok1 (T.drop q)).1 = 2 then [] else scn T (n + 1) (i + 1) (q + (tok1 (T.drop q)).2)) := by
      have e4 : ¬ (i = 400 ∧ (tok1 (T.drop q)).1 ≠ 1) := by omega
      rw [scn, hqq, if_neg e4]
    rw [hscn]
    by_cases hend : (tok1 (T.drop q)).1 = 1 ∨ (tok1 (T.drop q)).1 = 2
    · rw [if_pos hend]
      refine ⟨by simp, by simp, fun j k s m e => ?_⟩
      cases j with
      | succ j => simp at e
      | zero =>
        cases e
        exact ⟨hr, by simp [hend]⟩
    · rw [if_neg hend]
      obtain ⟨h1, h2, h3⟩ := ih (i + 1) (q + (tok1 (T.drop q)).2) (by omega) (by omega)
      refine ⟨by simp only [List.length_cons]; omega, by simp only [List.length_cons]; omega, fun j k s m e => ?_⟩
      cases j with
      | zero =>
        cases e
        refine ⟨hr, ⟨fun h => (hend h).elim, fun h => ?_⟩⟩
        simp only [List.length_cons] at h
        omega
      | succ j =>
        obtain ⟨g1, g2⟩ := h3 j k s m (by simpa using e)
        refine ⟨g1, ?_⟩
        rw [g2]
        simp only [List.length_cons]
        omega
