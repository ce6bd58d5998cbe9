-- THE PURE PART: characters and words
def isLt (c : Nat) : Bool := decide (97 ≤ c) && decide (c ≤ 122)
def isDg (c : Nat) : Bool := decide (48 ≤ c) && decide (c ≤ 57)
def isWd (c : Nat) : Bool := isLt c || isDg c
def wl : List Nat → Nat
  | [] => 0
  | c :: t => if isWd c then wl t + 1 else 0
def dl : List Nat → Nat
  | [] => 0
  | c :: t => if isDg c then dl t + 1 else 0
def bl : List Nat → Nat
  | [] => 0
  | c :: t => if c = 32 ∨ c = 10 then bl t + 1 else 0
def cd (c : Nat) : Nat := if 97 ≤ c then c - 96 else c - 48 + 27
def kF (k : Nat) : List Nat → Nat
  | [] => k
  | c :: t => kF (k * 64 + cd c) t
def nV (v : Nat) : List Nat → Nat
  | [] => v
  | c :: t => nV (v * 10 + (c - 48)) t
def ch (T : List Nat) (p : Nat) : Int32 := match T.drop p with
  | [] => -1
  | c :: _ => nI c
theorem isWd_c {c : Nat} (h : isWd c = true) : (97 ≤ c ∧ c ≤ 122) ∨ (48 ≤ c ∧ c ≤ 57) := by
  simp only [isWd, isLt, isDg, Bool.or_eq_true, Bool.and_eq_true, decide_eq_true_eq] at h; exact h
theorem cd_r {c : Nat} (h : isWd c = true) : 1 ≤ cd c ∧ cd c < 64 := by
  have := isWd_c h
  unfold cd; split <;> omega
theorem cd_i {c d : Nat} (h : isWd c = true) (g : isWd d = true) (e : cd c = cd d) : c = d := by
  have := isWd_c h
  have := isWd_c g
  unfold cd at e; split at e <;> split at e <;> omega
def TC (T : List Nat) (w : Mm) : Prop := gI w 2 0 1 = nI T.length ∧ T.length ≤ 2000 ∧ ∀ j x, T[j]? = some x → gI w 3 0 j &&& 255 = nI x ∧ x < 256
theorem ch_nil {T : List Nat} {p : Nat} (h : T.drop p = []) : ch T p = -1 := by unfold ch; rw [h]
theorem ch_cons {T : List Nat} {p c : Nat} {t : List Nat} (h : T.drop p = c :: t) : ch T p = nI c := by unfold ch; rw [h]
theorem dr_cons {T : List Nat} {p c : Nat} {t : List Nat} (h : T.drop p = c :: t) : T[p]? = some c ∧ p < T.length ∧ T.drop (p + 1) = t := by
  have h0 : T[p]? = some c := by
    have := congrArg List.head? h
    rwa [List.head?_drop] at this
  refine ⟨h0, (List.getElem?_eq_some_iff.mp h0).1, ?_⟩
  have := congrArg List.tail h
  rwa [List.tail_drop] at this
theorem a_at {T : List Nat} {p : Nat} {w : Mm} (h : TC T w) (hp : p < 2 ^ 31) : f_X10_at (nI p) w = some (ch T p, w) := by
  obtain ⟨h1, h2, h3⟩ := h
  unfold f_X10_at
  rw [h1]
  cases e : T.drop p with
  | nil =>
    have := drop_nil e
    rw [ch_nil e]
    exact brF (nI_pos hp) (brT (by rw [nI_leI (by omega) hp]; exact this) rfl)
  | cons c t =>
    obtain ⟨e1, e2, e3⟩ := dr_cons e
    rw [ch_cons e]
    refine brF (nI_pos hp) (brF (by rw [nI_leI (by omega) hp]; omega) (brT (by (simp (disch := omega) only [lit_nI, nI_leI, nI_ltI, nI_eq, nI_clamp, nI_add, nI_sub, vB_nI, Nat.add_sub_cancel, Nat.reduceSub, Nat.reduceLT, Nat.reduceLeDiff, Nat.reduceAdd, gI_pI, p2_pI, Nat.reduceEqDiff, false_and, and_false, true_and, and_true, if_false, if_true, and_self] <;> omega)) (gdT ((vB_nI hp).mpr (by omega)) ?_)))
    rw [nI_clamp hp, (h3 p c e1).1]
theorem tc_lt {T : List Nat} {p c : Nat} {t : List Nat} {w : Mm} (h : TC T w) (e : T.drop p = c :: t) : c < 256 := (h.2.2 p c (dr_cons e).1).2
theorem a_isL {c : Nat} {w : Mm} (h : c < 256) : f_X11_isLetter (nI c) w = some (bI (isLt c), w) := by
  unfold f_X11_isLetter isLt
  by_cases q : 97 ≤ c
  · by_cases q2 : c ≤ 122
    · rw [decide_eq_true q, decide_eq_true q2]; exact brF (by (simp (disch := omega) only [lit_nI, nI_leI, nI_ltI, nI_eq, nI_clamp, nI_add, nI_sub, vB_nI, Nat.add_sub_cancel, Nat.reduceSub, Nat.reduceLT, Nat.reduceLeDiff, Nat.reduceAdd, gI_pI, p2_pI, Nat.reduceEqDiff, false_and, and_false, true_and, and_true, if_false, if_true, and_self] <;> omega)) (brF (by (simp (disch := omega) only [lit_nI, nI_leI, nI_ltI, nI_eq, nI_clamp, nI_add, nI_sub, vB_nI, Nat.add_sub_cancel, Nat.reduceSub, Nat.reduceLT, Nat.reduceLeDiff, Nat.reduceAdd, gI_pI, p2_pI, Nat.reduceEqDiff, false_and, and_false, true_and, and_true, if_false, if_true, and_self] <;> omega)) rfl)
    · rw [decide_eq_true q, decide_eq_false q2]; exact brF (by (simp (disch := omega) only [lit_nI, nI_leI, nI_ltI, nI_eq, nI_clamp, nI_add, nI_sub, vB_nI, Nat.add_sub_cancel, Nat.reduceSub, Nat.reduceLT, Nat.reduceLeDiff, Nat.reduceAdd, gI_pI, p2_pI, Nat.reduceEqDiff, false_and, and_false, true_and, and_true, if_false, if_true, and_self] <;> omega)) (brT (by (simp (disch := omega) only [lit_nI, nI_leI, nI_ltI, nI_eq, nI_clamp, nI_add, nI_sub, vB_nI, Nat.add_sub_cancel, Nat.reduceSub, Nat.reduceLT, Nat.reduceLeDiff, Nat.reduceAdd, gI_pI, p2_pI, Nat.reduceEqDiff, false_and, and_false, true_and, and_true, if_false, if_true, and_self] <;> omega)) rfl)
  · rw [decide_eq_false q]; exact brT (by (simp (disch := omega) only [lit_nI, nI_leI, nI_ltI, nI_eq, nI_clamp, nI_add, nI_sub, vB_nI, Nat.add_sub_cancel, Nat.reduceSub, Nat.reduceLT, Nat.reduceLeDiff, Nat.reduceAdd, gI_pI, p2_pI, Nat.reduceEqDiff, false_and, and_false, true_and, and_true, if_false, if_true, and_self] <;> omega)) rfl
theorem a_isD {c : Nat} {w : Mm} (h : c < 256) : f_X11_isDigit (nI c) w = some (bI (isDg c), w) := by
  unfold f_X11_isDigit isDg
  by_cases q : 48 ≤ c
  · by_cases q2 : c ≤ 57
    · rw [decide_eq_true q, decide_eq_true q2]; exact brF (by (simp (disch := omega) only [lit_nI, nI_leI, nI_ltI, nI_eq, nI_clamp, nI_add, nI_sub, vB_nI, Nat.add_sub_cancel, Nat.reduceSub, Nat.reduceLT, Nat.reduceLeDiff, Nat.reduceAdd, gI_pI, p2_pI, Nat.reduceEqDiff, false_and, and_false, true_and, and_true, if_false, if_true, and_self] <;> omega)) (brF (by (simp (disch := omega) only [lit_nI, nI_leI, nI_ltI, nI_eq, nI_clamp, nI_add, nI_sub, vB_nI, Nat.add_sub_cancel, Nat.reduceSub, Nat.reduceLT, Nat.reduceLeDiff, Nat.reduceAdd, gI_pI, p2_pI, Nat.reduceEqDiff, false_and, and_false, true_and, and_true, if_false, if_true, and_self] <;> omega)) rfl)
    · rw [decide_eq_true q, decide_eq_false q2]; exact brF (by (simp (disch := omega) only [lit_nI, nI_leI, nI_ltI, nI_eq, nI_clamp, nI_add, nI_sub, vB_nI, Nat.add_sub_cancel, Nat.reduceSub, Nat.reduceLT, Nat.reduceLeDiff, Nat.reduceAdd, gI_pI, p2_pI, Nat.reduceEqDiff, false_and, and_false, true_and, and_true, if_false, if_true, and_self] <;> omega)) (brT (by (simp (disch := omega) only [lit_nI, nI_leI, nI_ltI, nI_eq, nI_clamp, nI_add, nI_sub, vB_nI, Nat.add_sub_cancel, Nat.reduceSub, Nat.reduceLT, Nat.reduceLeDiff, Nat.reduceAdd, gI_pI, p2_pI, Nat.reduceEqDiff, false_and, and_false, true_and, and_true, if_false, if_true, and_self] <;> omega)) rfl)
  · rw [decide_eq_false q]; exact brT (by (simp (disch := omega) only [lit_nI, nI_leI, nI_ltI, nI_eq, nI_clamp, nI_add, nI_sub, vB_nI, Nat.add_sub_cancel, Nat.reduceSub, Nat.reduceLT, Nat.reduceLeDiff, Nat.reduceAdd, gI_pI, p2_pI, Nat.reduceEqDiff, false_and, and_false, true_and, and_true, if_false, if_true, and_self] <;> omega)) rfl
theorem a_isLm {w : Mm} : f_X11_isLetter (-1) w = some (0, w) := rfl
theorem a_isDm {w : Mm} : f_X11_isDigit (-1) w = some (0, w) := rfl
theorem a_isW {c : Nat} {w : Mm} (h : c < 256) : f_X11_isInWord (nI c) w = some (bI (isWd c), w) := by
  unfold f_X11_isInWord
  refine bd1T (a_isL h) ?_
  unfold isWd
  cases isLt c
  · refine brT rfl (bd1T (a_isD h) ?_)
    cases isDg c
    · exact brT rfl rfl
    · exact brF (by decide) rfl
  · exact brF (by decide) rfl
theorem a_isWm {w : Mm} : f_X11_isInWord (-1) w = some (0, w) := by
  unfold f_X11_isInWord
  exact bd1T a_isLm (brT rfl (bd1T a_isDm (brT rfl rfl)))
theorem key_step {k c : Nat} (hk : k < 2 ^ 54) (hc : c < 64) : (lN k <<< ((6 : Int32).toInt64 &&& 63)) ||| (nI c).toInt64 = lN (k * 64 + c) := by
  rw [nI_l (by omega), show ((6 : Int32).toInt64 &&& 63) = 6 by decide]
  apply Int64.toBitVec_inj.mp
  rw [Int64.toBitVec_or, Int64.toBitVec_shiftLeft]
  show (BitVec.ofNat 64 k) <<< ((6 : Int64).toBitVec.smod 64) ||| BitVec.ofNat 64 c = BitVec.ofNat 64 (k * 64 + c)
  rw [show ((6 : Int64).toBitVec.smod 64) = 6#64 by decide]
  apply BitVec.eq_of_toNat_eq
  rw [BitVec.toNat_or, BitVec.shiftLeft_eq', BitVec.toNat_shiftLeft]
  simp only [BitVec.toNat_ofNat]
  rw [show 6 % 2 ^ 64 = 6 from rfl, Nat.mod_eq_of_lt (show k < 2 ^ 64 by omega), Nat.mod_eq_of_lt (show c < 2 ^ 64 by omega), Nat.mod_eq_of_lt (show k * 64 + c < 2 ^ 64 by omega)]
  have e : k <<< 6 = k * 64 := by rw [Nat.shiftLeft_eq]
  rw [Nat.mod_eq_of_lt (show k <<< 6 < 2 ^ 64 by rw [e]; omega), ← Nat.shiftLeft_add_eq_or_of_lt (show c < 2 ^ 6 by omega), e]
theorem a_key {k c : Nat} {w : Mm} (hk : k < 2 ^ 54) (hc : isWd c = true) : f_X4_longerKey (lN k) (nI c) w = some (lN (k * 64 + cd c), w) := by
  have hr := isWd_c hc
  have h2 := cd_r hc
  unfold f_X4_longerKey
  by_cases q : 97 ≤ c
  · have e : (nI c - 97) + 1 = nI (cd c) := by
      unfold cd
      rw [if_pos q, show (97 : Int32) = nI 97 from rfl, nI_sub q, show (1 : Int32) = nI 1 from rfl, nI_add]
      congr 1; omega
    refine brF (by (simp (disch := omega) only [lit_nI, nI_leI, nI_ltI, nI_eq, nI_clamp, nI_add, nI_sub, vB_nI, Nat.add_sub_cancel, Nat.reduceSub, Nat.reduceLT, Nat.reduceLeDiff, Nat.reduceAdd, gI_pI, p2_pI, Nat.reduceEqDiff, false_and, and_false, true_and, and_true, if_false, if_true, and_self] <;> omega)) (sqT ?_)
    rw [e, key_step hk h2.2]
  · have e : (nI c - 48) + 27 = nI (cd c) := by
      unfold cd
      rw [if_neg q, show (48 : Int32) = nI 48 from rfl, nI_sub (by omega), show (27 : Int32) = nI 27 from rfl, nI_add]
    refine brT (by (simp (disch := omega) only [lit_nI, nI_leI, nI_ltI, nI_eq, nI_clamp, nI_add, nI_sub, vB_nI, Nat.add_sub_cancel, Nat.reduceSub, Nat.reduceLT, Nat.reduceLeDiff, Nat.reduceAdd, gI_pI, p2_pI, Nat.reduceEqDiff, false_and, and_false, true_and, and_true, if_false, if_true, and_self] <;> omega)) (sqT ?_)
    rw [e, key_step hk h2.2]
-- what the class's lexer may touch
def CK (w w' : Mm) : Prop := (∀ c k i, ¬ (c = 4 ∧ k = 0 ∧ (i = 5 ∨ i = 7)) → gI w' c k i = gI w c k i) ∧ (∀ c k i, ¬ (c = 4 ∧ k = 0 ∧ i = 6) → gL w' c k i = gL w c k i) ∧ w'.2.2 = w.2.2
theorem ck_rf {w : Mm} : CK w w := ⟨fun _ _ _ _ => rfl, fun _ _ _ _ => rfl, rfl⟩
theorem ck_tr {w w1 w2 : Mm} (h : CK w w1) (g : CK w1 w2) : CK w w2 := ⟨fun c k i q => (g.1 c k i q).trans (h.1 c k i q), fun c k i q => (g.2.1 c k i q).trans (h.2.1 c k i q), g.2.2.trans h.2.2⟩
theorem ck_pI {w : Mm} {i : Nat} {v : Int32} (h : i = 5 ∨ i = 7) : CK w (pI w 4 0 i v) := ⟨fun c k j q => by rw [gI_pI, if_neg]; rintro ⟨rfl, rfl, rfl⟩; exact q ⟨rfl, rfl, h⟩, fun _ _ _ _ => rfl, rfl⟩
theorem gL_pL {w : Mm} {c k i : Nat} {v : Int64} {c' k' i' : Nat} : gL (pL w c k i v) c' k' i' = if c' = c ∧ k' = k ∧ i' = i then v else gL w c' k' i' := rfl
theorem ck_pL {w : Mm} {v : Int64} : CK w (pL w 4 0 6 v) := ⟨fun _ _ _ _ => rfl, fun c k j q => by rw [gL_pL, if_neg q], rfl⟩
theorem tc_ck {T : List Nat} {w w' : Mm} (h : TC T w) (u : CK w w') : TC T w' := by
  obtain ⟨h1, h2, h3⟩ := h
  refine ⟨by rw [u.1 _ _ _ (by omega)]; exact h1, h2, fun j x e => ?_⟩
  rw [u.1 _ _ _ (by omega)]; exact h3 j x e
theorem a_skip {T : List Nat} : ∀ (l : List Nat) (p n : Nat) (w : Mm), T.drop p = l → p ≤ T.length → l.length < n → TC T w → gI w 4 0 5 = nI p → ∃ w', f_X11_skipBlanks_L0 n w = some w' ∧ gI w' 4 0 5 = nI (p + bl l) ∧ CK w w'
  | [], p, n + 1, w, e, hp, hn, hT, h5 => by
    have := drop_nil e
    have hl := hT.2.1
    refine ⟨w, ?_, h5, ck_rf⟩
    rw [f_X11_skipBlanks_L0, h5, hT.1]
    exact brT (nI_le (by omega) (by omega)) rfl
  | c :: t, p, n + 1, w, e, hp, hn, hT, h5 => by
    obtain ⟨e1, e2, e3⟩ := dr_cons e
    have hl := hT.2.1
    have hc := tc_lt hT e
    have hat := a_at hT (p := p) (by omega)
    rw [ch_cons e] at hat
    simp only [List.length_cons] at hn
    by_cases q : c = 32 ∨ c = 10
    · obtain ⟨w', h1, h2, h3⟩ := a_skip t (p + 1) n (pI w 4 0 5 (nI (p + 1))) e3 (by omega) (by omega) (tc_ck hT (ck_pI (Or.inl rfl))) (by simp [gI_pI])
      refine ⟨w', ?_, ?_, ck_tr (ck_pI (Or.inl rfl)) h3⟩
      · rw [f_X11_skipBlanks_L0, h5, hT.1]
        refine brF (by rw [nI_leI (by omega) (by omega)]; omega) (bd1T hat ?_)
        by_cases q1 : c = 32
        · subst q1
          refine brT rfl ?_
          rw [h5, nI_1]
          exact sqT h1
        · have q2 : c = 10 := by omega
          subst q2
          refine brF (by decide) ?_
          rw [h5]
          refine bd1T hat (brT rfl ?_)
          rw [h5, nI_1]
          exact sqT h1
      · rw [h2, show bl (c :: t) = if c = 32 ∨ c = 10 then bl t + 1 else 0 from rfl, if_pos q]
        congr 1; omega
    · refine ⟨w, ?_, ?_, ck_rf⟩
      · rw [f_X11_skipBlanks_L0, h5, hT.1]
        have n32 : ¬ nI c = 32 := fun h => q (Or.inl ((nI_eq (b := 32) (by omega) (by decide)).mp h))
        have n10 : ¬ nI c = 10 := fun h => q (Or.inr ((nI_eq (b := 10) (by omega) (by decide)).mp h))
        refine brF (by rw [nI_leI (by omega) (by omega)]; omega) (bd1T hat (brF n32 ?_))
        rw [h5]
        exact bd1T hat (brF n10 rfl)
      · rw [show bl (c :: t) = if c = 32 ∨ c = 10 then bl t + 1 else 0 from rfl, if_neg q]; exact h5
theorem a_word {T : List Nat} : ∀ (l : List Nat) (p m k n : Nat) (w : Mm), T.drop p = l → p ≤ T.length → m ≤ 11 → k < 64 ^ m → l.length + 1 < n → TC T w → gI w 4 0 5 = nI p → gL w 4 0 6 = lN k →
    ∃ w' y, f_X11_word_L7 n (nI m) w = some (y, w') ∧ CK w w' ∧ gI w' 4 0 7 = gI w 4 0 7 ∧ (m + wl l ≤ 10 → y = nI (m + wl l) ∧ gI w' 4 0 5 = nI (p + wl l) ∧ gL w' 4 0 6 = lN (kF k (l.take (wl l)))) ∧ (10 < m + wl l → y = nI 11)
  | l, p, m, k, n + 1, w, e, hp, hm, hk, hn, hT, h5, h6 => by
    have hl := hT.2.1
    by_cases m11 : m = 11
    · subst m11
      refine ⟨w, nI 11, ?_, ck_rf, rfl, fun q => by omega, fun _ => rfl⟩
      rw [f_X11_word_L7]
      exact brT (by decide) rfl
    · cases l with
      | nil =>
        have hat := a_at hT (p := p) (by omega)
        rw [ch_nil e] at hat
        refine ⟨w, nI m, ?_, ck_rf, rfl, fun q => ⟨rfl, h5, h6⟩, fun q => by simp only [wl] at q; omega⟩
        rw [f_X11_word_L7, h5]
        exact brF (by (simp (disch := omega) only [lit_nI, nI_leI, nI_ltI, nI_eq, nI_clamp, nI_add, nI_sub, vB_nI, Nat.add_sub_cancel, Nat.reduceSub, Nat.reduceLT, Nat.reduceLeDiff, Nat.reduceAdd, gI_pI, p2_pI, Nat.reduceEqDiff, false_and, and_false, true_and, and_true, if_false, if_true, and_self] <;> omega)) (bd1T hat (bd1T a_isWm (brT rfl rfl)))
      | cons c t =>
        obtain ⟨e1, e2, e3⟩ := dr_cons e
        have hc := tc_lt hT e
        have hat := a_at hT (p := p) (by omega)
        rw [ch_cons e] at hat
        simp only [List.length_cons] at hn
        cases q : isWd c with
        | false =>
          have e0 : wl (c :: t) = 0 := by unfold wl; rw [q]; rfl
          have hw := a_isW (w := w) hc
          rw [q] at hw
          refine ⟨w, nI m, ?_, ck_rf, rfl, fun _ => ⟨by rw [e0]; rfl, by rw [e0]; exact h5, by rw [e0]; exact h6⟩, fun q => by rw [e0] at q; omega⟩
          rw [f_X11_word_L7, h5]
          exact brF (by (simp (disch := omega) only [lit_nI, nI_leI, nI_ltI, nI_eq, nI_clamp, nI_add, nI_sub, vB_nI, Nat.add_sub_cancel, Nat.reduceSub, Nat.reduceLT, Nat.reduceLeDiff, Nat.reduceAdd, gI_pI, p2_pI, Nat.reduceEqDiff, false_and, and_false, true_and, and_true, if_false, if_true, and_self] <;> omega)) (bd1T hat (bd1T hw (brT rfl rfl)))
        | true =>
          have e0 : wl (c :: t) = wl t + 1 := by
            show (if isWd c = true then wl t + 1 else 0) = _
            rw [if_pos q]
          have hw := a_isW (w := w) hc
          rw [q] at hw
          have hcd := cd_r q
          have hk54 : k < 2 ^ 54 ∨ m = 10 := by
            by_cases h10 : m = 10
            · exact Or.inr h10
            · refine Or.inl (Nat.lt_of_lt_of_le hk ?_)
              have : (64 : Nat) ^ m ≤ 64 ^ 9 := Nat.pow_le_pow_right (by decide) (by omega)
              exact Nat.le_trans this (by decide)
          by_cases h10 : m = 10
          · -- the eleventh sign: what becomes of the key doesn't matter
            subst h10
            obtain ⟨v, hv⟩ : ∃ v, f_X4_longerKey (lN k) (nI c) w = some (v, w) := by
              unfold f_X4_longerKey
              by_cases q9 : nI c < 97
              · exact ⟨_, brT q9 rfl⟩
              · exact ⟨_, brF q9 rfl⟩
            refine ⟨_, nI 11, ?_, ck_tr (ck_pL (v := v)) (ck_pI (i := 5) (v := nI (p + 1)) (Or.inl rfl)), by rw [gI_pI, if_neg (by omega)]; rfl, fun q => by omega, fun _ => rfl⟩
            rw [f_X11_word_L7, h5]
            have e5 : gI (pL w 4 0 6 v) 4 0 5 = nI p := h5
            refine brF (by decide) (bd1T hat (bd1T hw (brF (by decide) ?_)))
            rw [h5]
            refine bd1T hat ?_
            rw [h6]
            refine bd1T hv (sqT (sqT ?_))
            rw [e5, nI_1]
            refine sqT ?_
            obtain ⟨n', rfl⟩ : ∃ n', n = n' + 1 := ⟨n - 1, by omega⟩
            rw [f_X11_word_L7]
            exact brT (by decide) rfl
          · have hkk := hk54.resolve_right h10
            have hstep := a_key (w := w) hkk q
            obtain ⟨w', y, g1, g2, g3, g4, g5⟩ := a_word t (p + 1) (m + 1) (k * 64 + cd c) n (pI (pL w 4 0 6 (lN (k * 64 + cd c))) 4 0 5 (nI (p + 1))) e3 (by omega) (by omega) (by rw [Nat.pow_succ]; omega) (by omega) (tc_ck (tc_ck hT ck_pL) (ck_pI (Or.inl rfl))) (by simp [gI_pI]) (by
              show gL (pL w 4 0 6 (lN (k * 64 + cd c))) 4 0 6 = _
              rw [gL_pL, if_pos ⟨rfl, rfl, rfl⟩])
            refine ⟨w', y, ?_, ck_tr (ck_tr ck_pL (ck_pI (Or.inl rfl))) g2, ?_, fun qq => ?_, fun qq => g5 (by rw [e0] at qq; omega)⟩
            · rw [f_X11_word_L7, h5]
              have e5 : gI (pL w 4 0 6 (lN (k * 64 + cd c))) 4 0 5 = nI p := h5
              refine brF (by (simp (disch := omega) only [lit_nI, nI_leI, nI_ltI, nI_eq, nI_clamp, nI_add, nI_sub, vB_nI, Nat.add_sub_cancel, Nat.reduceSub, Nat.reduceLT, Nat.reduceLeDiff, Nat.reduceAdd, gI_pI, p2_pI, Nat.reduceEqDiff, false_and, and_false, true_and, and_true, if_false, if_true, and_self] <;> omega)) (bd1T hat (bd1T hw (brF (by decide) ?_)))
              rw [h5]
              refine bd1T hat ?_
              rw [h6]
              refine bd1T hstep (sqT (sqT ?_))
              rw [e5, nI_1, nI_1]
              exact sqT g1
            · rw [g3, gI_pI, if_neg (by omega)]; rfl
            · rw [e0] at qq
              obtain ⟨r1, r2, r3⟩ := g4 (by omega)
              rw [e0]
              refine ⟨by rw [r1]; congr 1; omega, by rw [r2]; congr 1; omega, ?_⟩
              rw [r3]
              rfl
