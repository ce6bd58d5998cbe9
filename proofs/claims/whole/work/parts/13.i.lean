-- THE PURE PART: tokens of the reference
def TM (T : List Nat) (w : Mm) : Prop := gI w 32 0 2 = nI T.length ∧ T.length ≤ 2000 ∧ ∀ j x, T[j]? = some x → gI w 33 0 j = nI x ∧ x < 256
theorem b_at {T : List Nat} {p : Nat} {w : Mm} (h : TM T w) (hp : p < 2 ^ 31) : f_X15_byteOf (nI p) w = some (ch T p, w) := by
  obtain ⟨h1, h2, h3⟩ := h
  unfold f_X15_byteOf
  rw [h1]
  cases e : T.drop p with
  | nil =>
    have := drop_nil e
    rw [ch_nil e]
    exact brT (by rw [nI_leI (by omega) hp]; exact this) rfl
  | cons c t =>
    obtain ⟨e1, e2, e3⟩ := dr_cons e
    rw [ch_cons e]
    refine brF (by rw [nI_leI (by omega) hp]; omega) (gdT ((vB_nI hp).mpr (by omega)) ?_)
    rw [nI_clamp hp, (h3 p c e1).1]
theorem tm_lt {T : List Nat} {p c : Nat} {t : List Nat} {w : Mm} (h : TM T w) (e : T.drop p = c :: t) : c < 256 := (h.2.2 p c (dr_cons e).1).2
theorem b_isLt {c : Nat} {w : Mm} (h : c < 256) : f_X15_isLetter (nI c) w = some (bI (isLt c), w) := a_isL h
theorem b_isDg {c : Nat} {w : Mm} (h : c < 256) : f_X15_isDigit (nI c) w = some (bI (isDg c), w) := a_isD h
theorem b_isLm {w : Mm} : f_X15_isLetter (-1) w = some (0, w) := rfl
theorem b_isDm {w : Mm} : f_X15_isDigit (-1) w = some (0, w) := rfl
theorem b_skip {T : List Nat} {w : Mm} {z : Int32} (hT : TM T w) : ∀ (l : List Nat) (p n : Nat), T.drop p = l → p ≤ T.length → l.length < n → f_X15_cut_L11 z n (nI p) w = some (nI (p + bl l), w)
  | [], p, n + 1, e, hp, hn => by
    have hat := b_at hT (p := p) (by have := hT.2.1; omega)
    rw [ch_nil e] at hat
    rw [f_X15_cut_L11]
    exact bd1T hat (brF (by decide) (bd1T hat (brF (by decide) rfl)))
  | c :: t, p, n + 1, e, hp, hn => by
    obtain ⟨e1, e2, e3⟩ := dr_cons e
    have hl := hT.2.1
    have hc := tm_lt hT e
    have hat := b_at hT (p := p) (by omega)
    rw [ch_cons e] at hat
    simp only [List.length_cons] at hn
    rw [show bl (c :: t) = if c = 32 ∨ c = 10 then bl t + 1 else 0 from rfl, f_X15_cut_L11]
    by_cases q : c = 32 ∨ c = 10
    · have ih := b_skip (z := z) hT t (p + 1) n e3 (by omega) (by omega)
      rw [if_pos q, show p + (bl t + 1) = p + 1 + bl t by omega, ← ih]
      by_cases q1 : c = 32
      · subst q1
        refine bd1T hat (brT rfl (sqT ?_))
        rw [nI_1]
      · have q2 : c = 10 := by omega
        subst q2
        refine bd1T hat (brF (by decide) (bd1T hat (brT rfl (sqT ?_))))
        rw [nI_1]
    · have n32 : ¬ nI c = 32 := fun h => q (Or.inl ((nI_eq (b := 32) (by omega) (by decide)).mp h))
      have n10 : ¬ nI c = 10 := fun h => q (Or.inr ((nI_eq (b := 10) (by omega) (by decide)).mp h))
      rw [if_neg q]
      exact bd1T hat (brF n32 (bd1T hat (brF n10 rfl)))
theorem b_end34 {T : List Nat} {w : Mm} {d : Nat} {z1 z2 : Int32} (hT : TM T w) (hd : d < 256) (hld : isLt d = true ∨ isDg d = true) : ∀ (l : List Nat) (p n : Nat), T.drop p = l → p ≤ T.length → l.length < n → f_X15_kindAt_L34 (nI d) z1 z2 n (nI p) w = some (nI (p + if isLt d then wl l else dl l), w)
  | [], p, n + 1, e, hp, hn => by
    have hat := b_at hT (p := p) (by have := hT.2.1; omega)
    rw [ch_nil e] at hat
    have hL := b_isLt (w := w) hd
    rw [f_X15_kindAt_L34]
    refine bd1T hat (bd1T b_isDm (brT rfl (bd1T hL ?_)))
    cases q : isLt d
    · exact brT rfl rfl
    · exact brF (by decide) (bd1T hat (bd1T b_isLm (brT rfl rfl)))
  | c :: t, p, n + 1, e, hp, hn => by
    obtain ⟨e1, e2, e3⟩ := dr_cons e
    have hl := hT.2.1
    have hc := tm_lt hT e
    have hat := b_at hT (p := p) (by omega)
    rw [ch_cons e] at hat
    have hL := b_isLt (w := w) hd
    have hLc := b_isLt (w := w) hc
    have hDc := b_isDg (w := w) hc
    simp only [List.length_cons] at hn
    have ih := b_end34 (z1 := z1) (z2 := z2) hT hd hld t (p + 1) n e3 (by omega) (by omega)
    have ew : wl (c :: t) = if isWd c = true then wl t + 1 else 0 := rfl
    have ed : dl (c :: t) = if isDg c = true then dl t + 1 else 0 := rfl
    rw [f_X15_kindAt_L34]
    refine bd1T hat (bd1T hDc ?_)
    cases qd : isDg c
    · refine brT rfl (bd1T hL ?_)
      cases ql : isLt d
      · rw [ql] at ih
        refine brT rfl ?_
        rw [ed, qd]; rfl
      · rw [ql] at ih
        refine brF (by decide) (bd1T hat (bd1T hLc ?_))
        cases qc : isLt c
        · have : isWd c = false := by unfold isWd; rw [qc, qd]; rfl
          refine brT rfl ?_
          rw [ew, this]; rfl
        · have : isWd c = true := by unfold isWd; rw [qc]; rfl
          refine brF (by decide) (sqT ?_)
          rw [nI_1, ih, ew, this]
          simp only [if_true]
          rw [show p + 1 + wl t = p + (wl t + 1) by omega]
    · have : isWd c = true := by unfold isWd; rw [qd]; simp
      refine brF (by decide) (sqT ?_)
      rw [nI_1, ih, ew, ed, this, qd]
      simp only [if_true]
      cases isLt d
      · simp only [Bool.false_eq_true, if_false]
        rw [show p + 1 + dl t = p + (dl t + 1) by omega]
      · simp only [if_true]
        rw [show p + 1 + wl t = p + (wl t + 1) by omega]
-- words
theorem c_at0 : ∀ k, k < 23 → ∀ i, i < (tx k).length → ((((yS k i) &&& 255).toUInt32 % 65536).toInt32) = nI ((tx k).getD i 0) ∧ (nI ((tx k).getD i 0)).toUInt32.toUInt16.toUInt32.toInt32 = nI ((tx k).getD i 0) := by decide +kernel
theorem len_tx : ∀ k, k < 23 → lenS.getD k 0 = (tx k).length ∧ lS k = nI (tx k).length ∧ (tx k).length ≤ 8 := by decide +kernel
theorem b_len {k : Nat} {w : Mm} (hk : k < 23) : f_J0_length_8abf5 k w = some (nI (tx k).length, w) := by
  unfold f_J0_length_8abf5 f_J0_coder_7d493
  refine bd1T (brF (by decide) rfl) ?_
  rw [(len_tx k hk).2.1]
  have : ∀ n, n ≤ 8 → nI n >>> ((0 : Int32) &&& 31) = nI n := by decide
  rw [this _ (len_tx k hk).2.2]
theorem b_charAt {k i x : Nat} {t : List Nat} {w : Mm} (hk : k < 23) (e : (tx k).drop i = x :: t) : f_J0_charAt_5068e k (nI i) w = some (nI x, w) := by
  obtain ⟨e1, e2, e3⟩ := dr_cons e
  obtain ⟨l1, l2, l3⟩ := len_tx k hk
  obtain ⟨c1, c2⟩ := c_at0 k hk i e2
  have ex : (tx k).getD i 0 = x := by rw [List.getD_eq_getElem?_getD, e1]; rfl
  rw [ex] at c1 c2
  unfold f_J0_charAt_5068e f_J0_isLatin1_aae02
  refine bd1T (brF (by decide) (brT rfl rfl)) (brF (by decide) (bd1T (x := nI x) (w := w) ?_ (gdT (decide_eq_true c2) rfl)))
  unfold f_J1_charAt_3b067 f_J0_checkIndex_df160 f_J3_checkIndex_8e157
  rw [l1, l2]
  refine bd0T (w := w) (bd1T (brF (nI_pos (by omega)) (brT (by rw [nI_ltI (by omega) (by omega)]; exact e2) rfl)) rfl) (gdT ((vB_nI (by omega)).mpr e2) ?_)
  rw [nI_clamp (by omega), c1]
  exact gdT (decide_eq_true c2) rfl
theorem b_w32 {T : List Nat} {w : Mm} {k p m : Nat} (hT : TM T w) (hk : k < 23) (hpm : p + m ≤ T.length) (hm : (tx k).length = m) : ∀ (a b : List Nat) (i n : Nat), (tx k).drop i = a → ((T.drop p).take m).drop i = b → a.length < n → i + a.length = m → f_X15_word_L32 (nI p) (nI m) (nI k) n (nI i) 1 w = some (bI (decide (a = b)), w)
  | [], b, i, n + 1, ha, hb, hn, hi => by
    simp only [List.length_nil, Nat.add_zero] at hi
    subst hi
    have hl := hT.2.1
    have : b = [] := by rw [← hb]; exact List.drop_eq_nil_iff.mpr (by rw [List.length_take]; omega)
    subst this
    rw [f_X15_word_L32]
    exact brF (by decide) (brT (nI_le (Nat.le_refl _) (by omega)) rfl)
  | x :: a, b, i, n + 1, ha, hb, hn, hi => by
    have hl := hT.2.1
    obtain ⟨e1, e2, e3⟩ := dr_cons ha
    simp only [List.length_cons] at hn hi
    obtain ⟨l1, l2, l3⟩ := len_tx k hk
    have hlen : ((T.drop p).take m).length = m := by rw [List.length_take, List.length_drop]; omega
    cases b with
    | nil =>
      have := List.drop_eq_nil_iff.mp hb
      omega
    | cons y b =>
      obtain ⟨f1, f2, f3⟩ := dr_cons hb
      have hx := b_charAt (w := w) hk ha
      have hy : T[p + i]? = some y := by
        rw [List.getElem?_take_of_lt (by omega), List.getElem?_drop] at f1
        exact f1
      obtain ⟨g1, g2⟩ := hT.2.2 _ _ hy
      have hx256 : x < 256 := by
        have h1 := (tx_ok k hk).1 x (List.mem_of_getElem? e1)
        have := isWd_c h1
        omega
      rw [f_X15_word_L32, nI_add]
      refine brF (by decide) (brF (by rw [nI_leI (by omega) (by omega)]; omega) (gdT ((vB_nI (by omega)).mpr hk) ?_))
      rw [nI_clamp (n := k) (by omega), nI_clamp (n := p + i) (by omega)]
      refine bd1T hx (gdT ((vB_nI (by omega)).mpr (by omega)) ?_)
      rw [g1]
      by_cases q : x = y
      · subst q
        have ih := b_w32 hT hk hpm hm a b (i + 1) n e3 f3 (by omega) (by omega)
        refine brT rfl (sqT ?_)
        rw [nI_1, ih]
        simp
      · refine brF (fun h => q ((nI_eq (by omega) (by omega)).mp h)) (sqT ?_)
        obtain ⟨n', rfl⟩ : ∃ n', n = n' + 1 := ⟨n - 1, by omega⟩
        rw [f_X15_word_L32]
        refine brT rfl ?_
        simp [q, bI]
theorem b_w2 {T : List Nat} {w : Mm} {p m : Nat} (hT : TM T w) (hpm : p + m ≤ T.length) : ∀ (d k n : Nat), k + d = 23 → d < n → f_X15_word_L2 (nI p) (nI m) n (nI k) w = some (match fnd (fun k => decide ((T.drop p).take m = tx k)) d k with | some j => (0, nI j, w) | none => (1, nI 23, w))
  | 0, k, n + 1, hk, hn => by
    have hk : k = 23 := by omega
    subst hk
    rw [f_X15_word_L2]
    exact brT (by decide) rfl
  | d + 1, k, n + 1, hk, hn => by
    have hl := hT.2.1
    have ih := b_w2 hT hpm d (k + 1) n (by omega) (by omega)
    have hk23 : k < 23 := by omega
    obtain ⟨l1, l2, l3⟩ := len_tx k hk23
    have hlen : ((T.drop p).take m).length = m := by rw [List.length_take, List.length_drop]; omega
    rw [f_X15_word_L2]
    refine brF (by (simp (disch := omega) only [lit_nI, nI_leI, nI_ltI, nI_eq, nI_clamp, nI_add, nI_sub, vB_nI, Nat.add_sub_cancel, Nat.reduceSub, Nat.reduceLT, Nat.reduceLeDiff, Nat.reduceAdd, gI_pI, p2_pI, Nat.reduceEqDiff, false_and, and_false, true_and, and_true, if_false, if_true, and_self] <;> omega)) (gdT ((vB_nI (by omega)).mpr hk23) ?_)
    rw [nI_clamp (by omega)]
    refine bd1T (b_len hk23) ?_
    unfold fnd
    by_cases q : (tx k).length = m
    · have h32 := b_w32 hT hk23 hpm q (tx k) ((T.drop p).take m) 0 LF rfl rfl (by unfold LF; omega) (by omega)
      refine brT (by rw [q]) (bd1T h32 ?_)
      by_cases q2 : tx k = (T.drop p).take m
      · rw [bI_t q2, decide_eq_true q2.symm]
        exact brF (by decide) rfl
      · rw [bI_f q2, decide_eq_false (fun h => q2 h.symm)]
        refine brT rfl (sqT ?_)
        rw [nI_1, ih]; rfl
    · have h32 : f_X15_word_L32 (nI p) (nI m) (nI k) LF 0 0 w = some (0, w) := by
        unfold LF
        rw [f_X15_word_L32]
        exact brT rfl rfl
      refine brF (by rw [nI_eq (by omega) (by omega)]; exact q) (bd1T h32 (brT rfl (sqT ?_)))
      have q2 : ¬ (T.drop p).take m = tx k := fun h => q (by rw [← h, hlen])
      rw [nI_1, ih, decide_eq_false q2]
      rfl
def mk (k : Nat) : Int32 := if k = 1 then 900 else if k = 2 then 901 else if k = 3 then 40 else if k = 4 then 41 else if k ≤ 29 then nI (k - 7) else if k = 30 then 90 else if k = 31 then 91 else if k = 32 then 141 else if k = 33 then 143 else if k = 34 then 109 else if k = 35 then 94 else if k = 36 then 93 else if k = 37 then 95 else if k = 38 then 92 else if k = 39 then 97 else if k = 40 then 110 else if k = 41 then 112 else if k = 42 then 111 else if k = 43 then 300 else 301
theorem b_word {T : List Nat} {w : Mm} {p m : Nat} (hT : TM T w) (hpm : p + m ≤ T.length) : f_X15_word (nI p) (nI m) w = some (mk (wk ((T.drop p).take m)), w) := by
  have h := b_w2 hT hpm 23 0 LF rfl (by unfold LF; omega)
  unfold f_X15_word wk
  cases q : fnd (fun k => decide ((T.drop p).take m = tx k)) 23 0 with
  | none =>
    rw [q] at h
    exact bd2T h (brF (by decide) rfl)
  | some k =>
    rw [q] at h
    have hk := fnd_lt _ _ _ q
    refine bd2T h (brT rfl ?_)
    have : mk (k + 7) = nI k := by
      unfold mk
      rw [if_neg (by omega), if_neg (by omega), if_neg (by omega), if_neg (by omega), if_pos (by omega), Nat.add_sub_cancel]
    simp only
    rw [this]
