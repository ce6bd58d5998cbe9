-- THE PURE PART: the reference's scan
def inS (c : Nat) : Option Nat := fnd (fun i => decide (yS 23 i = nI c)) 13 0
theorem inS_sy : ∀ c, c < 128 → ((inS c).isSome = decide ((sy c false).1 ≠ 2)) := by decide +kernel
theorem c128 : ∀ c, c < 128 → ((nI c).toUInt32 % 65536).toInt32 = nI c ∧ (nI c).toInt8.toInt32 = nI c := by decide +kernel
theorem b_idxL {c : Nat} {w : Mm} : ∀ (d i n : Nat), i + d = 13 → d < n → f_J1_indexOfChar_4cfef_L7 (nI c) 23 (nI 13) n (nI i) w = some (match fnd (fun i => decide (yS 23 i = nI c)) d i with | some j => (0, nI j, w) | none => (1, nI 13, w))
  | 0, i, n + 1, hi, hn => by
    have hi : i = 13 := by omega
    subst hi
    rw [f_J1_indexOfChar_4cfef_L7]
    exact brT (by decide) rfl
  | d + 1, i, n + 1, hi, hn => by
    have ih := b_idxL (c := c) (w := w) d (i + 1) n (by omega) (by omega)
    rw [f_J1_indexOfChar_4cfef_L7]
    refine brF (by (simp (disch := omega) only [lit_nI, nI_leI, nI_ltI, nI_eq, nI_clamp, nI_add, nI_sub, vB_nI, Nat.add_sub_cancel, Nat.reduceSub, Nat.reduceLT, Nat.reduceLeDiff, Nat.reduceAdd, gI_pI, p2_pI, Nat.reduceEqDiff, false_and, and_false, true_and, and_true, if_false, if_true, and_self] <;> omega)) (gdT ((vB_nI (by omega)).mpr (by show i < 13; omega)) ?_)
    rw [nI_clamp (by omega)]
    unfold fnd
    by_cases q : yS 23 i = nI c
    · rw [decide_eq_true q]; exact brT q rfl
    · rw [decide_eq_false q]
      refine brF q (sqT ?_)
      rw [nI_1, ih]; rfl
theorem b_idx {c : Nat} {w : Mm} (hc : c < 128) : ∃ r, f_J0_indexOf_0f7a4 23 (((nI c).toUInt32 % 65536).toInt32) w = some (r, w) ∧ (r < 0 ↔ (sy c false).1 = 2) := by
  obtain ⟨c1, c2⟩ := c128 c hc
  have h := b_idxL (c := c) (w := w) 13 0 LF rfl (by unfold LF; omega)
  have hs := inS_sy c hc
  have hlen : f_J0_length_8abf5 23 w = some (nI 13, w) := by
    unfold f_J0_length_8abf5 f_J0_coder_7d493
    exact bd1T (brF (by decide) rfl) rfl
  have run : ∀ r, f_J1_indexOfChar_4cfef 23 (nI c) 0 (nI 13) w = some (r, w) → f_J0_indexOf_0f7a4 23 (((nI c).toUInt32 % 65536).toInt32) w = some (r, w) := by
    intro r hr
    rw [c1]
    unfold f_J0_indexOf_0f7a4 f_J0_indexOf_7cf53 f_J0_isLatin1_aae02
    refine bd1T (x := r) (w := w) (bd1T (brF (by decide) (brT rfl rfl)) (brF (by decide) (bd1T hlen (bd1T (x := r) (w := w) ?_ rfl)))) rfl
    unfold f_J1_indexOf_4cfef f_J1_canEncode_9a6ad
    refine bd1T (brF (nI_pos (by omega)) (brF (by (simp (disch := omega) only [lit_nI, nI_leI, nI_ltI, nI_eq, nI_clamp, nI_add, nI_sub, vB_nI, Nat.add_sub_cancel, Nat.reduceSub, Nat.reduceLT, Nat.reduceLeDiff, Nat.reduceAdd, gI_pI, p2_pI, Nat.reduceEqDiff, false_and, and_false, true_and, and_true, if_false, if_true, and_self] <;> omega)) rfl)) (brF (by decide) (sqT (sqT ?_)))
    rw [show jmmax 0 0 = 0 by decide, show jmmin (nI 13) (lS 23) = nI 13 by decide]
    exact brT (by decide) (bd1T hr rfl)
  unfold inS at hs
  cases q : fnd (fun i => decide (yS 23 i = nI c)) 13 0 with
  | none =>
    rw [q] at h hs
    refine ⟨-1, run _ ?_, ?_⟩
    · unfold f_J1_indexOfChar_4cfef
      rw [c2]
      exact bd2T h (brF (by decide) rfl)
    · have : (sy c false).1 = 2 := by simpa using hs
      exact ⟨fun _ => this, fun _ => by decide⟩
  | some j =>
    rw [q] at h hs
    have hj := fnd_lt _ _ _ q
    refine ⟨nI j, run _ ?_, ?_⟩
    · unfold f_J1_indexOfChar_4cfef
      rw [c2]
      exact bd2T h (brT rfl rfl)
    · have : ¬ (sy c false).1 = 2 := by simpa using hs
      exact ⟨fun h => absurd h (nI_pos (by omega)), fun h => (this h).elim⟩
def KA (i : Nat) (w w' : Mm) : Prop := (∀ c k j, ¬ (c = 36 ∧ k = 0 ∧ j = i) → gI w' c k j = gI w c k j) ∧ w'.2 = w.2
theorem ka_p {i : Nat} {v : Int32} {w : Mm} : KA i w (pI w 36 0 i v) := ⟨fun c k j q => by rw [gI_pI, if_neg q], rfl⟩
theorem tm_ka {T : List Nat} {i : Nat} {w w' : Mm} (h : TM T w) (u : KA i w w') : TM T w' := by
  obtain ⟨h1, h2, h3⟩ := h
  refine ⟨by rw [u.1 _ _ _ (by omega)]; exact h1, h2, fun j x e => ?_⟩
  rw [u.1 _ _ _ (by omega)]; exact h3 j x e
theorem sy_big : ∀ c e, c < 256 → 128 ≤ c → (sy c e).1 = 2 := by
  intro c e h1 h2
  unfold sy
  rw [if_neg (by omega), if_neg (by omega), if_neg (by omega), if_neg (by omega), if_neg (by omega), if_neg (by omega), if_neg (by omega), if_neg (by omega), if_neg (by omega), if_neg (by omega), if_neg (by omega), if_neg (by omega), if_neg (by omega)]
theorem sy_0 : ∀ e, (sy 0 e).1 = 2 := by decide
theorem sy_mk : ∀ c, c < 128 → (c = 60 ∨ c = 62 → (sy c false).2 = 1) ∧ ((sy c false).1 ≠ 2 → mk (sy c false).1 = nI (50 + c) ∧ (sy c false).2 = 1) ∧ (c ≠ 60 → c ≠ 62 → sy c true = sy c false) := by decide +kernel
/-- one sign alone -/
theorem b_one {c i : Nat} {w : Mm} (hc : c < 256) : (br (nI c ≤ 0) (some ((901 : Int32), w)) (br (128 ≤ nI c) (some (901, w)) (bd1 (f_J0_indexOf_0f7a4 23 (((nI c).toUInt32 % 65536).toInt32) w) (fun r46 w47 => br (r46 < 0) (some (901, w47)) (some (50 + nI c, w47)))))) = some (mk (sy c false).1, w) := by
  by_cases h0 : c = 0
  · subst h0
    rw [sy_0]
    exact brT (by decide) rfl
  · by_cases h1 : 128 ≤ c
    · rw [sy_big c false hc h1]
      exact brF (nI_nle (by omega) (by omega)) (brT (by (simp (disch := omega) only [lit_nI, nI_leI, nI_ltI, nI_eq, nI_clamp, nI_add, nI_sub, vB_nI, Nat.add_sub_cancel, Nat.reduceSub, Nat.reduceLT, Nat.reduceLeDiff, Nat.reduceAdd, gI_pI, p2_pI, Nat.reduceEqDiff, false_and, and_false, true_and, and_true, if_false, if_true, and_self] <;> omega)) rfl)
    · obtain ⟨r, r1, r2⟩ := b_idx (c := c) (w := w) (by omega)
      refine brF (nI_nle (by omega) (by omega)) (brF (by (simp (disch := omega) only [lit_nI, nI_leI, nI_ltI, nI_eq, nI_clamp, nI_add, nI_sub, vB_nI, Nat.add_sub_cancel, Nat.reduceSub, Nat.reduceLT, Nat.reduceLeDiff, Nat.reduceAdd, gI_pI, p2_pI, Nat.reduceEqDiff, false_and, and_false, true_and, and_true, if_false, if_true, and_self] <;> omega)) (bd1T r1 ?_))
      by_cases q : (sy c false).1 = 2
      · rw [q]
        exact brT (r2.mpr q) rfl
      · refine brF (fun h => q (r2.mp h)) ?_
        rw [((sy_mk c (by omega)).2.1 q).1, show (50 : Int32) = nI 50 from rfl, nI_add]
theorem b_kindAt {T : List Nat} {p i : Nat} {l : List Nat} {w : Mm} (hT : TM T w) (hp : p ≤ T.length) (hi : i < 401) (e : T.drop p = l) : ∃ w', f_X15_kindAt (nI p) (nI i) w = some (mk (tok1 l).1, w') ∧ KA i w w' ∧ ((tok1 l).1 ≠ 1 → (tok1 l).1 ≠ 2 → gI w' 36 0 i = nI (tok1 l).2) := by
  have hlen := hT.2.1
  have hat := b_at hT (p := p) (by omega)
  have hv : vB (nI i) 401 = true := (vB_nI (by omega)).mpr hi
  have hcl : (nI i).toNatClampNeg = i := nI_clamp (by omega)
  cases l with
  | nil =>
    rw [ch_nil e] at hat
    refine ⟨w, ?_, ⟨fun _ _ _ _ => rfl, rfl⟩, fun q => (q rfl).elim⟩
    unfold f_X15_kindAt
    exact bd1T hat (sqT (brT rfl rfl))
  | cons c t =>
    obtain ⟨e1, e2, e3⟩ := dr_cons e
    rw [ch_cons e] at hat
    have hc := tm_lt hT e
    have hm1 : ¬ nI c = -1 := fun h => (nI_m1 (by omega)).mp h
    have hL : ∀ u, f_X15_isLetter (nI c) u = some (bI (isLt c), u) := fun u => b_isLt hc
    have hD : ∀ u, f_X15_isDigit (nI c) u = some (bI (isDg c), u) := fun u => b_isDg hc
    by_cases h : isLt c = true
    · simp only [h] at hL
      have hw : isWd c = true := by unfold isWd; rw [h]; rfl
      have e0 : wl (c :: t) = wl t + 1 := by
        show (if isWd c = true then wl t + 1 else 0) = _
        rw [if_pos hw]
      have hle := wl_le (c :: t)
      have hdl : (c :: t).length = T.length - p := by rw [← e, List.length_drop]
      have h34 := b_end34 (z1 := nI p) (z2 := nI i) hT hc (Or.inl h) t (p + 1) LF e3 (by omega) (by have := congrArg List.length e3; rw [List.length_drop] at this; unfold LF; omega)
      rw [if_pos h] at h34
      have em : nI (p + 1 + wl t) - nI p = nI (wl (c :: t)) := by
        rw [nI_sub (by omega), e0]; congr 1; omega
      have hk : KA i w (pI w 36 0 i (nI (wl (c :: t)))) := ka_p
      have hwd := b_word (p := p) (m := wl (c :: t)) (tm_ka hT hk) (by omega)
      rw [e] at hwd
      refine ⟨pI w 36 0 i (nI (wl (c :: t))), ?_, hk, fun q1 q2 => ?_⟩
      · unfold f_X15_kindAt
        refine bd1T hat (sqT (brF hm1 (bd1T (hL _) (brF (by decide) ?_))))
        rw [nI_1]
        refine bd1T h34 (gdT hv ?_)
        rw [em, hcl]
        refine sqT (bd1T (hL _) (brF (by decide) ?_))
        unfold tok1
        simp only
        rw [if_pos h]
        by_cases q : wl (c :: t) ≤ 10
        · rw [if_pos q]
          exact brT (by (simp (disch := omega) only [lit_nI, nI_leI, nI_ltI, nI_eq, nI_clamp, nI_add, nI_sub, vB_nI, Nat.add_sub_cancel, Nat.reduceSub, Nat.reduceLT, Nat.reduceLeDiff, Nat.reduceAdd, gI_pI, p2_pI, Nat.reduceEqDiff, false_and, and_false, true_and, and_true, if_false, if_true, and_self] <;> omega)) (bd1T (hL _) (brF (by decide) (bd1T hwd rfl)))
        · rw [if_neg q]
          exact brF (by rw [show (10 : Int32) = nI 10 from rfl, nI_leI (by omega) (by decide)]; exact q) rfl
      · unfold tok1 at q2 ⊢
        simp only at q2 ⊢
        rw [if_pos h] at q2 ⊢
        by_cases q : wl (c :: t) ≤ 10
        · rw [if_pos q]; simp [gI_pI]
        · rw [if_neg q] at q2; exact (q2 rfl).elim
    · have h' : isLt c = false := by simpa using h
      simp only [h'] at hL
      by_cases hd : isDg c = true
      · simp only [hd] at hD
        have e0 : dl (c :: t) = dl t + 1 := by
          show (if isDg c = true then dl t + 1 else 0) = _
          rw [if_pos hd]
        have hle := dl_le (c :: t)
        have hdl : (c :: t).length = T.length - p := by rw [← e, List.length_drop]
        have h34 := b_end34 (z1 := nI p) (z2 := nI i) hT hc (Or.inr hd) t (p + 1) LF e3 (by omega) (by have := congrArg List.length e3; rw [List.length_drop] at this; unfold LF; omega)
        rw [if_neg h] at h34
        have em : nI (p + 1 + dl t) - nI p = nI (dl (c :: t)) := by
          rw [nI_sub (by omega), e0]; congr 1; omega
        refine ⟨pI w 36 0 i (nI (dl (c :: t))), ?_, ka_p, fun q1 q2 => ?_⟩
        · unfold f_X15_kindAt
          refine bd1T hat (sqT (brF hm1 (bd1T (hL _) (brT rfl (bd1T (hD _) (brF (by decide) ?_))))))
          rw [nI_1]
          refine bd1T h34 (gdT hv ?_)
          rw [em, hcl]
          refine sqT (bd1T (hL _) (brT rfl ?_))
          unfold tok1
          simp only
          rw [if_neg h, if_pos hd]
          by_cases q : dl (c :: t) ≤ 6
          · rw [if_pos q]
            exact brT (by (simp (disch := omega) only [lit_nI, nI_leI, nI_ltI, nI_eq, nI_clamp, nI_add, nI_sub, vB_nI, Nat.add_sub_cancel, Nat.reduceSub, Nat.reduceLT, Nat.reduceLeDiff, Nat.reduceAdd, gI_pI, p2_pI, Nat.reduceEqDiff, false_and, and_false, true_and, and_true, if_false, if_true, and_self] <;> omega)) (bd1T (hL _) (brT rfl rfl))
          · rw [if_neg q]
            exact brF (by rw [show (6 : Int32) = nI 6 from rfl, nI_leI (by omega) (by decide)]; exact q) rfl
        · unfold tok1 at q2 ⊢
          simp only at q2 ⊢
          rw [if_neg h, if_pos hd] at q2 ⊢
          by_cases q : dl (c :: t) ≤ 6
          · rw [if_pos q]; simp [gI_pI]
          · rw [if_neg q] at q2; exact (q2 rfl).elim
      · have hd' : isDg c = false := by simpa using hd
        simp only [hd'] at hD
        have het : tok1 (c :: t) = sy c (decide (t.head? = some 61)) := by
          unfold tok1
          simp only
          rw [if_neg h, if_neg hd]
        rw [het]
        have hat1 := b_at hT (p := p + 1) (by omega)
        have hch : (ch T (p + 1) = 61 ↔ t.head? = some 61) := by
          cases t with
          | nil => rw [ch_nil e3]; simp
          | cons d t =>
            have hd256 := tm_lt hT e3
            rw [ch_cons e3, show (61 : Int32) = nI 61 from rfl, nI_eq (by omega) (by decide)]
            simp
        have n60 : ∀ x, x < 256 → c ≠ x → ¬ nI c = nI x := fun x hx h q => h ((nI_eq (by omega) (by omega)).mp q)
        by_cases c60 : c = 60
        · subst c60
          by_cases q : t.head? = some 61
          · rw [decide_eq_true q]
            refine ⟨pI w 36 0 i 2, ?_, ka_p, fun _ _ => by simp [gI_pI]; rfl⟩
            unfold f_X15_kindAt
            refine bd1T hat (sqT (brF hm1 (bd1T (hL _) (brT rfl (bd1T (hD _) (brT rfl (brT rfl ?_)))))))
            rw [nI_1]
            refine bd1T hat1 (brT (hch.mpr q) (brF (by decide) (gdT hv ?_)))
            rw [hcl]
            exact sqT (brF (by decide) (brT rfl rfl))
          · rw [decide_eq_false q]
            refine ⟨pI w 36 0 i 1, ?_, ka_p, fun _ _ => by simp [gI_pI]; rfl⟩
            unfold f_X15_kindAt
            refine bd1T hat (sqT (brF hm1 (bd1T (hL _) (brT rfl (bd1T (hD _) (brT rfl (brT rfl ?_)))))))
            rw [nI_1]
            refine bd1T hat1 (brF (fun h => q (hch.mp h)) (brT rfl (gdT hv ?_)))
            rw [hcl]
            exact sqT (brT rfl (b_one (i := i) (by omega)))
        · by_cases c62 : c = 62
          · subst c62
            by_cases q : t.head? = some 61
            · rw [decide_eq_true q]
              refine ⟨pI w 36 0 i 2, ?_, ka_p, fun _ _ => by simp [gI_pI]; rfl⟩
              unfold f_X15_kindAt
              refine bd1T hat (sqT (brF hm1 (bd1T (hL _) (brT rfl (bd1T (hD _) (brT rfl (brF (by decide) (brT rfl ?_))))))))
              rw [nI_1]
              refine bd1T hat1 (brT (hch.mpr q) (brF (by decide) (gdT hv ?_)))
              rw [hcl]
              exact sqT (brF (by decide) (brF (by decide) rfl))
            · rw [decide_eq_false q]
              refine ⟨pI w 36 0 i 1, ?_, ka_p, fun _ _ => by simp [gI_pI]; rfl⟩
              unfold f_X15_kindAt
              refine bd1T hat (sqT (brF hm1 (bd1T (hL _) (brT rfl (bd1T (hD _) (brT rfl (brF (by decide) (brT rfl ?_))))))))
              rw [nI_1]
              refine bd1T hat1 (brF (fun h => q (hch.mp h)) (brT rfl (gdT hv ?_)))
              rw [hcl]
              exact sqT (brT rfl (b_one (i := i) (by omega)))
          · have hsy : sy c (decide (t.head? = some 61)) = sy c false := by
              cases decide (t.head? = some 61)
              · rfl
              · by_cases h1 : c < 128
                · exact (sy_mk c h1).2.2 c60 c62
                · unfold sy
                  rw [if_neg (show ¬ c = 60 from c60), if_neg (show ¬ c = 62 from c62), if_neg (show ¬ c = 60 from c60), if_neg (show ¬ c = 62 from c62)]
            rw [hsy]
            refine ⟨pI w 36 0 i 1, ?_, ka_p, fun _ q2 => ?_⟩
            · unfold f_X15_kindAt
              refine bd1T hat (sqT (brF hm1 (bd1T (hL _) (brT rfl (bd1T (hD _) (brT rfl (brF (n60 60 (by omega) c60) (brF (n60 62 (by omega) c62) (brT rfl (gdT hv ?_))))))))))
              rw [hcl]
              exact sqT (brT rfl (b_one (i := i) hc))
            · have h1 : c < 128 := by
                apply Decidable.byContradiction
                intro hh
                exact q2 (sy_big c false hc (by omega))
              rw [((sy_mk c h1).2.1 q2).2]
              simp [gI_pI]; rfl
