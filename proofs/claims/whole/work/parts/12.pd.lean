-- THE PURE PART: a news
def bI : Bool → Int32
  | true => 1
  | false => 0
abbrev Ns : Type := Gs × (Nat → Int32) × (Nat → Bool) × List (Nat × Nat × Int32) × Nat
def nG (N : Ns) : Gs := N.1
def nF (N : Ns) : Nat → Int32 := N.2.1
def nB (N : Ns) : Nat → Bool := N.2.2.1
def nQ (N : Ns) : List (Nat × Nat × Int32) := N.2.2.2.1
def nT (N : Ns) : Nat := N.2.2.2.2
theorem nG_mk {a : Gs} {b : Nat → Int32} {c : Nat → Bool} {d : List (Nat × Nat × Int32)} {e : Nat} : nG (a, b, c, d, e) = a := rfl
theorem nF_mk {a : Gs} {b : Nat → Int32} {c : Nat → Bool} {d : List (Nat × Nat × Int32)} {e : Nat} : nF (a, b, c, d, e) = b := rfl
theorem nB_mk {a : Gs} {b : Nat → Int32} {c : Nat → Bool} {d : List (Nat × Nat × Int32)} {e : Nat} : nB (a, b, c, d, e) = c := rfl
theorem nQ_mk {a : Gs} {b : Nat → Int32} {c : Nat → Bool} {d : List (Nat × Nat × Int32)} {e : Nat} : nQ (a, b, c, d, e) = d := rfl
theorem nT_mk {a : Gs} {b : Nat → Int32} {c : Nat → Bool} {d : List (Nat × Nat × Int32)} {e : Nat} : nT (a, b, c, d, e) = e := rfl
def whs (S : Gs) (h : Nat) (l : Int32) : List (Nat × Nat × Int32) := if 1 ≤ l - sg S 1 h then (sr S h).map (fun x => (h, x, l - sg S 1 h)) else []
def nH (h : Nat) (l : Int32) (N : Ns) : Ns :=
  if nF N h ≤ 0 then (pg (pg (nG N) 2 h (sg (nG N) 2 h + 1)) 3 h l, (fun j => if j = h then l else nF N j), nB N, nQ N ++ whs (nG N) h l, nT N + (whs (nG N) h l).length)
  else (pg (nG N) 0 3 (sg (nG N) 0 3 + 1), nF N, (fun j => if j = h then true else nB N j), nQ N, nT N)
def sR (S : Gs) (r h : Nat) (l : Int32) : Gs :=
  if sg S 6 r + 1 = sg S 4 r then pg (pg (pg (sLea (pg (pg S 5 r (sg S 5 r + l)) 6 r (sg S 6 r + 1)) h (8 + r)) 6 r 0) 7 r (sg S 7 r + 1)) 0 4 (sg S 0 4 + 1)
  else pg (pg S 5 r (sg S 5 r + l)) 6 r (sg S 6 r + 1)
def nS (N : Ns) : Ns := match nQ N with
  | [] => N
  | (m, x, l) :: t => if x < 8 then nH x l (nG N, nF N, nB N, t, nT N) else (sR (nG N) (x - 8) m l, nF N, nB N, t, nT N)
def nRun : Nat → Ns → Ns
  | 0, N => N
  | n + 1, N => nRun n (nS N)
def nIni (S : Gs) : Ns := (S, fun _ => 0, fun _ => false, [], 0)
def nEnd (S : Gs) (h : Nat) (l : Int32) : Ns := nRun 128 (nH h l (nIni S))
def sNews (S : Gs) (h : Nat) (l : Int32) : Gs := pg (nG (nEnd S h l)) 0 2 (sg (nG (nEnd S h l)) 0 2 + nI (nT (nEnd S h l)))
/-- the class's whispers from place k on, what was heard first, what came again -/
def QA (k : Nat) (N : Ns) (w : Mm) : Prop := gI w 11 0 3 = nI (nT N) ∧ (∀ j m x l, (nQ N)[j]? = some (m, x, l) → gI w 12 0 (k + j) = nI m ∧ gI w 13 0 (k + j) = nI x ∧ gI w 14 0 (k + j) = l) ∧
  (∀ h, h < 8 → gI w 15 0 h = nF N h) ∧ (∀ h, h < 8 → gI w 16 0 h = bI (nB N h))
def QB (k b : Nat) (N : Ns) (w : Mm) : Prop := (gI w 32 0 18 = nI (nT N) ∧ gI w 32 0 19 = nI b ∧ gI w 32 0 20 = bI (nB N b)) ∧ (∀ j m x l, (nQ N)[j]? = some (m, x, l) → gI w 41 0 (k + j) = nI m ∧ gI w 40 0 (k + j) = nI x ∧ gI w 42 0 (k + j) = l) ∧
  (∀ h, h < 8 → gI w 43 0 h = nF N h)
theorem qa_cg {k : Nat} {N : Ns} {w w' : Mm} (h : QA k N w) (q : ∀ c k i, 11 ≤ c → c ≤ 16 → gI w' c k i = gI w c k i) : QA k N w' := by
  obtain ⟨a, b, c, d⟩ := h
  refine ⟨by rw [q _ _ _ (by omega) (by omega)]; exact a, fun j m x l e => ?_, fun h hh => ?_, fun h hh => ?_⟩
  · rw [q _ _ _ (by omega) (by omega), q _ _ _ (by omega) (by omega), q _ _ _ (by omega) (by omega)]; exact b j m x l e
  · rw [q _ _ _ (by omega) (by omega)]; exact c h hh
  · rw [q _ _ _ (by omega) (by omega)]; exact d h hh
theorem qa_o {k : Nat} {N : Ns} {w : Mm} {c k' i : Nat} {v : Int32} (h : QA k N w) (hc : 16 < c) : QA k N (pI w c k' i v) := qa_cg h fun c' k' i' h1 h2 => by rw [gI_pI, if_neg]; omega
theorem qb_cg {k b : Nat} {N : Ns} {w w' : Mm} (h : QB k b N w) (q : ∀ c k i, (c = 32 ∧ 18 ≤ i) ∨ (40 ≤ c ∧ c ≤ 43) → gI w' c k i = gI w c k i) : QB k b N w' := by
  obtain ⟨⟨a1, a2, a3⟩, b, c⟩ := h
  refine ⟨⟨by rw [q _ _ _ (by omega)]; exact a1, by rw [q _ _ _ (by omega)]; exact a2, by rw [q _ _ _ (by omega)]; exact a3⟩, fun j m x l e => ?_, fun h hh => ?_⟩
  · rw [q _ _ _ (by omega), q _ _ _ (by omega), q _ _ _ (by omega)]; exact b j m x l e
  · rw [q _ _ _ (by omega)]; exact c h hh
theorem qb_o {k b : Nat} {N : Ns} {w : Mm} {c k' i : Nat} {v : Int32} (h : QB k b N w) (hc : 43 < c) : QB k b N (pI w c k' i v) := qb_cg h fun c' k' i' h1 => by rw [gI_pI, if_neg]; omega
theorem app_some {α : Type} {q : List α} {y z : α} {j : Nat} (h : (q ++ [y])[j]? = some z) : (j < q.length ∧ q[j]? = some z) ∨ (j = q.length ∧ z = y) := by
  rcases Nat.lt_trichotomy j q.length with e | e | e
  · rw [List.getElem?_append_left e] at h; exact Or.inl ⟨e, h⟩
  · subst e
    rw [List.getElem?_append_right (Nat.le_refl _)] at h
    simp at h
    exact Or.inr ⟨rfl, h.symm⟩
  · rw [List.getElem?_eq_none (by simp; omega)] at h
    cases h
theorem p_X6_whisper {m x T : Nat} {l : Int32} {w : Mm} (hT : gI w 11 0 3 = nI T) (h : T < 128) : f_X6_whisper (nI m) (nI x) l w = some (pI (pI (pI (pI w 12 0 T (nI m)) 13 0 T (nI x)) 14 0 T l) 11 0 3 (nI (T + 1))) := by
  unfold f_X6_whisper
  repeat (first | (refine brT ?_ ?_; focus ((simp (disch := omega) only [lit_nI, nI_leI, nI_ltI, nI_eq, nI_clamp, nI_add, nI_sub, vB_nI, Nat.add_sub_cancel, Nat.reduceSub, Nat.reduceLT, Nat.reduceLeDiff, Nat.reduceAdd, gI_pI, p2_pI, Nat.reduceEqDiff, false_and, and_false, true_and, and_true, if_false, if_true, and_self, hT] <;> omega); done)) | (refine brF ?_ ?_; focus ((simp (disch := omega) only [lit_nI, nI_leI, nI_ltI, nI_eq, nI_clamp, nI_add, nI_sub, vB_nI, Nat.add_sub_cancel, Nat.reduceSub, Nat.reduceLT, Nat.reduceLeDiff, Nat.reduceAdd, gI_pI, p2_pI, Nat.reduceEqDiff, false_and, and_false, true_and, and_true, if_false, if_true, and_self, hT] <;> omega); done)) | (refine gdT ?_ ?_; focus ((simp (disch := omega) only [lit_nI, nI_leI, nI_ltI, nI_eq, nI_clamp, nI_add, nI_sub, vB_nI, Nat.add_sub_cancel, Nat.reduceSub, Nat.reduceLT, Nat.reduceLeDiff, Nat.reduceAdd, gI_pI, p2_pI, Nat.reduceEqDiff, false_and, and_false, true_and, and_true, if_false, if_true, and_self, hT] <;> omega); done)) | with_reducible refine sqT ?_)
  simp (disch := omega) only [hT, gI_pI, nI_clamp, nI_1, Nat.reduceEqDiff, false_and, if_false]
theorem qa_app {k m x T : Nat} {l : Int32} {S : Gs} {F : Nat → Int32} {B : Nat → Bool} {q : List (Nat × Nat × Int32)} {w : Mm} (h : QA k (S, F, B, q, T) w) (hT : T = k + q.length) : QA k (S, F, B, q ++ [(m, x, l)], T + 1) (pI (pI (pI (pI w 12 0 T (nI m)) 13 0 T (nI x)) 14 0 T l) 11 0 3 (nI (T + 1))) := by
  obtain ⟨a, b, c, d⟩ := h
  simp only [nT_mk, nQ_mk, nF_mk, nB_mk] at a b c d
  refine ⟨by simp [gI_pI, nG_mk, nF_mk, nB_mk, nQ_mk, nT_mk], fun j m' x' l' e => ?_, fun h hh => by simpa [gI_pI, nG_mk, nF_mk, nB_mk, nQ_mk, nT_mk] using c h hh, fun h hh => by simpa [gI_pI, nG_mk, nF_mk, nB_mk, nQ_mk, nT_mk] using d h hh⟩
  simp only [nQ_mk] at e
  rcases app_some e with ⟨e1, e2⟩ | ⟨e1, e2⟩
  · have := b j m' x' l' e2
    have hne : ¬ (k + j = T) := by omega
    simpa [gI_pI, hne] using this
  · cases e2
    have hne : k + j = T := by omega
    simp [gI_pI, hne]
theorem ra_q {g H R T m x : Nat} {l : Int32} {S : Gs} {w : Mm} (h : RA g H R S w) (hH : H ≤ 8) (hR : R ≤ 8) : RA g H R S (pI (pI (pI (pI w 12 0 T (nI m)) 13 0 T (nI x)) 14 0 T l) 11 0 3 (nI (T + 1))) :=
  ra_o (ra_o (ra_o (ra_o h hH hR (by omega)) hH hR (by omega)) hH hR (by omega)) hH hR (by omega)
theorem p_X3_listenerAt {z u x : Nat} {w : Mm} (h : gI w 23 z u = nI x) (hu : u < 16) : f_X3_listenerAt z (nI u) w = some (nI x, w) := by
  unfold f_X3_listenerAt
  repeat (first | (refine brT ?_ ?_; focus ((simp (disch := omega) only [lit_nI, nI_leI, nI_ltI, nI_eq, nI_clamp, nI_add, nI_sub, vB_nI, Nat.add_sub_cancel, Nat.reduceSub, Nat.reduceLT, Nat.reduceLeDiff, Nat.reduceAdd, gI_pI, p2_pI, Nat.reduceEqDiff, false_and, and_false, true_and, and_true, if_false, if_true, and_self, h] <;> omega); done)) | (refine brF ?_ ?_; focus ((simp (disch := omega) only [lit_nI, nI_leI, nI_ltI, nI_eq, nI_clamp, nI_add, nI_sub, vB_nI, Nat.add_sub_cancel, Nat.reduceSub, Nat.reduceLT, Nat.reduceLeDiff, Nat.reduceAdd, gI_pI, p2_pI, Nat.reduceEqDiff, false_and, and_false, true_and, and_true, if_false, if_true, and_self, h] <;> omega); done)) | (refine gdT ?_ ?_; focus ((simp (disch := omega) only [lit_nI, nI_leI, nI_ltI, nI_eq, nI_clamp, nI_add, nI_sub, vB_nI, Nat.add_sub_cancel, Nat.reduceSub, Nat.reduceLT, Nat.reduceLeDiff, Nat.reduceAdd, gI_pI, p2_pI, Nat.reduceEqDiff, false_and, and_false, true_and, and_true, if_false, if_true, and_self, h] <;> omega); done)) | with_reducible refine sqT ?_)
  rw [nI_clamp (by omega), h]
theorem p_X6_hedgeHears_L89 {g H R h k : Nat} {l : Int32} {S : Gs} {F : Nat → Int32} {B : Nat → Bool} (hS : SH H R S) (hh : h < H) : ∀ (t : List Nat) (u n : Nat) (q : List (Nat × Nat × Int32)) (T : Nat) (w : Mm), (sr S h).drop u = t → u ≤ (sr S h).length → t.length < n → RA g H R S w → QA k (S, F, B, q, T) w → T = k + q.length → T + t.length ≤ 128 →
    ∃ w', f_X6_hedgeHears_L89 (8 * g + h) (nI h) l n (nI u) w = some w' ∧ RA g H R S w' ∧ QA k (S, F, B, q ++ t.map (fun x => (h, x, l - sg S 1 h)), T + t.length) w' ∧ UA g w w'
  | [], u, n + 1, q, T, w, e, hu, hf, hA, hQ, hT, hc => by
    have := drop_nil e
    have hlen := sh_len hS hh
    have c4 := (hA.2.2.1 h hh).2.2.2.1
    refine ⟨w, ?_, hA, by simpa using hQ, UA_rf⟩
    rw [f_X6_hedgeHears_L89]
    exact brT (by rw [c4, nI_leI (by omega) (by omega)]; exact this) rfl
  | x :: t, u, n + 1, q, T, w, e, hu, hf, hA, hQ, hT, hc => by
    have hlen := sh_len hS hh
    obtain ⟨c1, c2, c3, c4, c5⟩ := hA.2.2.1 h hh
    obtain ⟨e1, e2, e3⟩ := rw_at c5 e
    simp only [List.length_cons] at hf hc
    have hq0 := hQ.1
    simp only [nT_mk] at hq0
    have hw := p_X6_whisper (m := h) (x := x) (l := l - sg S 1 h) hq0 (by omega)
    obtain ⟨w', h1, h2, h3, h4⟩ := p_X6_hedgeHears_L89 (l := l) hS hh t (u + 1) n (q ++ [(h, x, l - sg S 1 h)]) (T + 1) _ e3 (by omega) (by omega) (ra_q hA hS.1 hS.2.1) (qa_app (m := h) (x := x) (l := l - sg S 1 h) hQ hT) (by simp; omega) (by omega)
    refine ⟨w', ?_, h2, ?_, UA_tr (UA_p (UA_p (UA_p (UA_p UA_rf (by unfold ownA; omega)) (by unfold ownA; omega)) (by unfold ownA; omega)) (by unfold ownA; omega)) h4⟩
    · rw [f_X6_hedgeHears_L89]
      refine brF (by rw [c4, nI_leI (by omega) (by omega)]; omega) ?_
      refine bd1T (p_X3_listenerAt e1 (by omega)) ?_
      rw [c1]
      refine bd0T hw ?_
      refine sqT ?_
      rw [nI_1]
      exact h1
    · have e4 : T + 1 + t.length = T + (x :: t).length := by simp only [List.length_cons]; omega
      have e5 : q ++ [(h, x, l - sg S 1 h)] ++ t.map (fun x => (h, x, l - sg S 1 h)) = q ++ (x :: t).map (fun x => (h, x, l - sg S 1 h)) := by simp
      rw [e4, e5] at h3
      exact h3
theorem ns_eta (N : Ns) : N = (nG N, nF N, nB N, nQ N, nT N) := rfl
theorem p_X6_hedgeHears {g H R h k : Nat} {l : Int32} {N : Ns} {w : Mm} (hg : g < 2) (hS : SH H R (nG N)) (hA : RA g H R (nG N) w) (hQ : QA k N w) (hh : h < H) (hT : nT N = k + (nQ N).length) (hc : nF N h ≤ 0 → nT N + 15 ≤ 128) :
    ∃ w', f_X6_hedgeHears g (nI h) l w = some w' ∧ RA g H R (nG (nH h l N)) w' ∧ QA k (nH h l N) w' ∧ UA g w w' := by
  have hH := hS.1
  have hR := hS.2.1
  have hlen := sh_len hS hh
  have hf := hQ.2.2.1 h (by omega)
  by_cases e : nF N h ≤ 0
  · have hc := hc e
    obtain ⟨c1, c2, c3, c4, c5⟩ := hA.2.2.1 h hh
    have hA1 : RA g H R (pg (pg (nG N) 2 h (sg (nG N) 2 h + 1)) 3 h l) (pI (pI (pI w 15 0 h l) 22 (8 * g + h) 1 (sg (nG N) 2 h + 1)) 22 (8 * g + h) 2 l) :=
      ra_h (j := 2) (ra_h (j := 1) (ra_o hA hH hR (by omega)) (by omega)) (by omega)
    have hU1 : UA g w (pI (pI (pI w 15 0 h l) 22 (8 * g + h) 1 (sg (nG N) 2 h + 1)) 22 (8 * g + h) 2 l) := UA_p (UA_p (UA_p UA_rf (by unfold ownA; omega)) (by unfold ownA; omega)) (by unfold ownA; omega)
    have hQ1 : QA k (pg (pg (nG N) 2 h (sg (nG N) 2 h + 1)) 3 h l, (fun j => if j = h then l else nF N j), nB N, nQ N, nT N) (pI (pI (pI w 15 0 h l) 22 (8 * g + h) 1 (sg (nG N) 2 h + 1)) 22 (8 * g + h) 2 l) := by
      refine qa_o (qa_o ?_ (by omega)) (by omega)
      obtain ⟨a, b, c, d⟩ := hQ
      refine ⟨by simpa [gI_pI, nG_mk, nF_mk, nB_mk, nQ_mk, nT_mk] using a, fun j m x l e => by simpa [gI_pI, nG_mk, nF_mk, nB_mk, nQ_mk, nT_mk] using b j m x l e, fun j hj => ?_, fun j hj => by simpa [gI_pI, nG_mk, nF_mk, nB_mk, nQ_mk, nT_mk] using d j hj⟩
      simp only [nF_mk, gI_pI, true_and]
      by_cases ej : j = h
      · rw [if_pos ej, if_pos ej]
      · rw [if_neg ej, if_neg ej]; exact c j hj
    have hhush : gI (pI (pI (pI w 15 0 h l) 22 (8 * g + h) 1 (sg (nG N) 2 h + 1)) 22 (8 * g + h) 2 l) 22 (8 * g + h) 0 = sg (nG N) 1 h := by simp [gI_pI, c1]
    have hx : nH h l N = (pg (pg (nG N) 2 h (sg (nG N) 2 h + 1)) 3 h l, (fun j => if j = h then l else nF N j), nB N, nQ N ++ whs (nG N) h l, nT N + (whs (nG N) h l).length) := by unfold nH; rw [if_pos e]
    have run : ∀ r, br (1 ≤ (l - (gI (pI (pI (pI w 15 0 h l) 22 (8 * g + h) 1 (sg (nG N) 2 h + 1)) 22 (8 * g + h) 2 l) 22 (8 * g + h) 0))) (bd0 (f_X6_hedgeHears_L89 (8 * g + h) (nI h) l LF 0 (pI (pI (pI w 15 0 h l) 22 (8 * g + h) 1 (sg (nG N) 2 h + 1)) 22 (8 * g + h) 2 l)) (fun w14 => some w14)) (some (pI (pI (pI w 15 0 h l) 22 (8 * g + h) 1 (sg (nG N) 2 h + 1)) 22 (8 * g + h) 2 l)) = r → f_X6_hedgeHears g (nI h) l w = r := by
      intro r hr
      unfold f_X6_hedgeHears
      refine bd1T (p_X1_hedge hA hH hh) ?_
      refine gdT (by simp only [decide_eq_true_eq]; omega) ?_
      refine brF (nI_pos (by omega)) (brT (by (simp (disch := omega) only [lit_nI, nI_leI, nI_ltI, nI_eq, nI_clamp, nI_add, nI_sub, vB_nI, Nat.add_sub_cancel, Nat.reduceSub, Nat.reduceLT, Nat.reduceLeDiff, Nat.reduceAdd, gI_pI, p2_pI, Nat.reduceEqDiff, false_and, and_false, true_and, and_true, if_false, if_true, and_self] <;> omega)) (gdT ((vB_nI (by omega)).mpr (by omega)) ?_))
      rw [nI_clamp (by omega)]
      refine brT (by rw [hf]; exact e) (gdT ((vB_nI (by omega)).mpr (by omega)) ?_)
      have e1 : gI (pI w 15 0 h l) 22 (8 * g + h) 1 = sg (nG N) 2 h := by simp [gI_pI, c2]
      refine sqT (sqT ?_)
      rw [e1]
      exact sqT hr
    rw [hx]
    by_cases e2 : 1 ≤ l - sg (nG N) 1 h
    · have hw : whs (nG N) h l = (sr (nG N) h).map (fun x => (h, x, l - sg (nG N) 1 h)) := by unfold whs; rw [if_pos e2]
      have hsg : sg (pg (pg (nG N) 2 h (sg (nG N) 2 h + 1)) 3 h l) 1 h = sg (nG N) 1 h := by simp [sg_pg]
      obtain ⟨w', h1, h2, h3, h4⟩ := p_X6_hedgeHears_L89 (l := l) (S := pg (pg (nG N) 2 h (sg (nG N) 2 h + 1)) 3 h l) hS hh (sr (nG N) h) 0 LF (nQ N) (nT N) _ rfl (Nat.zero_le _) (by unfold LF; omega) hA1 hQ1 hT (by omega)
      rw [hsg, ← hw] at h3
      have e6 : (whs (nG N) h l).length = (sr (nG N) h).length := by rw [hw, List.length_map]
      refine ⟨w', run _ (brT (by rw [hhush]; exact e2) (bd0T h1 rfl)), h2, by rw [e6]; exact h3, UA_tr hU1 h4⟩
    · have hw : whs (nG N) h l = [] := by unfold whs; rw [if_neg e2]
      rw [hw]
      exact ⟨_, run _ (brF (by rw [hhush]; exact e2) rfl), hA1, by simpa using hQ1, hU1⟩
  · have hx : nH h l N = (pg (nG N) 0 3 (sg (nG N) 0 3 + 1), nF N, (fun j => if j = h then true else nB N j), nQ N, nT N) := by unfold nH; rw [if_neg e]
    rw [hx]
    have b3 := hA.2.1.2.2.2.1
    have e1 : gI (pI w 16 0 h 1) 19 g 7 = sg (nG N) 0 3 := by simp [gI_pI, b3]
    refine ⟨pI (pI w 16 0 h 1) 19 g 7 (sg (nG N) 0 3 + 1), ?_, ra_s (j := 3) (ra_o hA hH hR (by omega)) (by omega), qa_o ?_ (by omega), UA_p (UA_p UA_rf (by unfold ownA; omega)) (by unfold ownA; omega)⟩
    · unfold f_X6_hedgeHears
      refine bd1T (p_X1_hedge hA hH hh) ?_
      refine gdT (by simp only [decide_eq_true_eq]; omega) ?_
      refine brF (nI_pos (by omega)) (brT (by (simp (disch := omega) only [lit_nI, nI_leI, nI_ltI, nI_eq, nI_clamp, nI_add, nI_sub, vB_nI, Nat.add_sub_cancel, Nat.reduceSub, Nat.reduceLT, Nat.reduceLeDiff, Nat.reduceAdd, gI_pI, p2_pI, Nat.reduceEqDiff, false_and, and_false, true_and, and_true, if_false, if_true, and_self] <;> omega)) (gdT ((vB_nI (by omega)).mpr (by omega)) ?_))
      rw [nI_clamp (by omega)]
      refine brF (by rw [hf]; exact e) (gdT ((vB_nI (by omega)).mpr (by omega)) ?_)
      refine sqT (sqT ?_)
      show some (pI (pI w 16 0 h 1) 19 g 7 (gI (pI w 16 0 h 1) 19 g 7 + 1)) = _
      rw [e1]
    · obtain ⟨a, b, c, d⟩ := hQ
      refine ⟨by simpa [gI_pI, nG_mk, nF_mk, nB_mk, nQ_mk, nT_mk] using a, fun j m x l e => by simpa [gI_pI, nG_mk, nF_mk, nB_mk, nQ_mk, nT_mk] using b j m x l e, fun j hj => by simpa [gI_pI, nG_mk, nF_mk, nB_mk, nQ_mk, nT_mk] using c j hj, fun j hj => ?_⟩
      simp only [nB_mk, gI_pI, Nat.reduceEqDiff, false_and, if_false, true_and]
      by_cases ej : j = h
      · rw [if_pos ej, if_pos ej]; rfl
      · rw [if_neg ej, if_neg ej]; exact d j hj
