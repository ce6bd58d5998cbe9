-- THE PURE PART: a news of the reference; roses
theorem qb_app {k b m x T : Nat} {l : Int32} {S : Gs} {F : Nat → Int32} {B : Nat → Bool} {q : List (Nat × Nat × Int32)} {w : Mm} (h : QB k b (S, F, B, q, T) w) (hT : T = k + q.length) : QB k b (S, F, B, q ++ [(m, x, l)], T + 1) (pI (pI (pI (pI w 40 0 T (nI x)) 41 0 T (nI m)) 42 0 T l) 32 0 18 (nI (T + 1))) := by
  obtain ⟨⟨a1, a2, a3⟩, b, c⟩ := h
  simp only [nT_mk, nQ_mk, nF_mk, nB_mk] at a1 a2 a3 b c
  refine ⟨⟨by simp [gI_pI, nG_mk, nF_mk, nB_mk, nQ_mk, nT_mk], by simpa [gI_pI, nG_mk, nF_mk, nB_mk, nQ_mk, nT_mk] using a2, by simpa [gI_pI, nG_mk, nF_mk, nB_mk, nQ_mk, nT_mk] using a3⟩, fun j m' x' l' e => ?_, fun h hh => by simpa [gI_pI, nG_mk, nF_mk, nB_mk, nQ_mk, nT_mk] using c h hh⟩
  simp only [nQ_mk] at e
  rcases app_some e with ⟨e1, e2⟩ | ⟨e1, e2⟩
  · have := b j m' x' l' e2
    have hne : ¬ (k + j = T) := by omega
    simpa [gI_pI, hne] using this
  · cases e2
    have hne : k + j = T := by omega
    simp [gI_pI, hne]
theorem rb_q {s H R T m x : Nat} {l : Int32} {S : Gs} {w : Mm} (h : RB s H R S w) : RB s H R S (pI (pI (pI (pI w 40 0 T (nI x)) 41 0 T (nI m)) 42 0 T l) 32 0 18 (nI (T + 1))) :=
  rb_o (rb_o (rb_o (rb_o h (by omega)) (by omega)) (by omega)) (by omega)
theorem p_X14_hedgeHears_L80 {s H R h k b : Nat} {l : Int32} {S : Gs} {F : Nat → Int32} {B : Nat → Bool} (hS : SH H R S) (hh : h < H) (hl : 1 ≤ l - sg S 1 h) : ∀ (t : List Nat) (u n : Nat) (q : List (Nat × Nat × Int32)) (T : Nat) (w : Mm), (sr S h).drop u = t → u ≤ (sr S h).length → t.length < n → RB s H R S w → QB k b (S, F, B, q, T) w → T = k + q.length → T + t.length ≤ 128 →
    ∃ w', f_X14_hedgeHears_L80 s (nI h) l n (nI u) w = some w' ∧ RB s H R S w' ∧ QB k b (S, F, B, q ++ t.map (fun x => (h, x, l - sg S 1 h)), T + t.length) w' ∧ UB s w w'
  | [], u, n + 1, q, T, w, e, hu, hf, hB, hQ, hT, hc => by
    have := drop_nil e
    have hlen := sh_len hS hh
    have hH := hS.1
    have c4 := (hB.2.2.1 h hh).2.2.1
    refine ⟨w, ?_, hB, by simpa using hQ, UB_rf⟩
    rw [f_X14_hedgeHears_L80]
    refine gdT ((vB_nI (by omega)).mpr (by omega)) ?_
    rw [nI_clamp (by omega), c4]
    exact brT (by rw [nI_leI (by omega) (by omega)]; exact this) rfl
  | x :: t, u, n + 1, q, T, w, e, hu, hf, hB, hQ, hT, hc => by
    have hlen := sh_len hS hh
    have hH := hS.1
    obtain ⟨⟨p1, p2, p3, p4, p5, p6, p7, p8⟩, b0, c0, d0⟩ := id hB
    obtain ⟨c1, c2, c3, c4⟩ := c0 h hh
    obtain ⟨e1, e2, e3⟩ := rw_at c4 e
    simp only [List.length_cons] at hf hc
    have hq0 := hQ.1.1
    simp only [nT_mk] at hq0
    obtain ⟨w', h1, h2, h3, h4⟩ := p_X14_hedgeHears_L80 (l := l) (b := b) hS hh hl t (u + 1) n (q ++ [(h, x, l - sg S 1 h)]) (T + 1) _ e3 (by omega) (by omega) (rb_q (T := T) (m := h) (x := x) (l := l - sg S 1 h) hB) (qb_app (m := h) (x := x) (l := l - sg S 1 h) hQ hT) (by simp; omega) (by omega)
    refine ⟨w', ?_, h2, ?_, UB_tr (UB_p (UB_p (UB_p (UB_p UB_rf (by unfold ownB; omega)) (by unfold ownB; omega)) (by unfold ownB; omega)) (by unfold ownB; omega)) h4⟩
    · rw [f_X14_hedgeHears_L80]
      refine gdT ((vB_nI (by omega)).mpr (by omega)) ?_
      rw [nI_clamp (by omega), c3]
      refine brF (by rw [nI_leI (by omega) (by omega)]; omega) ?_
      refine gdT p1 (sqT (gdT p2 (gdT ((vB_nI (by omega)).mpr (by omega)) (gdT p3 ?_))))
      rw [p7 h hh]
      refine brF (Int32.not_lt.mpr hl) ?_
      refine bd1T p_X14_at ?_
      refine gdT ((vB_nI (by omega)).mpr (by omega)) ?_
      rw [hq0]
      refine gdT ((vB_nI (by omega)).mpr (by omega)) ?_
      rw [nI_clamp (by omega), nI_clamp (by omega), e1]
      have r18 : ∀ v, gI (pI w 40 0 T v) 32 0 18 = nI T := fun v => by simp [gI_pI, hq0]
      have r18' : ∀ v v', gI (pI (pI w 40 0 T v) 41 0 T v') 32 0 18 = nI T := fun v v' => by simp [gI_pI, hq0]
      have r18'' : ∀ v v' v'', gI (pI (pI (pI w 40 0 T v) 41 0 T v') 42 0 T v'') 32 0 18 = nI T := fun v v' v'' => by simp [gI_pI, hq0]
      have r45 : ∀ v v', gI (pI (pI w 40 0 T v) 41 0 T v') 45 (gR w 32 0 11 - 1) h = sg S 1 h := fun v v' => by simp [gI_pI, p7 h hh]
      refine sqT ?_
      rw [r18]
      refine gdT ((vB_nI (by omega)).mpr (by omega)) ?_
      rw [nI_clamp (by omega)]
      refine sqT (gdT p1 (sqT (gdT p2 (gdT ((vB_nI (by omega)).mpr (by omega)) (gdT p3 ?_)))))
      rw [r18']
      refine gdT ((vB_nI (by omega)).mpr (by omega)) ?_
      rw [nI_clamp (by omega)]
      refine sqT ?_
      rw [show gR (pI (pI w 40 0 T (nI x)) 41 0 T (nI h)) 32 0 11 = gR w 32 0 11 from rfl, r45, r18'']
      refine sqT (sqT ?_)
      rw [nI_1, nI_1]
      exact h1
    · have e4 : T + 1 + t.length = T + (x :: t).length := by simp only [List.length_cons]; omega
      have e5 : q ++ [(h, x, l - sg S 1 h)] ++ t.map (fun x => (h, x, l - sg S 1 h)) = q ++ (x :: t).map (fun x => (h, x, l - sg S 1 h)) := by simp
      rw [e4, e5] at h3
      exact h3
theorem p_X14_hedgeHears_L80n {s H R h : Nat} {l : Int32} {S : Gs} {w : Mm} (hS : SH H R S) (hB : RB s H R S w) (hh : h < H) (hl : ¬ 1 ≤ l - sg S 1 h) : f_X14_hedgeHears_L80 s (nI h) l LF 0 w = some w := by
  have hlen := sh_len hS hh
  have hH := hS.1
  obtain ⟨⟨p1, p2, p3, p4, p5, p6, p7, p8⟩, b0, c0, d0⟩ := id hB
  obtain ⟨c1, c2, c3, c4⟩ := c0 h hh
  unfold LF
  rw [f_X14_hedgeHears_L80]
  refine gdT ((vB_nI (by omega)).mpr (by omega)) ?_
  rw [nI_clamp (by omega), c3]
  by_cases e : nI (sr S h).length ≤ 0
  · exact brT e rfl
  · refine brF e ?_
    refine gdT p1 (sqT (gdT p2 (gdT ((vB_nI (by omega)).mpr (by omega)) (gdT p3 ?_))))
    rw [p7 h hh]
    exact brT (Int32.not_le.mp hl) rfl
theorem p_X14_hedgeHears {s H R h k b : Nat} {l : Int32} {N : Ns} {w : Mm} (hS : SH H R (nG N)) (hB : RB s H R (nG N) w) (hQ : QB k b N w) (hh : h < H) (hb : b < 8) (hT : nT N = k + (nQ N).length) (hc : nF N h ≤ 0 → nT N + 15 ≤ 128) :
    ∃ w', f_X14_hedgeHears s (nI h) l w = some w' ∧ RB s H R (nG (nH h l N)) w' ∧ QB k b (nH h l N) w' ∧ UB s w w' := by
  have hH := hS.1
  have hR := hS.2.1
  have hlen := sh_len hS hh
  have hf := hQ.2.2 h (by omega)
  by_cases e : nF N h ≤ 0
  · have hc := hc e
    obtain ⟨c1, c2, c3, c4⟩ := hB.2.2.1 h hh
    have hB1 : RB s H R (pg (pg (nG N) 2 h (sg (nG N) 2 h + 1)) 3 h l) (pI (pI (pI w 43 0 h l) 58 s h (sg (nG N) 2 h + 1)) 59 s h l) :=
      rb_h (j := 1) (rb_h (j := 0) (rb_o hB (by omega)) (by omega)) (by omega)
    have hU1 : UB s w (pI (pI (pI w 43 0 h l) 58 s h (sg (nG N) 2 h + 1)) 59 s h l) := UB_p (UB_p (UB_p UB_rf (by unfold ownB; omega)) (by unfold ownB; omega)) (by unfold ownB; omega)
    have hQ1 : QB k b (pg (pg (nG N) 2 h (sg (nG N) 2 h + 1)) 3 h l, (fun j => if j = h then l else nF N j), nB N, nQ N, nT N) (pI (pI (pI w 43 0 h l) 58 s h (sg (nG N) 2 h + 1)) 59 s h l) := by
      refine qb_o (qb_o ?_ (by omega)) (by omega)
      obtain ⟨⟨a1, a2, a3⟩, b, c⟩ := hQ
      refine ⟨⟨by simpa [gI_pI, nG_mk, nF_mk, nB_mk, nQ_mk, nT_mk] using a1, by simpa [gI_pI, nG_mk, nF_mk, nB_mk, nQ_mk, nT_mk] using a2, by simpa [gI_pI, nG_mk, nF_mk, nB_mk, nQ_mk, nT_mk] using a3⟩, fun j m x l e => by simpa [gI_pI, nG_mk, nF_mk, nB_mk, nQ_mk, nT_mk] using b j m x l e, fun j hj => ?_⟩
      simp only [nF_mk, gI_pI, true_and]
      by_cases ej : j = h
      · rw [if_pos ej, if_pos ej]
      · rw [if_neg ej, if_neg ej]; exact c j hj
    have hx : nH h l N = (pg (pg (nG N) 2 h (sg (nG N) 2 h + 1)) 3 h l, (fun j => if j = h then l else nF N j), nB N, nQ N ++ whs (nG N) h l, nT N + (whs (nG N) h l).length) := by unfold nH; rw [if_pos e]
    have run : ∀ r, bd0 (f_X14_hedgeHears_L80 s (nI h) l LF 0 (pI (pI (pI w 43 0 h l) 58 s h (sg (nG N) 2 h + 1)) 59 s h l)) (fun w14 => some w14) = r → f_X14_hedgeHears s (nI h) l w = r := by
      intro r hr
      unfold f_X14_hedgeHears
      refine gdT ((vB_nI (by omega)).mpr (by omega)) ?_
      rw [nI_clamp (by omega), hf]
      refine brT e (gdT ((vB_nI (by omega)).mpr (by omega)) (sqT (gdT ((vB_nI (by omega)).mpr (by omega)) (gdT ((vB_nI (by omega)).mpr (by omega)) ?_))))
      have e1 : gI (pI w 43 0 h l) 58 s h = sg (nG N) 2 h := by simp [gI_pI, c1]
      rw [e1]
      exact sqT (gdT ((vB_nI (by omega)).mpr (by omega)) (sqT hr))
    have hsg : sg (pg (pg (nG N) 2 h (sg (nG N) 2 h + 1)) 3 h l) 1 h = sg (nG N) 1 h := by simp [sg_pg]
    rw [hx]
    by_cases e2 : 1 ≤ l - sg (nG N) 1 h
    · have hw : whs (nG N) h l = (sr (nG N) h).map (fun x => (h, x, l - sg (nG N) 1 h)) := by unfold whs; rw [if_pos e2]
      obtain ⟨w', h1, h2, h3, h4⟩ := p_X14_hedgeHears_L80 (l := l) (b := b) (S := pg (pg (nG N) 2 h (sg (nG N) 2 h + 1)) 3 h l) hS hh (by rw [hsg]; exact e2) (sr (nG N) h) 0 LF (nQ N) (nT N) _ rfl (Nat.zero_le _) (by unfold LF; omega) hB1 hQ1 hT (by omega)
      rw [hsg, ← hw] at h3
      have e6 : (whs (nG N) h l).length = (sr (nG N) h).length := by rw [hw, List.length_map]
      refine ⟨w', run _ (bd0T h1 rfl), h2, by rw [e6]; exact h3, UB_tr hU1 h4⟩
    · have hw : whs (nG N) h l = [] := by unfold whs; rw [if_neg e2]
      rw [hw]
      exact ⟨_, run _ (bd0T (p_X14_hedgeHears_L80n (S := pg (pg (nG N) 2 h (sg (nG N) 2 h + 1)) 3 h l) hS hB1 hh (by rw [hsg]; exact e2)) rfl), hB1, by simpa using hQ1, hU1⟩
  · have hx : nH h l N = (pg (nG N) 0 3 (sg (nG N) 0 3 + 1), nF N, (fun j => if j = h then true else nB N j), nQ N, nT N) := by unfold nH; rw [if_neg e]
    rw [hx]
    obtain ⟨⟨a1, a2, a3⟩, qb, qc⟩ := id hQ
    have b3 := hB.2.1.2.2.2
    have a20 : gI (pI w 55 s 3 (sg (nG N) 0 3 + 1)) 32 0 20 = bI (nB N b) := by simp [gI_pI, a3]
    have a19 : gI (pI w 55 s 3 (sg (nG N) 0 3 + 1)) 32 0 19 = nI b := by simp [gI_pI, a2]
    have hQn : ∀ v : Int32, v = bI (if b = h then true else nB N b) → QB k b (pg (nG N) 0 3 (sg (nG N) 0 3 + 1), nF N, (fun j => if j = h then true else nB N j), nQ N, nT N) (pI (pI w 55 s 3 (sg (nG N) 0 3 + 1)) 32 0 20 v) := by
      intro v hv
      refine ⟨⟨by simpa [gI_pI, nG_mk, nF_mk, nB_mk, nQ_mk, nT_mk] using a1, by simpa [gI_pI, nG_mk, nF_mk, nB_mk, nQ_mk, nT_mk] using a2, by simpa [gI_pI, nG_mk, nF_mk, nB_mk, nQ_mk, nT_mk] using hv⟩, fun j m x l e => by simpa [gI_pI, nG_mk, nF_mk, nB_mk, nQ_mk, nT_mk] using qb j m x l e, fun j hj => by simpa [gI_pI, nG_mk, nF_mk, nB_mk, nQ_mk, nT_mk] using qc j hj⟩
    have hBn : ∀ v : Int32, RB s H R (pg (nG N) 0 3 (sg (nG N) 0 3 + 1)) (pI (pI w 55 s 3 (sg (nG N) 0 3 + 1)) 32 0 20 v) := fun v => rb_o (rb_s (j := 3) hB (by omega)) (by omega)
    have hUn : ∀ v : Int32, UB s w (pI (pI w 55 s 3 (sg (nG N) 0 3 + 1)) 32 0 20 v) := fun v => UB_p (UB_p UB_rf (by unfold ownB; omega)) (by unfold ownB; omega)
    by_cases eb : b = h
    · refine ⟨_, ?_, hBn 1, hQn 1 (by rw [if_pos eb]; rfl), hUn 1⟩
      unfold f_X14_hedgeHears
      refine gdT ((vB_nI (by omega)).mpr (by omega)) ?_
      rw [nI_clamp (by omega), hf]
      refine brF e ?_
      rw [b3]
      refine sqT ?_
      rw [a19, a20]
      have e1 : (bI (nB N b) ||| 1) = 1 := by cases nB N b <;> rfl
      rw [e1]
      exact brT (by rw [eb]) (gdT rfl rfl)
    · refine ⟨_, ?_, hBn (bI (nB N b)), hQn _ (by rw [if_neg eb]), hUn _⟩
      unfold f_X14_hedgeHears
      refine gdT ((vB_nI (by omega)).mpr (by omega)) ?_
      rw [nI_clamp (by omega), hf]
      refine brF e ?_
      rw [b3]
      refine sqT ?_
      rw [a19, a20]
      have e1 : (bI (nB N b) ||| 0) = bI (nB N b) := by cases nB N b <;> rfl
      rw [e1]
      exact brF (by rw [nI_eq (by omega) (by omega)]; exact fun q => eb q.symm) (gdT (by cases nB N b <;> rfl) rfl)
-- roses
theorem i_add {a b : Int32} (h1 : -2147483648 ≤ a.toInt + b.toInt) (h2 : a.toInt + b.toInt < 2147483648) : (a + b).toInt = a.toInt + b.toInt := by
  rw [Int32.toInt_add, Int.bmod_eq_of_le] <;> omega
theorem i_sub {a b : Int32} (h1 : -2147483648 ≤ a.toInt - b.toInt) (h2 : a.toInt - b.toInt < 2147483648) : (a - b).toInt = a.toInt - b.toInt := by
  rw [Int32.toInt_sub, Int.bmod_eq_of_le] <;> omega
theorem i_0 : (0 : Int32).toInt = 0 := by decide
theorem i_1 : (1 : Int32).toInt = 1 := by decide
theorem sh_pg {H R c i : Nat} {v : Int32} {S : Gs} (h : SH H R S) : SH H R (pg S c i v) := h
theorem p_X1_roseHears {g H R r h : Nat} {l : Int32} {S : Gs} {w : Mm} (hg : g < 2) (hS : SH H R S) (hA : RA g H R S w) (hh : h < H) (hr : r < R) :
    ∃ w', f_X1_roseHears g (nI (8 + r)) (nI h) l w = some w' ∧ RA g H R (sR S r h l) w' ∧ UA g w w' := by
  have hH := hS.1
  have hR := hS.2.1
  obtain ⟨d1, d2, d3, d4⟩ := hA.2.2.2 r hr
  have er : nI (8 + r) - 8 = nI r := by rw [nI_m8' (by omega)]; congr 1; omega
  have hA1 : RA g H R (pg (pg S 5 r (sg S 5 r + l)) 6 r (sg S 6 r + 1)) (pI (pI w 24 (8 * g + r) 1 (sg S 5 r + l)) 24 (8 * g + r) 2 (sg S 6 r + 1)) := ra_r (j := 2) (ra_r (j := 1) hA (by omega)) (by omega)
  have hU1 : UA g w (pI (pI w 24 (8 * g + r) 1 (sg S 5 r + l)) 24 (8 * g + r) 2 (sg S 6 r + 1)) := UA_p (UA_p UA_rf (by unfold ownA; omega)) (by unfold ownA; omega)
  have r1 : gI (pI w 24 (8 * g + r) 1 (sg S 5 r + l)) 24 (8 * g + r) 2 = sg S 6 r := by simp [gI_pI, d3]
  have r2 : gI (pI (pI w 24 (8 * g + r) 1 (sg S 5 r + l)) 24 (8 * g + r) 2 (sg S 6 r + 1)) 24 (8 * g + r) 2 = sg S 6 r + 1 := by simp [gI_pI, nG_mk, nF_mk, nB_mk, nQ_mk, nT_mk]
  have r3 : gI (pI (pI w 24 (8 * g + r) 1 (sg S 5 r + l)) 24 (8 * g + r) 2 (sg S 6 r + 1)) 24 (8 * g + r) 0 = sg S 4 r := by simp [gI_pI, d1]
  by_cases e : sg S 6 r + 1 = sg S 4 r
  · obtain ⟨w', h1, h2, h3, -⟩ := p_X1_stopListening (x := 8 + r) hg (sh_pg (sh_pg hS)) hA1 hh (by omega)
    have q3 : gI (pI w' 24 (8 * g + r) 2 0) 24 (8 * g + r) 3 = sg S 7 r := by
      have := (h2.2.2.2 r hr).2.2.2
      rw [gI_pI, if_neg (by omega), this]
      unfold sLea
      split <;> simp [sg_pg, sg_pr]
    have q4 : ∀ v, gI (pI (pI w' 24 (8 * g + r) 2 0) 24 (8 * g + r) 3 v) 19 g 8 = sg S 0 4 := by
      intro v
      have := h2.2.1.2.2.2.2
      simp only [gI_pI, Nat.reduceEqDiff, false_and, if_false]
      rw [this]
      unfold sLea
      split <;> simp [sg_pg, sg_pr]
    refine ⟨pI (pI (pI w' 24 (8 * g + r) 2 0) 24 (8 * g + r) 3 (sg S 7 r + 1)) 19 g 8 (sg S 0 4 + 1), ?_, ?_, UA_p (UA_p (UA_p (UA_tr hU1 h3) (by unfold ownA; omega)) (by unfold ownA; omega)) (by unfold ownA; omega)⟩
    · unfold f_X1_roseHears
      rw [er]
      refine bd1T (p_X1_rose hA hR hr) ?_
      refine gdT (by simp only [decide_eq_true_eq]; omega) ?_
      rw [d2]
      refine sqT ?_
      rw [r1]
      refine sqT ?_
      rw [r2, r3]
      refine brT e (bd1T h1 (sqT ?_))
      rw [q3]
      refine sqT ?_
      rw [q4]
      rfl
    · unfold sR
      rw [if_pos e]
      exact ra_s (j := 4) (ra_r (j := 3) (ra_r (j := 2) h2 (by omega)) (by omega)) (by omega)
  · refine ⟨_, ?_, by unfold sR; rw [if_neg e]; exact hA1, hU1⟩
    unfold f_X1_roseHears
    rw [er]
    refine bd1T (p_X1_rose hA hR hr) ?_
    refine gdT (by simp only [decide_eq_true_eq]; omega) ?_
    rw [d2]
    refine sqT ?_
    rw [r1]
    refine sqT ?_
    rw [r2, r3]
    exact brF e rfl
theorem plc_mem {x : Nat} {l : List Nat} (m : x ∈ l) : ∃ j, plc x l 0 = some j := by
  cases e : plc x l 0 with
  | none => exact (plc_none.mp e m).elim
  | some j => exact ⟨j, rfl⟩
theorem p_X14_roseHears {s H R r h : Nat} {l : Int32} {S : Gs} {w : Mm} (hS : SH H R S) (hB : RB s H R S w) (hh : h < H) (hr : r < R) (m : 8 + r ∈ sr S h) (hc : 0 ≤ (sg S 6 r).toInt ∧ (sg S 6 r).toInt < (sg S 4 r).toInt ∧ (sg S 4 r).toInt ≤ 9) :
    ∃ w', f_X14_roseHears s (nI r) (nI h) l w = some w' ∧ RB s H R (sR S r h l) w' ∧ UB s w w' := by
  have hH := hS.1
  have hR := hS.2.1
  obtain ⟨⟨p1, p2, p3, p4, p5, p6, p7, p8⟩, b0, c0, d0⟩ := id hB
  obtain ⟨d1, d2, d3⟩ := d0 r hr
  have hv : ∀ n, r < n → vB (nI r) n = true := fun n hn => (vB_nI (by omega)).mpr hn
  have hcl : (nI r).toNatClampNeg = r := nI_clamp (by omega)
  have hB1 : RB s H R (pg (pg S 5 r (sg S 5 r + l)) 6 r (sg S 6 r + 1)) (pI (pI w 60 s r (sg S 5 r + l)) 61 s r (sg S 6 r + 1)) := rb_r (j := 1) (rb_r (j := 0) hB (by omega)) (by omega)
  have hU1 : UB s w (pI (pI w 60 s r (sg S 5 r + l)) 61 s r (sg S 6 r + 1)) := UB_p (UB_p UB_rf (by unfold ownB; omega)) (by unfold ownB; omega)
  have r1 : gI (pI w 60 s r (sg S 5 r + l)) 61 s r = sg S 6 r := by simp [gI_pI, d2]
  have r2 : gI (pI (pI w 60 s r (sg S 5 r + l)) 61 s r (sg S 6 r + 1)) 61 s r = sg S 6 r + 1 := by simp [gI_pI, nG_mk, nF_mk, nB_mk, nQ_mk, nT_mk]
  have r3 : gI (pI (pI w 60 s r (sg S 5 r + l)) 61 s r (sg S 6 r + 1)) 46 (gR w 32 0 11 - 1) r = sg S 4 r := by simp [gI_pI, p8 r hr]
  have hi : (sg S 6 r + 1).toInt = (sg S 6 r).toInt + 1 := by rw [i_add] <;> rw [i_1] <;> omega
  have head : ∀ x, br (sg S 4 r ≤ sg S 6 r + 1) (gd (vB (nI r) 8) (sq (pI (pI (pI w 60 s r (sg S 5 r + l)) 61 s r (sg S 6 r + 1)) 61 s r 0) (fun w14 => gd (vB (nI r) 8) (gd (vB (nI r) 8) (sq (pI w14 62 s r ((gI w14 62 s r) + 1)) (fun w17 => bd1 (f_X14_leaves s (8 + (nI r)) (nI h) w17) (fun r18 w19 => some w19))))))) (some (pI (pI w 60 s r (sg S 5 r + l)) 61 s r (sg S 6 r + 1))) = x → f_X14_roseHears s (nI r) (nI h) l w = x := by
    intro x hx
    unfold f_X14_roseHears
    refine gdT (hv 8 (by omega)) (gdT (hv 8 (by omega)) ?_)
    rw [hcl, d1]
    refine sqT (gdT (hv 8 (by omega)) (gdT (hv 8 (by omega)) ?_))
    rw [r1]
    refine sqT (gdT (hv 8 (by omega)) (gdT p1 (sqT (gdT p2 (gdT (hv 8 (by omega)) (gdT p4 ?_))))))
    rw [r2, show gR (pI (pI w 60 s r (sg S 5 r + l)) 61 s r (sg S 6 r + 1)) 32 0 11 = gR w 32 0 11 from rfl, r3]
    exact hx
  by_cases e : sg S 6 r + 1 = sg S 4 r
  · have hB2 : RB s H R (pg (pg (pg (pg S 5 r (sg S 5 r + l)) 6 r (sg S 6 r + 1)) 6 r 0) 7 r (sg S 7 r + 1)) (pI (pI (pI (pI w 60 s r (sg S 5 r + l)) 61 s r (sg S 6 r + 1)) 61 s r 0) 62 s r (sg S 7 r + 1)) := rb_r (j := 2) (rb_r (j := 1) hB1 (by omega)) (by omega)
    obtain ⟨w', h1, h2, h3⟩ := p_X14_leaves (x := 8 + r) (sh_pg (sh_pg (sh_pg (sh_pg hS)))) hB2 hh (by omega) m
    have r4 : gI (pI (pI (pI w 60 s r (sg S 5 r + l)) 61 s r (sg S 6 r + 1)) 61 s r 0) 62 s r = sg S 7 r := by simp [gI_pI, d3]
    have e8 : (8 : Int32) + nI r = nI (8 + r) := by rw [lit_nI, nI_add]
    refine ⟨w', ?_, ?_, UB_tr (UB_p (UB_p hU1 (by unfold ownB; omega)) (by unfold ownB; omega)) h3⟩
    · refine head _ (brT (by rw [e]; exact Int32.le_refl _) (gdT (hv 8 (by omega)) (sqT (gdT (hv 8 (by omega)) (gdT (hv 8 (by omega)) ?_)))))
      rw [r4]
      refine sqT ?_
      rw [e8]
      exact bd1T h1 rfl
    · have : sR S r h l = pg (sLea (pg (pg (pg (pg S 5 r (sg S 5 r + l)) 6 r (sg S 6 r + 1)) 6 r 0) 7 r (sg S 7 r + 1)) h (8 + r)) 0 4 (sg S 0 4 + 1) := by
        unfold sR
        rw [if_pos e]
        obtain ⟨j, hj⟩ := plc_mem m
        unfold sLea
        simp only [sr_pg, hj]
        rfl
      rw [this]
      exact rb_d h2
  · refine ⟨_, head _ (brF ?_ rfl), by unfold sR; rw [if_neg e]; exact hB1, hU1⟩
    intro q
    have q := Int32.le_iff_toInt_le.mp q
    refine e (Int32.toInt_inj.mp ?_)
    omega
