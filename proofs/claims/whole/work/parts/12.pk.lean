-- THE PURE PART: by hand
theorem cz_mv {P : Nat → Nat → Mm → Prop} {b t H R : Nat} {S' : Gs} {w w1 : Mm} {eL : Option (Int32 × Mm)} {eM : Mm → Option (Int32 × Mm)} {v : Int32} (hP : Stb P) (ht : t + 1 ≤ 512) (hb : Bz b w) (hp : P H R w) (h1 : eL = some (0, pL w1 63 0 0 v.toInt64)) (u1 : EqR w w1) (hA : RA 0 H R S' w1) (hO : OK (376320 * ((t + 1 : Nat) : Int)) H R S')
    (h2 : ∀ z, gZ w1 ≤ z → ∃ w2, eM (pZ (pL w1 63 0 0 v.toInt64) z) = some (v, w2) ∧ gI w2 32 0 0 = 0 ∧ RB 0 H R S' w2 ∧ (∀ c k i, ((c = 19 ∧ k = 0) ∨ ((c = 22 ∨ c = 23 ∨ c = 24) ∧ 8 * 0 ≤ k ∧ k < 8 * 0 + 8)) → gI w2 c k i = gI (pZ (pL w1 63 0 0 v.toInt64) z) c k i) ∧ EqR (pZ (pL w1 63 0 0 v.toInt64) z) w2 ∧ w2.2 = (pZ (pL w1 63 0 0 v.toInt64) z).2) : CZ eL eM (Iv P b (t + 1)) := by
  refine ⟨0, _, h1, fun z hz => ?_⟩
  obtain ⟨w2, h3, h4, h5, h6, h7, h8⟩ := h2 z hz
  have hE : EqR w w2 := eqr_tr (eqr_tr (eqr_tr u1 eqr_pL) (eqr_pZ hz)) h7
  refine ⟨v, w2, h3, h4, fun _ => ?_, H, R, S', ?_, h5, hO, ht, bt_eqr hb hE, hP _ _ _ _ hE hp⟩
  · rw [gL_2 h8]; exact i64_pL (w := w1)
  · exact ra_cg (show RA 0 H R S' (pZ (pL w1 63 0 0 v.toInt64) z) from hA) hO.1.1.1 hO.1.1.2.1 h6
theorem ok_lea {B : Int} {H R h x : Nat} {S : Gs} (q : OK B H R S) : OK B H R (sLea S h x) := by
  obtain ⟨⟨s1, s2, s3, s4⟩, p⟩ := q
  exact ⟨⟨sh_lea s1, by rw [sg_lea]; exact s2, by rw [sg_lea]; exact s3, by rw [sg_lea]; exact s4⟩, by rw [sg_lea]; exact p⟩
theorem sg_lis {S : Gs} {h x c i : Nat} (hc : c ≠ 6) : sg (sLis S h x) c i = sg S c i := by
  unfold sLis
  split
  · rw [sg_pg, if_neg (by omega)]; rfl
  · rfl
theorem sr_lis {S : Gs} {h x h' : Nat} : sr (sLis S h x) h' = if h' = h then sr S h ++ [x] else sr S h' := by
  unfold sLis
  split <;> rfl
theorem ok_lis {B : Int} {H R h x : Nat} {S : Gs} (q : OK B H R S) (hc : canL S h x = true) (hx : x < H ∨ (8 ≤ x ∧ x < 8 + R)) : OK B H R (sLis S h x) := by
  obtain ⟨⟨⟨q1, q2, q3⟩, s2, s3, s4⟩, p⟩ := q
  simp only [canL, ne_eq, Bool.and_eq_true, decide_eq_true_eq] at hc
  refine ⟨⟨⟨q1, q2, fun y hy => ?_⟩, fun y hy => ?_, fun r hr => ?_, ?_⟩, fun r hr => ?_⟩
  · obtain ⟨n1, n2⟩ := q3 y hy
    rw [sr_lis]
    by_cases e : y = h
    · subst e
      rw [if_pos rfl]
      refine ⟨List.nodup_append.mpr ⟨n1, List.nodup_cons.mpr ⟨List.not_mem_nil, List.nodup_nil⟩, fun a ha c hc' e => ?_⟩, fun z hz => ?_⟩
      · rw [List.mem_singleton] at hc'
        rw [e, hc'] at ha
        exact hc.2 ha
      · rw [List.mem_append, List.mem_singleton] at hz
        rcases hz with hz | hz
        · exact n2 z hz
        · rw [hz]
          rcases hx with hx | hx
          · exact Or.inl ⟨hx, hc.1⟩
          · exact Or.inr hx
    · rw [if_neg e]
      exact ⟨n1, n2⟩
  · rw [sg_lis (by omega)]; exact s2 y hy
  · have := s3 r hr
    rw [sg_lis (c := 4) (by omega)]
    unfold sLis
    split
    · rw [sg_pg]
      split
      · have e := i_0; omega
      · exact this
    · exact this
  · have e : sg (sLis S h x) 7 = sg S 7 := by funext i; exact sg_lis (by omega)
    rw [e, sg_lis (by omega)]; exact s4
  · rw [sg_lis (by omega)]; exact p r hr
theorem b_no {a : Int32} {w : Mm} : f_X15_no a w = some (0, pI w 32 0 0 a) := rfl
theorem lis_core {P : Nat → Nat → Mm → Prop} {b t H R h x : Nat} {S : Gs} {w : Mm} {eL : Option (Int32 × Mm)} {eM : Mm → Option (Int32 × Mm)} (hP : Stb P) (ht : t + 1 ≤ 512) (ht0 : t ≤ 512) (hb : Bz b w) (hp : P H R w) (hA : RA 0 H R S w) (hB : RB 0 H R S w) (hO : OK (376320 * t) H R S) (hh : h < H) (hx : x < H ∨ (8 ≤ x ∧ x < 8 + R))
    (e1 : ∀ r, bw (f_X12_placeAfterListening (nI x) (nI h) w) (fun x9 w2 => br (x9 = 0) (some ((1 : Int32), w2)) (br (x9 = 1) (some (2, w2)) none)) (fun r1 w2 => gd (vB 0 1) (sq (pL w2 63 0 (0 : Int32).toNatClampNeg r1.toInt64) (fun w6 => some (0, w6)))) = r → eL = r)
    (e2 : ∀ u r, RB 0 H R S u → bd1 (f_X15_listens (nI x) (nI h) (pI u 32 0 0 0)) (fun r15 w16 => some (r15, w16)) = r → eM u = r) : CZ eL eM (Iv P b (t + 1)) := by
  have hS := hO.1.1
  have hH := hS.1
  have hR := hS.2.1
  have hlen := sh_len hS hh
  obtain ⟨w1, a1, a2, a3, a4⟩ := p_X1_startListening (by omega) hS hA hh hx
  by_cases hc : canL S h x = true
  · rw [if_pos hc] at a1 a2
    have c4 := (a2.2.2.1 h hh).2.2.2.1
    rw [show 8 * 0 + h = h by omega, sr_lis, if_pos rfl, List.length_append] at c4
    refine cz_mv (w1 := w1) (S' := sLis S h x) (v := nI (sr S h).length) hP ht hb hp ?_ (eqr_UA a3) a2 (ok_mono (ok_lis hO hc hx) (by omega)) fun z hz => ?_
    · refine e1 _ (bwT (x := nI (sr S h).length) (w := w1) ?_ (gdT rfl rfl))
      unfold f_X12_placeAfterListening
      refine bxT (a_hN hA hH hh) (bd1T a1 (brF (by decide) ?_))
      refine gdT (by simp only [decide_eq_true_eq]; omega) ?_
      rw [c4, List.length_singleton, nI_pred]
    · have hB1 : RB 0 H R S (pZ (pL w1 63 0 0 (nI (sr S h).length).toInt64) z) := (rb_UA a3 hB : RB 0 H R S w1)
      have hB2 : RB 0 H R S (pI (pZ (pL w1 63 0 0 (nI (sr S h).length).toInt64) z) 32 0 0 0) := rb_o hB1 (by omega)
      obtain ⟨w2, b1, b2, b3⟩ := p_X14_listens hS hB2 hh hx
      refine ⟨w2, e2 _ _ hB1 ?_, ?_, b2, fun c k i q => ?_, eqr_tr (eqr_pI (by omega)) (eqr_UB b3), b3.2⟩
      · unfold f_X15_listens
        refine bd1T (bd1T (p_X14_canListen hS hB2 hh (by omega)) (brF ?_ (bd1T b1 rfl))) rfl
        rw [if_pos hc]; decide
      · have := (fr_X14_listens 0 (nI x) (nI h) _ _ b1).1 32 (by decide) 0 0
        rw [show gI w2 32 0 0 = _ from this.1]
        simp [gI_pI]
      · rw [b3.1 _ _ _ (by unfold ownB; omega), gI_pI, if_neg (by omega)]
  · have hc' : canL S h x = false := by simpa using hc
    have := a4 hc'
    subst this
    rw [if_neg hc] at a1
    refine cz_thr hP ⟨H, R, S, hA, hB, hO, ht0, hb, hp⟩ ht (c := 2) (by decide) ?_ fun z hz => ?_
    · refine e1 _ (bwE (x := 1) (w := w1) ?_ (brF (by decide) (brT rfl rfl)))
      unfold f_X12_placeAfterListening
      exact bxT (a_hN hA hH hh) (bd1T a1 (brT rfl rfl))
    · have hB1 : RB 0 H R S (pZ w1 z) := hB
      have hB2 : RB 0 H R S (pI (pZ w1 z) 32 0 0 0) := rb_o hB1 (by omega)
      refine ⟨0, pI (pI (pZ w1 z) 32 0 0 0) 32 0 0 2, e2 _ _ hB1 ?_, by simp [gI_pI], Or.inr ⟨_, rfl⟩⟩
      unfold f_X15_listens
      refine bd1T (bd1T (p_X14_canListen hS hB2 hh (by omega)) (brT ?_ (bd1T b_no rfl))) rfl
      rw [if_neg hc]
theorem lea_core {P : Nat → Nat → Mm → Prop} {b t H R h x : Nat} {S : Gs} {w : Mm} {eL : Option (Int32 × Mm)} {eM : Mm → Option (Int32 × Mm)} (hP : Stb P) (ht : t + 1 ≤ 512) (ht0 : t ≤ 512) (hb : Bz b w) (hp : P H R w) (hA : RA 0 H R S w) (hB : RB 0 H R S w) (hO : OK (376320 * t) H R S) (hh : h < H) (hx : x < 16)
    (e1 : ∀ r, bw (f_X12_listenersAfterLeaving (nI x) (nI h) w) (fun x9 w2 => br (x9 = 0) (some ((1 : Int32), w2)) (br (x9 = 1) (some (2, w2)) none)) (fun r1 w2 => gd (vB 0 1) (sq (pL w2 63 0 (0 : Int32).toNatClampNeg r1.toInt64) (fun w6 => some (0, w6)))) = r → eL = r)
    (e2 : ∀ u r, RB 0 H R S u → bd1 (f_X15_leaves (nI x) (nI h) (pI u 32 0 0 0)) (fun r15 w16 => some (r15, w16)) = r → eM u = r) : CZ eL eM (Iv P b (t + 1)) := by
  have hS := hO.1.1
  have hH := hS.1
  have hR := hS.2.1
  have hlen := sh_len hS hh
  obtain ⟨w1, a1, a2, a3, a4⟩ := p_X1_stopListening (by omega) hS hA hh hx
  by_cases m : x ∈ sr S h
  · rw [if_pos m] at a1
    have c4 := (a2.2.2.1 h hh).2.2.2.1
    rw [show 8 * 0 + h = h by omega, sr_lea, if_pos rfl, List.length_erase_of_mem m] at c4
    refine cz_mv (w1 := w1) (S' := sLea S h x) (v := nI ((sr S h).length - 1)) hP ht hb hp ?_ (eqr_UA a3) a2 (ok_mono (ok_lea hO) (by omega)) fun z hz => ?_
    · refine e1 _ (bwT (x := nI ((sr S h).length - 1)) (w := w1) ?_ (gdT rfl rfl))
      unfold f_X12_listenersAfterLeaving
      refine bxT (a_hN hA hH hh) (bd1T a1 (brF (by decide) ?_))
      refine gdT (by simp only [decide_eq_true_eq]; omega) ?_
      rw [c4]
    · have hB1 : RB 0 H R S (pZ (pL w1 63 0 0 (nI ((sr S h).length - 1)).toInt64) z) := (rb_UA a3 hB : RB 0 H R S w1)
      have hB2 : RB 0 H R S (pI (pZ (pL w1 63 0 0 (nI ((sr S h).length - 1)).toInt64) z) 32 0 0 0) := rb_o hB1 (by omega)
      obtain ⟨w2, b1, b2, b3⟩ := p_X14_leaves hS hB2 hh hx m
      refine ⟨w2, e2 _ _ hB1 ?_, ?_, b2, fun c k i q => ?_, eqr_tr (eqr_pI (by omega)) (eqr_UB b3), b3.2⟩
      · unfold f_X15_leaves
        refine bd1T (bd1T (p_X14_place hS hB2 hh hx) (brF ?_ (bd1T b1 rfl))) rfl
        rw [place_m1 (by omega)]; exact fun q => q m
      · have := (fr_X14_leaves 0 (nI x) (nI h) _ _ b1).1 32 (by decide) 0 0
        rw [show gI w2 32 0 0 = _ from this.1]
        simp [gI_pI]
      · rw [b3.1 _ _ _ (by unfold ownB; omega), gI_pI, if_neg (by omega)]
  · have := a4 m
    subst this
    rw [if_neg m] at a1
    refine cz_thr hP ⟨H, R, S, hA, hB, hO, ht0, hb, hp⟩ ht (c := 2) (by decide) ?_ fun z hz => ?_
    · refine e1 _ (bwE (x := 1) (w := w1) ?_ (brF (by decide) (brT rfl rfl)))
      unfold f_X12_listenersAfterLeaving
      exact bxT (a_hN hA hH hh) (bd1T a1 (brT rfl rfl))
    · have hB1 : RB 0 H R S (pZ w1 z) := hB
      have hB2 : RB 0 H R S (pI (pZ w1 z) 32 0 0 0) := rb_o hB1 (by omega)
      refine ⟨0, pI (pI (pZ w1 z) 32 0 0 0) 32 0 0 2, e2 _ _ hB1 ?_, by simp [gI_pI], Or.inr ⟨_, rfl⟩⟩
      unfold f_X15_leaves
      refine bd1T (bd1T (p_X14_place hS hB2 hh hx) (brT ?_ (bd1T b_no rfl))) rfl
      rw [place_m1 (by omega)]; exact m
