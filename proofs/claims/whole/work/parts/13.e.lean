-- THE PURE PART: feed
def bN (a : Int32) (k : Nat) : Nat := ((a >>> nI (24 - 8 * k)) &&& 255).toBitVec.toNat
theorem bN_eq (a : Int32) (k : Nat) : (a >>> nI (24 - 8 * k)) &&& 255 = nI (bN a k) := by
  apply Int32.toBitVec_inj.mp
  show _ = (Int32.ofNat _).toBitVec
  unfold bN
  rw [Int32.toBitVec_ofNat', BitVec.ofNat_toNat, BitVec.setWidth_eq]
theorem bN_lt (a : Int32) (k : Nat) : bN a k < 256 := by
  unfold bN
  rw [Int32.toBitVec_and, BitVec.toNat_and]
  exact Nat.lt_of_le_of_lt Nat.and_le_right (by decide)
def by4 (a : Int32) : List Nat := [bN a 0, bN a 1, bN a 2, bN a 3]
def TA (T : List Nat) (w : Mm) : Prop := gI w 2 0 1 = nI T.length ∧ ∀ j x, T[j]? = some x → gI w 3 0 j &&& 255 = nI x
theorem ta_put {T : List Nat} {w : Mm} {v : Int32} {x : Nat} (h : TA T w) (hv : v &&& 255 = nI x) : TA (T ++ [x]) (pI (pI w 3 0 T.length v) 2 0 1 (nI (T.length + 1))) := by
  obtain ⟨h1, h2⟩ := h
  refine ⟨by simp [gI_pI], fun j y e => ?_⟩
  rw [gI_pI, if_neg (by omega), gI_pI]
  by_cases q : j = T.length
  · subst q
    rw [if_pos ⟨rfl, rfl, rfl⟩, hv]
    simp at e
    rw [e]
  · rw [if_neg (by omega)]
    have : j < T.length := by
      have := (List.getElem?_eq_some_iff.mp e).1
      simp only [List.length_append, List.length_singleton] at this
      omega
    rw [List.getElem?_append_left this] at e
    exact h2 j y e
theorem a_addS {z u u' : Int32} {k : Nat} {T : List Nat} {w : Mm} (h : TA T w) (hn : T.length < 2000) (hu : 0 ≤ u) (hs : u &&& 31 = nI (24 - 8 * k)) (hu' : u + -8 = u') :
    ∃ w', (∀ n, f_X10_add_L3 z (n + 1) u w = f_X10_add_L3 z n u' w') ∧ TA (T ++ [bN z k]) w' ∧ w'.2 = w.2 ∧ (∀ c k i, c ≠ 2 → c ≠ 3 → gI w' c k i = gI w c k i) := by
  have h1 := h.1
  refine ⟨_, fun n => ?_, ta_put (v := vp_nar .byte ((z >>> nI (24 - 8 * k)).toInt8.toInt32)) h (by rw [byte_rd, bN_eq]), rfl, fun c k i h2 h3 => by rw [gI_pI, if_neg (by omega), gI_pI, if_neg (by omega)]⟩
  rw [f_X10_add_L3, h1]
  refine brF (Int32.not_lt.mpr hu) (brF (nI_pos (by omega)) (brF (by (simp (disch := omega) only [lit_nI, nI_leI, nI_ltI, nI_eq, nI_clamp, nI_add, nI_sub, vB_nI, Nat.add_sub_cancel, Nat.reduceSub, Nat.reduceLT, Nat.reduceLeDiff, Nat.reduceAdd, gI_pI, p2_pI, Nat.reduceEqDiff, false_and, and_false, true_and, and_true, if_false, if_true, and_self] <;> omega)) (gdT ((vB_nI (by omega)).mpr hn) ?_)))
  rw [nI_clamp (by omega), hs, hu']
  refine sqT ?_
  have e : gI (pI w 3 0 T.length (vp_nar .byte ((z >>> nI (24 - 8 * k)).toInt8.toInt32))) 2 0 1 = nI T.length := by rw [gI_pI, if_neg (by omega)]; exact h1
  rw [e, nI_1]
  exact sqT (sqT rfl)
theorem a_add {z : Int32} {T : List Nat} {w : Mm} (h : TA T w) (hn : T.length + 4 ≤ 2000) : ∃ w', f_X10_add z w = some w' ∧ TA (T ++ by4 z) w' ∧ w'.2 = w.2 ∧ (∀ c k i, c ≠ 2 → c ≠ 3 → gI w' c k i = gI w c k i) := by
  have eL : LF = 999995 + 1 + 1 + 1 + 1 + 1 := by decide
  obtain ⟨w1, g1, h1, e1, f1⟩ := a_addS (z := z) (u := 24) (u' := 16) (k := 0) h (by omega) (by decide) (by decide) (by decide)
  obtain ⟨w2, g2, h2, e2, f2⟩ := a_addS (z := z) (u := 16) (u' := 8) (k := 1) h1 (by simp; omega) (by decide) (by decide) (by decide)
  obtain ⟨w3, g3, h3, e3, f3⟩ := a_addS (z := z) (u := 8) (u' := 0) (k := 2) h2 (by simp; omega) (by decide) (by decide) (by decide)
  obtain ⟨w4, g4, h4, e4, f4⟩ := a_addS (z := z) (u := 0) (u' := -8) (k := 3) h3 (by simp; omega) (by decide) (by decide) (by decide)
  refine ⟨w4, ?_, by simpa [by4] using h4, e4.trans (e3.trans (e2.trans e1)), fun c k i q q' => (f4 c k i q q').trans ((f3 c k i q q').trans ((f2 c k i q q').trans (f1 c k i q q')))⟩
  unfold f_X10_add
  refine bd0T (w := w4) ?_ rfl
  rw [eL, g1, g2, g3, g4, f_X10_add_L3]
  exact brT (by decide) rfl
def fed (f : Nat → Int32) : List Nat := (List.range 20).map fun u => bN (f (u / 4)) (u % 4)
theorem fed_at (f : Nat → Int32) {u : Nat} (h : u < 20) : (fed f)[u]? = some (bN (f (u / 4)) (u % 4)) := by
  unfold fed
  rw [List.getElem?_map, List.getElem?_range h]
  rfl
theorem d4 : ∀ u, u < 20 → nI u / 4 = nI (u / 4) := by decide
theorem d5 : ∀ u, u < 20 → (24 - (8 * (nI u - nI (u / 4) * 4))) &&& 31 = nI (24 - 8 * (u % 4)) := by decide
theorem b_fedL {b p n : Nat} {f : Nat → Int32} (hn : n + 20 ≤ 2000) : ∀ (d u m : Nat) (w : Mm), u + d = 20 → d < m → gI w 32 0 2 = nI n → (∀ j, j < 5 → gI w 64 p j = f j) → shS w b 64 p 0 = true → ∃ w', f_X15_feed_L51 b p m (nI u) w = some w' ∧ w'.2 = w.2 ∧ (∀ c k i, c ≠ 33 → gI w' c k i = gI w c k i) ∧ (∀ i, gI w' 33 0 i = if n + u ≤ i ∧ i < n + 20 then nI (bN (f ((i - n) / 4)) ((i - n) % 4)) else gI w 33 0 i)
  | 0, u, m + 1, w, hu, hm, h2, h64, hs => by
    have hu : u = 20 := by omega
    subst hu
    refine ⟨w, ?_, rfl, fun _ _ _ _ => rfl, fun i => by rw [if_neg]; omega⟩
    rw [f_X15_feed_L51]
    exact brT (by decide) rfl
  | d + 1, u, m + 1, w, hu, hm, h2, h64, hs => by
    have hu20 : u < 20 := by omega
    obtain ⟨w', g1, g2, g3, g4⟩ := b_fedL (b := b) (p := p) (n := n) (f := f) hn d (u + 1) m (pI w 33 0 (n + u) (nI (bN (f (u / 4)) (u % 4)))) (by omega) (by omega) (by rw [gI_pI, if_neg (by omega)]; exact h2) (fun j hj => by rw [gI_pI, if_neg (by omega)]; exact h64 j hj) hs
    refine ⟨w', ?_, g2, fun c k i q => ?_, fun i => ?_⟩
    · rw [f_X15_feed_L51, d4 u hu20, h2, nI_add]
      refine brF (by (simp (disch := omega) only [lit_nI, nI_leI, nI_ltI, nI_eq, nI_clamp, nI_add, nI_sub, vB_nI, Nat.add_sub_cancel, Nat.reduceSub, Nat.reduceLT, Nat.reduceLeDiff, Nat.reduceAdd, gI_pI, p2_pI, Nat.reduceEqDiff, false_and, and_false, true_and, and_true, if_false, if_true, and_self] <;> omega)) (gdT ((vB_nI (by omega)).mpr (by omega)) (gdT hs (gdT ((vB_nI (by omega)).mpr (by omega)) ?_)))
      rw [nI_clamp (by omega), nI_clamp (by omega), d5 u hu20, h64 (u / 4) (by omega), bN_eq, nI_1]
      exact sqT (sqT g1)
    · rw [g3 c k i q, gI_pI, if_neg (by omega)]
    · rw [g4 i]
      by_cases e : i = n + u
      · subst e
        rw [if_neg (by omega), if_pos (by omega), gI_pI, if_pos ⟨rfl, rfl, rfl⟩, Nat.add_sub_cancel_left]
      · by_cases e2 : n + (u + 1) ≤ i ∧ i < n + 20
        · rw [if_pos e2, if_pos (by omega)]
        · rw [if_neg e2, if_neg (by omega), gI_pI, if_neg (by omega)]
theorem z_feed {b t : Nat} {w : Mm} {a1 a2 a3 a4 a5 : Int32} (hI : Iv Pp b t w) (ht : t + 1 ≤ 512) : CZ (f_L_feed a1 a2 a3 a4 a5 w) (f_X15_feed b a1 a2 a3 a4 a5) (Iv Pp b (t + 1)) := by
  obtain ⟨H, R, S, hA, hB, hO, ht0, hb, hp⟩ := id hI
  have hR := hO.1.1.2.1
  have hH := hO.1.1.1
  obtain ⟨hp1, hp2, ⟨T, t1, t2, t3, t4⟩, hp4, hp5⟩ := hp
  by_cases hn : T.length ≤ 1980
  · obtain ⟨w1, b1, c1, e1, f1⟩ := a_add (z := a1) (T := T) (w := w) ⟨t1, fun j x q => (t4 j x q).2.1⟩ (by omega)
    obtain ⟨w2, b2, c2, e2, f2⟩ := a_add (z := a2) c1 (by simp [by4]; omega)
    obtain ⟨w3, b3, c3, e3, f3⟩ := a_add (z := a3) c2 (by simp [by4]; omega)
    obtain ⟨w4, b4, c4, e4, f4⟩ := a_add (z := a4) c3 (by simp [by4]; omega)
    obtain ⟨w5, b5, c5, e5, f5⟩ := a_add (z := a5) c4 (by simp [by4]; omega)
    have eF : T ++ by4 a1 ++ by4 a2 ++ by4 a3 ++ by4 a4 ++ by4 a5 = T ++ fed (fun j => if j = 0 then a1 else if j = 1 then a2 else if j = 2 then a3 else if j = 3 then a4 else a5) := by
      simp only [List.append_assoc]
      rfl
    have hlen : (T ++ fed (fun j => if j = 0 then a1 else if j = 1 then a2 else if j = 2 then a3 else if j = 3 then a4 else a5)).length = T.length + 20 := by simp [fed]
    rw [eF] at c5
    generalize hf : (fun j => if j = 0 then a1 else if j = 1 then a2 else if j = 2 then a3 else if j = 3 then a4 else a5 : Nat → Int32) = f at c5 hlen
    have f0 : f 0 = a1 := by rw [← hf]; rfl
    have ff1 : f 1 = a2 := by rw [← hf]; rfl
    have ff2 : f 2 = a3 := by rw [← hf]; rfl
    have ff3 : f 3 = a4 := by rw [← hf]; rfl
    have ff4 : f 4 = a5 := by rw [← hf]; rfl
    have u2 : w5.2 = w.2 := e5.trans (e4.trans (e3.trans (e2.trans e1)))
    have uf : ∀ c k i, c ≠ 2 → c ≠ 3 → gI w5 c k i = gI w c k i := fun c k i q q' => (f5 c k i q q').trans ((f4 c k i q q').trans ((f3 c k i q q').trans ((f2 c k i q q').trans (f1 c k i q q'))))
    have hv := c5.1
    rw [hlen] at hv
    refine ⟨0, pL w5 63 0 0 (nI (T.length + 20)).toInt64, ?_, fun z hz => ?_⟩
    · unfold f_L_feed f_X12_feed
      rw [t1]
      refine bwT (x := nI (T.length + 20)) (w := w5) (brT (by (simp (disch := omega) only [lit_nI, nI_leI, nI_ltI, nI_eq, nI_clamp, nI_add, nI_sub, vB_nI, Nat.add_sub_cancel, Nat.reduceSub, Nat.reduceLT, Nat.reduceLeDiff, Nat.reduceAdd, gI_pI, p2_pI, Nat.reduceEqDiff, false_and, and_false, true_and, and_true, if_false, if_true, and_self] <;> omega)) (bd0T b1 (bd0T b2 (bd0T b3 (bd0T b4 (bd0T b5 ?_)))))) (gdT rfl rfl)
      rw [hv]
    · have k0 : (0 : Int32).toNatClampNeg = 0 := by decide
      have k1 : (1 : Int32).toNatClampNeg = 1 := by decide
      have k2 : (2 : Int32).toNatClampNeg = 2 := by decide
      have k3 : (3 : Int32).toNatClampNeg = 3 := by decide
      have k4 : (4 : Int32).toNatClampNeg = 4 := by decide
      generalize hy : pI (pZ (pL w5 63 0 0 (nI (T.length + 20)).toInt64) z) 32 0 0 0 = y
      have yI : ∀ c k i, ¬ (c = 32 ∧ i = 0) → gI y c k i = gI w5 c k i := fun c k i q => by
        rw [← hy, gI_pI, if_neg (by omega)]; rfl
      have hEy : EqP w y := by
        have h5 : EqP w w5 := ⟨by rw [gR_2 u2], by rw [gR_2 u2], fun c i h1 h2 => ⟨uf _ _ _ (by omega) (by omega), by rw [gR_2 u2]⟩, fun c i h1 h2 => uf _ _ _ (by omega) (by omega), fun a q => by rw [gS_2 u2], by rw [gZ_2 u2]; exact Nat.le_refl _⟩
        rw [← hy]
        exact eqp_tr (eqp_tr (eqp_tr h5 eqp_pL) (eqp_of (eqr_pZ hz))) (eqp_pI (by omega))
      generalize hx : pI (pI (pI (pI (pI (nw y 64 (gZ y) 0) 64 (gZ y) 0 a1) 64 (gZ y) 1 a2) 64 (gZ y) 2 a3) 64 (gZ y) 3 a4) 64 (gZ y) 4 a5 = x
      have x2 : x.2 = (nw y 64 (gZ y) 0).2 := by rw [← hx]; rfl
      have hsh : ∀ v : Mm, v.2 = (nw y 64 (gZ y) 0).2 → shS v b 64 (gZ y) 0 = true := fun v hv => by
        unfold shS
        rw [gS_2 hv]
        show decide (gS (nw y 64 (gZ y) 0) (gZ y) = (64, gZ y, 0)) = true
        rw [gS_nw]
        exact decide_eq_true (if_pos rfl)
      have xI : ∀ c k i, c ≠ 64 → gI x c k i = gI y c k i := fun c k i q => by
        rw [← hx]
        simp only [gI_pI]
        rw [if_neg (by omega), if_neg (by omega), if_neg (by omega), if_neg (by omega), if_neg (by omega), gI_nw, if_neg (by omega)]
      have x64 : ∀ j, j < 5 → gI x 64 (gZ y) j = f j := by
        intro j hj
        have hj : j = 0 ∨ j = 1 ∨ j = 2 ∨ j = 3 ∨ j = 4 := by omega
        rw [← hx]
        rcases hj with rfl | rfl | rfl | rfl | rfl
        · rw [f0]; simp [gI_pI]
        · rw [ff1]; simp [gI_pI]
        · rw [ff2]; simp [gI_pI]
        · rw [ff3]; simp [gI_pI]
        · rw [ff4]; simp [gI_pI]
      have hEx : EqP w x := by
        rw [← hx]
        exact eqp_tr (eqp_tr (eqp_tr (eqp_tr (eqp_tr (eqp_tr hEy (eqp_nw (by omega))) (eqp_pI (by omega))) (eqp_pI (by omega))) (eqp_pI (by omega))) (eqp_pI (by omega))) (eqp_pI (by omega))
      have y2 : gI y 32 0 2 = nI T.length := by rw [yI _ _ _ (by omega), uf _ _ _ (by omega) (by omega)]; exact t2
      obtain ⟨v, v1, v2, v3, v4⟩ := b_fedL (b := b) (p := gZ y) (n := T.length) (f := f) (by omega) 20 0 LF x rfl (by unfold LF; omega) (by rw [xI _ _ _ (by omega)]; exact y2) x64 (hsh _ x2)
      have hEv : EqP w v := eqp_tr hEx ⟨by rw [gR_2 v2], by rw [gR_2 v2], fun c i h1 h2 => ⟨v3 _ _ _ (by omega), by rw [gR_2 v2]⟩, fun c i h1 h2 => v3 _ _ _ (by omega), fun a q => by rw [gS_2 v2], by rw [gZ_2 v2]; exact Nat.le_refl _⟩
      have v32 : gI v 32 0 2 = nI T.length := by rw [v3 _ _ _ (by omega), xI _ _ _ (by omega)]; exact y2
      have hE : EqP w (pI v 32 0 2 (nI (T.length + 20))) := eqp_tr hEv (eqp_pI (by omega))
      have vI : ∀ c k i, c ≠ 2 → c ≠ 3 → c ≠ 33 → c ≠ 64 → ¬ (c = 32 ∧ i = 0) → gI v c k i = gI w c k i := fun c k i q1 q2 q3 q4 q5 => by
        rw [v3 _ _ _ q3, xI _ _ _ q4, yI _ _ _ q5, uf _ _ _ q1 q2]
      refine ⟨nI (T.length + 20), pI v 32 0 2 (nI (T.length + 20)), ?_, ?_, fun _ => ?_, H, R, S, ?_, ?_, ok_mono hO (by omega), ht, bz_eqp hb hE, pl_eqp hE hp5 hp1, ?_, ⟨T ++ fed f, ?_, ?_, ?_, ?_⟩, ?_, ?_⟩
      · unfold f_X15_feed
        simp only [k0, k1, k2, k3, k4]
        refine sqT ?_
        rw [hy, y2]
        refine brT (by (simp (disch := omega) only [lit_nI, nI_leI, nI_ltI, nI_eq, nI_clamp, nI_add, nI_sub, vB_nI, Nat.add_sub_cancel, Nat.reduceSub, Nat.reduceLT, Nat.reduceLeDiff, Nat.reduceAdd, gI_pI, p2_pI, Nat.reduceEqDiff, false_and, and_false, true_and, and_true, if_false, if_true, and_self] <;> omega)) (sqT (gdT (by rw [decide_eq_true_eq]; rfl) (sqT (gdT rfl (gdT (hsh _ rfl) (sqT (gdT rfl (gdT (hsh _ rfl) (sqT (gdT rfl (gdT (hsh _ rfl) (sqT (gdT rfl (gdT (hsh _ rfl) (sqT (gdT rfl (gdT (hsh _ rfl) (sqT ?_))))))))))))))))))
        rw [hx]
        refine bd0T v1 ?_
        rw [v32, lit_nI, nI_add]
        refine sqT ?_
        have : gI (pI v 32 0 2 (nI (T.length + 20))) 32 0 2 = nI (T.length + 20) := by simp [gI_pI]
        rw [this]
      · rw [gI_pI, if_neg (by omega), v3 _ _ _ (by omega), xI _ _ _ (by omega), ← hy]; simp [gI_pI]
      · show gL v 63 0 0 = _
        rw [gL_2 v2, gL_2 x2, gL_nw, if_neg (by omega), ← hy]
        exact i64_pL (w := w5)
      · refine ra_o (ra_cg hA hH hR fun c k i q => vI _ _ _ (by omega) (by omega) (by omega) (by omega) (by omega)) hH hR (by omega)
      · exact rb_eqp hE hp5 (fun c i h1 h2 => by rw [gI_pI, if_neg (by omega)]; exact vI _ _ _ (by omega) (by omega) (by omega) (by omega) (by omega)) hB
      · rw [gI_pI, if_neg (by omega), gI_pI, if_neg (by omega), vI _ _ _ (by omega) (by omega) (by omega) (by omega) (by omega), vI _ _ _ (by omega) (by omega) (by omega) (by omega) (by omega)]
        exact hp2
      · rw [gI_pI, if_neg (by omega), v3 _ _ _ (by omega), xI _ _ _ (by omega), yI _ _ _ (by omega)]
        exact c5.1
      · rw [hlen]; simp [gI_pI]
      · rw [hlen]; omega
      · intro j q hq
        rw [gI_pI, if_neg (by omega), gI_pI, if_neg (by omega), v4, v3 _ _ _ (by omega), xI _ _ _ (by omega), yI _ _ _ (by omega)]
        have hc := c5.2 j q hq
        have hj := (List.getElem?_eq_some_iff.mp hq).1
        rw [hlen] at hj
        by_cases e : j < T.length
        · rw [List.getElem?_append_left e] at hq
          obtain ⟨q1, q2, q3⟩ := t4 j q hq
          rw [if_neg (by omega), xI _ _ _ (by omega), yI _ _ _ (by omega), uf _ _ _ (by omega) (by omega)]
          exact ⟨q1, hc, q3⟩
        · rw [List.getElem?_append_right (by omega), fed_at f (by omega)] at hq
          cases hq
          rw [if_pos (by omega), xI _ _ _ (by omega), yI _ _ _ (by omega)]
          exact ⟨rfl, hc, bN_lt _ _⟩
      · have eR : gR (pI v 32 0 2 (nI (T.length + 20))) 1 0 = gR w 1 0 := by
          funext i
          show gR v 1 0 i = _
          rw [gR_2 v2, gR_2 x2, gR_nw, if_neg (by omega), ← hy]
          show gR w5 1 0 i = _
          rw [gR_2 u2]
        unfold SPl
        rw [eR]
        exact hp4
      · rw [hE.2.1]; exact Nat.le_trans hp5 hE.2.2.2.2.2
  · refine cz_thr stb_Pp hI ht (c := 1) (by decide) ?_ fun z hz => ?_
    · unfold f_L_feed f_X12_feed
      rw [t1]
      exact bwE (x := 1) (w := w) (brF (by (simp (disch := omega) only [lit_nI, nI_leI, nI_ltI, nI_eq, nI_clamp, nI_add, nI_sub, vB_nI, Nat.add_sub_cancel, Nat.reduceSub, Nat.reduceLT, Nat.reduceLeDiff, Nat.reduceAdd, gI_pI, p2_pI, Nat.reduceEqDiff, false_and, and_false, true_and, and_true, if_false, if_true, and_self] <;> omega)) rfl) (brT rfl rfl)
    · refine ⟨0, _, ?_, by simp [gI_pI], Or.inr ⟨0, rfl⟩⟩
      unfold f_X15_feed
      have e2 : gI (pI (pZ w z) 32 0 0 0) 32 0 2 = nI T.length := by
        rw [gI_pI, if_neg (by omega)]; exact t2
      refine sqT ?_
      rw [e2]
      exact brF (by (simp (disch := omega) only [lit_nI, nI_leI, nI_ltI, nI_eq, nI_clamp, nI_add, nI_sub, vB_nI, Nat.add_sub_cancel, Nat.reduceSub, Nat.reduceLT, Nat.reduceLeDiff, Nat.reduceAdd, gI_pI, p2_pI, Nat.reduceEqDiff, false_and, and_false, true_and, and_true, if_false, if_true, and_self] <;> omega)) (bd1T b_no rfl)
