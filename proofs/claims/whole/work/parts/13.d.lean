-- THE PURE PART: the tape; what stays of the plans
theorem bp_b (x : Int32) : x.toInt8.toInt32 &&& 255 = x &&& 255 := by
  apply Int32.toBitVec_inj.mp
  rw [Int32.toBitVec_and, Int32.toBitVec_and, Int8.toBitVec_toInt32, Int32.toBitVec_toInt8]
  apply BitVec.eq_of_getLsbD_eq
  intro i hi
  rw [BitVec.getLsbD_and, BitVec.getLsbD_and]
  have hm : ∀ i < 32, 8 ≤ i → (255 : Int32).toBitVec.getLsbD i = false := by decide
  rcases Nat.lt_or_ge i 8 with z | z
  · rw [BitVec.getLsbD_signExtend, BitVec.getLsbD_signExtend, if_pos z, if_pos hi]
    simp only [z, hi, decide_true, Bool.true_and]
  · rw [hm i hi z]; simp
theorem m255 (x : Int32) : ∃ k, k < 256 ∧ x &&& 255 = nI k := by
  refine ⟨(x &&& 255).toBitVec.toNat, ?_, ?_⟩
  · rw [Int32.toBitVec_and, BitVec.toNat_and]
    exact Nat.lt_of_le_of_lt Nat.and_le_right (by decide)
  · apply Int32.toBitVec_inj.mp
    show (x &&& 255).toBitVec = (Int32.ofNat _).toBitVec
    rw [Int32.toBitVec_ofNat', BitVec.ofNat_toNat, BitVec.setWidth_eq]
theorem byte_rd (x : Int32) : vp_nar .byte (x.toInt8.toInt32) &&& 255 = x &&& 255 := by
  rw [vp_nar_byte, bp_b, bp_b]
/-- plans and gardens untouched -/
def EqP (w w' : Mm) : Prop := gR w' 1 0 7 = gR w 1 0 7 ∧ gR w' 32 0 11 = gR w 32 0 11 ∧ (∀ c i, 25 ≤ c → c ≤ 30 → gI w' c (gR w 1 0 7 - 1) i = gI w c (gR w 1 0 7 - 1) i ∧ gR w' c (gR w 1 0 7 - 1) i = gR w c (gR w 1 0 7 - 1) i) ∧ (∀ c i, 44 ≤ c → c ≤ 54 → gI w' c (gR w 32 0 11 - 1) i = gI w c (gR w 32 0 11 - 1) i) ∧ (∀ a, a < gZ w → gS w' a = gS w a) ∧ gZ w ≤ gZ w'
theorem eqp_rf {w : Mm} : EqP w w := ⟨rfl, rfl, fun _ _ _ _ => ⟨rfl, rfl⟩, fun _ _ _ _ => rfl, fun _ _ => rfl, Nat.le_refl _⟩
theorem eqp_tr {w w1 w2 : Mm} (h : EqP w w1) (g : EqP w1 w2) : EqP w w2 := by
  obtain ⟨a1, a2, a3, a4, a5, a6⟩ := h
  obtain ⟨b1, b2, b3, b4, b5, b6⟩ := g
  rw [a1] at b3
  rw [a2] at b4
  exact ⟨b1.trans a1, b2.trans a2, fun c i h1 h2 => ⟨((b3 c i h1 h2).1).trans (a3 c i h1 h2).1, ((b3 c i h1 h2).2).trans (a3 c i h1 h2).2⟩, fun c i h1 h2 => (b4 c i h1 h2).trans (a4 c i h1 h2), fun a q => (b5 a (Nat.lt_of_lt_of_le q a6)).trans (a5 a q), Nat.le_trans a6 b6⟩
theorem eqp_of {w w' : Mm} (e : EqR w w') : EqP w w' := ⟨e.2.2.1 _ _ _ (by omega), e.2.2.1 _ _ _ (by omega), fun c i h1 h2 => ⟨e.1 _ _ _ (by omega), e.2.2.1 _ _ _ (by omega)⟩, fun c i h1 h2 => e.1 _ _ _ (by omega), e.2.2.2.1, e.2.2.2.2⟩
theorem eqp_pI {w : Mm} {c k i : Nat} {v : Int32} (h : c < 25 ∨ (31 ≤ c ∧ c < 44) ∨ 54 < c) : EqP w (pI w c k i v) := ⟨rfl, rfl, fun c' i' h1 h2 => ⟨by rw [gI_pI, if_neg (by omega)], rfl⟩, fun c' i' h1 h2 => by rw [gI_pI, if_neg (by omega)], fun _ _ => rfl, Nat.le_refl _⟩
theorem eqp_pL {w : Mm} {c k i : Nat} {v : Int64} : EqP w (pL w c k i v) := ⟨rfl, rfl, fun _ _ _ _ => ⟨rfl, rfl⟩, fun _ _ _ _ => rfl, fun _ _ => rfl, Nat.le_refl _⟩
theorem eqp_nw {w : Mm} {c k st : Nat} (hc : 62 < c) : EqP w (nw w c k st) := ⟨by rw [gR_nw, if_neg (by omega)], by rw [gR_nw, if_neg (by omega)], fun c' i h1 h2 => ⟨by rw [gI_nw, if_neg (by omega)], by rw [gR_nw, if_neg (by omega)]⟩, fun c' i h1 h2 => by rw [gI_nw, if_neg (by omega)], fun a q => by rw [gS_nw, if_neg (by omega)], by rw [gZ_nw]; omega⟩
theorem shp_eqp {w w' : Mm} (e : EqP w w') (hz : gR w 32 0 11 + 10 ≤ gZ w) (h : SHP w) : SHP w' := by
  intro c h1 h2
  have := h c h1 h2
  rw [e.2.1]
  unfold shD at this ⊢
  rw [e.2.2.2.2.1 _ (by
    have ha : adr 0 c (gR w 32 0 11 - 1) ≤ gR w 32 0 11 - 1 + 10 := by
      have hc : c = 44 ∨ c = 45 ∨ c = 46 ∨ c = 47 ∨ c = 48 ∨ c = 49 ∨ c = 50 ∨ c = 51 ∨ c = 52 ∨ c = 53 ∨ c = 54 := by omega
      rcases hc with rfl | rfl | rfl | rfl | rfl | rfl | rfl | rfl | rfl | rfl | rfl <;> simp only [adr] <;> omega
    have hk : 2 ≤ gR w 32 0 11 - 1 := by
      simp only [Bool.and_eq_true, decide_eq_true_eq] at this
      exact this.2
    omega)]
  exact this
theorem pl_eqp {H R : Nat} {w w' : Mm} (e : EqP w w') (hz : gR w 32 0 11 + 10 ≤ gZ w) (h : PL H R w) : PL H R w' := by
  obtain ⟨os, ⟨a1, a2, a3, a4⟩, ⟨b1, b2, b3, b4⟩, c⟩ := h
  refine ⟨os, ⟨by rw [e.1]; exact a1, ?_, a3, ?_⟩, ⟨shp_eqp e hz b1, ?_, b3, ?_⟩, c⟩
  · rw [e.1, (e.2.2.1 _ _ (by omega) (by omega)).1]; exact a2
  · intro j k x y q
    rw [e.1, (e.2.2.1 _ _ (by omega) (by omega)).2, (e.2.2.1 _ _ (by omega) (by omega)).1, (e.2.2.1 _ _ (by omega) (by omega)).1]
    exact a4 j k x y q
  · rw [e.2.1, e.2.2.2.1 _ _ (by omega) (by omega)]; exact b2
  · intro j o q
    obtain ⟨p1, p2, p3, x, y, z, p4, p5, p6, p7, p8, pb8, p9, p10⟩ := b4 j o q
    have q' : ∀ c i, 44 ≤ c → c ≤ 54 → gI w' c (gR w 32 0 11 - 1) i = gI w c (gR w 32 0 11 - 1) i := e.2.2.2.1
    rw [e.2.1]
    refine ⟨by rw [q' _ _ (by omega) (by omega)]; exact p1, fun h => by rw [q' _ _ (by omega) (by omega)]; exact p2 h, by rw [q' _ _ (by omega) (by omega)]; exact p3, x, y, z, by rw [q' _ _ (by omega) (by omega)]; exact p4, by rw [q' _ _ (by omega) (by omega)]; exact p5, by rw [q' _ _ (by omega) (by omega)]; exact p6, fun h => ⟨(p7 h).1, fun j v hv => by rw [q' _ _ (by omega) (by omega)]; exact (p7 h).2 j v hv⟩, p8, pb8, p9, fun j v hv => by rw [q' _ _ (by omega) (by omega)]; exact p10 j v hv⟩
theorem pb_eqp {H R : Nat} {S : Gs} {w w' : Mm} (e : EqP w w') (hz : gR w 32 0 11 + 10 ≤ gZ w) (h : PB H R S w) : PB H R S w' := by
  obtain ⟨a1, a2, a3, a4, a5, a6, a7, a8⟩ := h
  have hs : ∀ c, 44 ≤ c → c ≤ 46 → shD w' c (gR w 32 0 11 - 1) = shD w c (gR w 32 0 11 - 1) := by
    intro c h1 h2
    unfold shD
    rw [e.2.2.2.2.1 _ (by
      have hc : c = 44 ∨ c = 45 ∨ c = 46 := by omega
      rcases hc with rfl | rfl | rfl <;> simp only [adr] <;> omega)]
  unfold PB
  rw [e.2.1, hs 44 (by omega) (by omega), hs 45 (by omega) (by omega), hs 46 (by omega) (by omega), e.2.2.2.1 _ _ (by omega) (by omega), e.2.2.2.1 _ _ (by omega) (by omega)]
  exact ⟨a1, a2, a3, a4, a5, a6, fun x hx => by rw [e.2.2.2.1 _ _ (by omega) (by omega)]; exact a7 x hx, fun x hx => by rw [e.2.2.2.1 _ _ (by omega) (by omega)]; exact a8 x hx⟩
theorem rb_eqp {s H R : Nat} {S : Gs} {w w' : Mm} (e : EqP w w') (hz : gR w 32 0 11 + 10 ≤ gZ w) (q : ∀ c i, 55 ≤ c → c ≤ 62 → gI w' c s i = gI w c s i) (h : RB s H R S w) : RB s H R S w' := by
  obtain ⟨a, b, c, d⟩ := h
  refine ⟨pb_eqp e hz a, ?_, fun x hx => ?_, fun x hx => ?_⟩
  · simp only [q 55 _ (by omega) (by omega)]; exact b
  · simp only [q 56 _ (by omega) (by omega), q 57 _ (by omega) (by omega), q 58 _ (by omega) (by omega), q 59 _ (by omega) (by omega)]; exact c x hx
  · simp only [q 60 _ (by omega) (by omega), q 61 _ (by omega) (by omega), q 62 _ (by omega) (by omega)]; exact d x hx
theorem bz_eqp {b : Nat} {w w' : Mm} (h : Bz b w) (e : EqP w w') : Bz b w' := by
  obtain ⟨h1, h2, h3⟩ := h
  have e5 := e.2.2.2.2.2
  refine ⟨fun c k q => ?_, Nat.le_trans h2 e5, by rw [e.2.1]; exact Nat.le_trans h3 e5⟩
  have := adr_lt (b := b) q
  rw [e.2.2.2.2.1 _ (by omega)]
  exact h1 c k q
/-- the tape of both -/
def TP (T : List Nat) (w : Mm) : Prop := gI w 2 0 1 = nI T.length ∧ gI w 32 0 2 = nI T.length ∧ T.length ≤ 2000 ∧ ∀ j x, T[j]? = some x → gI w 33 0 j = nI x ∧ gI w 3 0 j &&& 255 = nI x ∧ x < 256
def SPl (w : Mm) : Prop := (gR w 1 0 7 = 1 ∧ gR w 1 0 8 = 2) ∨ (gR w 1 0 7 = 2 ∧ gR w 1 0 8 = 1)
def Pp (H R : Nat) (w : Mm) : Prop := PL H R w ∧ gI w 1 0 10 = gI w 32 0 3 ∧ (∃ T, TP T w) ∧ SPl w ∧ gR w 32 0 11 + 10 ≤ gZ w
theorem tp_eqr {T : List Nat} {w w' : Mm} (e : EqR w w') (h : TP T w) : TP T w' := by
  obtain ⟨h1, h2, h3, h4⟩ := h
  refine ⟨by rw [e.1 _ _ _ (by omega)]; exact h1, by rw [e.1 _ _ _ (by omega)]; exact h2, h3, fun j x q => ?_⟩
  rw [e.1 _ _ _ (by omega), e.1 _ _ _ (by omega)]
  exact h4 j x q
theorem stb_Pp : Stb Pp := by
  intro H R w w' e ⟨h1, h2, ⟨T, h3⟩, h4, h5⟩
  refine ⟨pl_eqp (eqp_of e) h5 h1, ?_, ⟨T, tp_eqr e h3⟩, ?_, hz_eqr e h5⟩
  · rw [e.1 _ _ _ (by omega), e.1 _ _ _ (by omega)]; exact h2
  · unfold SPl
    rw [e.2.2.1 _ _ _ (by omega), e.2.2.1 _ _ _ (by omega)]
    exact h4
-- trim
theorem z_trim {b t : Nat} {w : Mm} {a : Int32} (hI : Iv Pp b t w) (ht : t + 1 ≤ 512) : CZ (f_L_trim a w) (f_X15_trim a) (Iv Pp b (t + 1)) := by
  obtain ⟨H, R, S, hA, hB, hO, ht0, hb, hp⟩ := id hI
  have hR := hO.1.1.2.1
  have hH := hO.1.1.1
  obtain ⟨hp1, hp2, ⟨T, t1, t2, t3, t4⟩, hp4, hp5⟩ := hp
  have hc : (∃ n : Nat, n ≤ T.length ∧ a = nI n) ∨ (a < 0 ∨ nI T.length < a) := by
    by_cases h : a < 0
    · exact Or.inr (Or.inl h)
    · obtain ⟨j, hj, rfl⟩ := nI_of h
      by_cases q : j ≤ T.length
      · exact Or.inl ⟨j, q, rfl⟩
      · exact Or.inr (Or.inr (by rw [nI_ltI (by omega) hj]; omega))
  rcases hc with ⟨n, hn, rfl⟩ | hi
  · refine ⟨0, pL (pI w 2 0 1 (nI n)) 63 0 0 (nI n).toInt64, ?_, fun z hz => ?_⟩
    · unfold f_L_trim f_X12_trim
      rw [t1]
      exact bwT (brF (nI_pos (by omega)) (brT (nI_le hn (by omega)) (sqT rfl))) (gdT rfl rfl)
    · have hE : EqP w (pI (pI (pZ (pL (pI w 2 0 1 (nI n)) 63 0 0 (nI n).toInt64) z) 32 0 0 0) 32 0 2 (nI n)) := eqp_tr (eqp_tr (eqp_tr (eqp_tr (eqp_pI (by omega)) eqp_pL) (eqp_of (eqr_pZ hz))) (eqp_pI (by omega))) (eqp_pI (by omega))
      refine ⟨nI n, pI (pI (pZ (pL (pI w 2 0 1 (nI n)) 63 0 0 (nI n).toInt64) z) 32 0 0 0) 32 0 2 (nI n), ?_, by simp [gI_pI], fun _ => ?_, H, R, S, ?_, ?_, ok_mono hO (by omega), ht, bz_eqp hb hE, pl_eqp hE hp5 hp1, ?_, ⟨T.take n, ?_, ?_, ?_, ?_⟩, hp4, Nat.le_trans hp5 hE.2.2.2.2.2⟩
      · unfold f_X15_trim
        have e2 : gI (pI (pZ (pL (pI w 2 0 1 (nI n)) 63 0 0 (nI n).toInt64) z) 32 0 0 0) 32 0 2 = nI T.length := by
          rw [gI_pI, if_neg (by omega)]
          show gI (pI w 2 0 1 (nI n)) 32 0 2 = _
          rw [gI_pI, if_neg (by omega)]; exact t2
        refine sqT ?_
        rw [e2]
        exact bd1T (b_isIn (nI_pos' (by omega)) (nI_le hn (by omega))) (brF (by decide) (sqT rfl))
      · exact i64_pL (w := pI w 2 0 1 (nI n))
      · refine ra_o (ra_o ?_ hH hR (by omega)) hH hR (by omega)
        exact (ra_o hA hH hR (by omega) : RA 0 H R S (pI w 2 0 1 (nI n)))
      · refine rb_o (rb_o ?_ (by omega)) (by omega)
        exact (rb_o hB (by omega) : RB 0 H R S (pI w 2 0 1 (nI n)))
      · simp only [gI_pI]
        rw [if_neg (by omega), if_neg (by omega), if_neg (by omega), if_neg (by omega)]
        show gI (pI w 2 0 1 (nI n)) 1 0 10 = gI (pI w 2 0 1 (nI n)) 32 0 3
        rw [gI_pI, if_neg (by omega), gI_pI, if_neg (by omega)]
        exact hp2
      · rw [List.length_take, Nat.min_eq_left hn]
        rw [gI_pI, if_neg (by omega), gI_pI, if_neg (by omega)]
        show gI (pI w 2 0 1 (nI n)) 2 0 1 = _
        simp [gI_pI]
      · rw [List.length_take, Nat.min_eq_left hn]; simp [gI_pI]
      · rw [List.length_take]; omega
      · intro j x q
        have hj : j < n := by
          have := (List.getElem?_eq_some_iff.mp q).1
          rw [List.length_take] at this; omega
        rw [List.getElem?_take_of_lt hj] at q
        rw [gI_pI, if_neg (by omega), gI_pI, if_neg (by omega), gI_pI, if_neg (by omega), gI_pI, if_neg (by omega)]
        show gI (pI w 2 0 1 (nI n)) 33 0 j = _ ∧ gI (pI w 2 0 1 (nI n)) 3 0 j &&& 255 = _ ∧ _
        rw [gI_pI, if_neg (by omega), gI_pI, if_neg (by omega)]
        exact t4 j x q
  · refine cz_thr stb_Pp hI ht (c := 1) (by decide) ?_ fun z hz => ?_
    · unfold f_L_trim f_X12_trim
      rw [t1]
      refine bwE (x := 2) (w := w) ?_ (brT rfl rfl)
      by_cases q : a < 0
      · exact brT q rfl
      · exact brF q (brF (Int32.not_le.mpr (hi.resolve_left q)) rfl)
    · refine ⟨0, _, ?_, by simp [gI_pI], Or.inr ⟨0, rfl⟩⟩
      unfold f_X15_trim
      have e2 : gI (pI (pZ w z) 32 0 0 0) 32 0 2 = nI T.length := by
        rw [gI_pI, if_neg (by omega)]; exact t2
      refine sqT ?_
      rw [e2]
      exact bd1T (b_isIn0 hi) (brT rfl (bd1T b_no rfl))
