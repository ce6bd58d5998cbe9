-- THE PURE PART: the reference is taught
/-- what reading leaves alone in the reference -/
def BF (w w' : Mm) : Prop := (∀ c k i, ¬ (c = 32 ∧ k = 0 ∧ (i = 0 ∨ i = 2 ∨ i = 3 ∨ i = 9 ∨ i = 10)) → ¬ (34 ≤ c ∧ c ≤ 38) → ¬ (44 ≤ c ∧ c ≤ 54 ∧ k = gZ w) → gI w' c k i = gI w c k i) ∧ (∀ c k i, ¬ (c = 32 ∧ k = 0 ∧ i = 12) → ¬ (44 ≤ c ∧ c ≤ 54 ∧ k = gZ w) → gR w' c k i = gR w c k i) ∧ (∀ c k i, ¬ (44 ≤ c ∧ c ≤ 54 ∧ k = gZ w) → gL w' c k i = gL w c k i) ∧ (∀ a, a < gZ w → gS w' a = gS w a) ∧ gZ w ≤ gZ w'
/-- a step that keeps all but ints -/
theorem bf_i {w w1 w2 : Mm} (h : BF w w1) (e : w2.2 = w1.2) (g : ∀ c k i, ¬ (c = 32 ∧ k = 0 ∧ (i = 0 ∨ i = 2 ∨ i = 3 ∨ i = 9 ∨ i = 10)) → ¬ (34 ≤ c ∧ c ≤ 38) → ¬ (44 ≤ c ∧ c ≤ 54 ∧ k = gZ w) → gI w2 c k i = gI w1 c k i) : BF w w2 :=
  ⟨fun c k i q1 q2 q3 => (g c k i q1 q2 q3).trans (h.1 c k i q1 q2 q3), fun c k i q1 q2 => by rw [gR_2 e]; exact h.2.1 c k i q1 q2, fun c k i q => by rw [gL_2 e]; exact h.2.2.1 c k i q, fun a q => by rw [gS_2 e]; exact h.2.2.2.1 a q, by
    have : gZ w2 = gZ w1 := by show w2.2.2.2.2 = w1.2.2.2.2; rw [e]
    rw [this]; exact h.2.2.2.2⟩
section RTEACH
variable {T : List Nat} {tk st ln : Nat → Nat} {N : Nat}
theorem ar_ods (hN : ∀ j, j + 1 ≤ N → (tk j = 1 ∨ tk j = 2) ∨ j + 2 ≤ N) (h4 : N ≤ 401) {E : Nat} (hE : E + 1 ≤ N) : ∀ (os : List (Nat × Oo)) (a : Nat), OPs tk a E os → ∀ s ∈ vOs os, ARs N s
  | [], a, _, s, hs => by simp [vOs] at hs
  | (b, o) :: os, a, h, s, hs => by
    obtain ⟨g1, g2, g3, ⟨c, g4, hO, t1, a1, k1, k2, k14, kn, k3⟩, g6⟩ := h
    have ev : vOs ((b, o) :: os) = vO o ++ vOs os := by unfold vOs; rw [List.flatMap_cons]
    rw [ev] at hs
    rcases List.mem_append.mp hs with hs | hs
    · unfold vO at hs
      rcases List.mem_append.mp hs with hs | hs
      · by_cases q : tk b = 14
        · obtain ⟨u1, u2⟩ := k14 q
          have hz := (zSum_eq hN h4 (by omega : b + 3 + 1 ≤ N)).1
          rw [u2] at hz
          exact (pz_ind (ar_all (N := N)) _ _ _ _ _ _ _ (by omega) hz).2 (by omega) (Or.inl (by omega)) s hs
        · obtain ⟨_, _, u3, _⟩ := kn q
          rw [u3] at hs; cases hs
      · rcases k3 with k3 | ⟨o2, k3, k5, k4⟩
        · rw [k3] at hs; cases hs
        · rw [k3] at hs
          have hz := (zTst_eq hN h4 (by omega : a1 + 1 + 1 ≤ N)).1
          rw [k4] at hz
          exact (pz_ind (ar_all (N := N)) _ _ _ _ _ _ _ (by omega) hz).2 (by omega) (Or.inl (by omega)) s hs
    · exact ar_ods hN h4 hE os (b + 1) g6 s hs
end RTEACH
/-- the plan that was read -/
def PF (T : List Nat) (p : Nat) (os : List (Nat × Oo)) (w : Mm) : Prop :=
  (gI w 44 p 0 = nI (cN (tkT T) 1 ((TKs T).length - 1)).length ∧ gI w 44 p 1 = nI (cN (tkT T) 2 ((TKs T).length - 1)).length) ∧ (gI w 44 p 4 = nI (cO (tkT T) ((TKs T).length - 1)) ∧ cO (tkT T) ((TKs T).length - 1) ≤ 16) ∧
  ((∀ i u, (cN (tkT T) 1 ((TKs T).length - 1))[i]? = some u → gI w 45 p i = nva T (stT T) (lnT T) (u + 2)) ∧ (∀ i u, (cN (tkT T) 2 ((TKs T).length - 1))[i]? = some u → gI w 46 p i = nva T (stT T) (lnT T) (u + 2))) ∧
  OR2 T (tkT T) (stT T) (lnT T) p ((TKs T).length - 1) w ∧ MFx p w ∧ ORc (nva T (stT T) (lnT T)) p 0 0 os w ∧ (mcs (nva T (stT T) (lnT T)) (vOs os)).length ≤ 800 ∧
  ∃ m38, (∀ u, u + 1 < (TKs T).length → tkT T u = 3 → 4 ≤ rol (tkT T) u → m38 u = nI (mB T (tkT T) (stT T) (lnT T) u)) ∧ MSEG p 0 (mcls (nva T (stT T) (lnT T)) m38 (vOs os)) w
theorem orc_cg {nv : Nat → Int32} {p : Nat} {w w' : Mm} (u : ∀ c i, 50 ≤ c → c ≤ 52 → gI w' c p i = gI w c p i) : ∀ (os : List (Nat × Oo)) (m k : Nat), ORc nv p m k os w → ORc nv p m k os w'
  | [], _, _, _ => trivial
  | (b, o) :: os, m, k, h => ⟨fun hk => by
      obtain ⟨h1, h2, h3⟩ := h.1 hk
      rw [u 50 _ (by omega) (by omega), u 51 _ (by omega) (by omega), u 52 _ (by omega) (by omega)]
      exact ⟨h1, h2, h3⟩, orc_cg u os _ _ h.2⟩
theorem pf_2 {T : List Nat} {p : Nat} {os : List (Nat × Oo)} {w : Mm} {v : Int32} {i : Nat} (h : PF T p os w) : PF T p os (pI w 32 0 i v) := by
  obtain ⟨⟨a1, a2⟩, ⟨b1, b2⟩, ⟨c1, c2⟩, d, e, f, g, m38, k1, k2⟩ := h
  have u : ∀ c k j, c ≠ 32 → gI (pI w 32 0 i v) c k j = gI w c k j := fun c k j q => by rw [gI_pI, if_neg (by omega)]
  exact ⟨⟨by rw [u _ _ _ (by omega)]; exact a1, by rw [u _ _ _ (by omega)]; exact a2⟩, ⟨by rw [u _ _ _ (by omega)]; exact b1, b2⟩, ⟨fun j x q => by rw [u _ _ _ (by omega)]; exact c1 j x q, fun j x q => by rw [u _ _ _ (by omega)]; exact c2 j x q⟩, or2_cg d (fun c j q1 q2 => u c p j (by omega)), mfx_2 rfl e, orc_cg (fun c j q1 q2 => u c p j (by omega)) os _ _ f, g, m38, k1, fun j x q => by rw [u _ _ _ (by omega)]; exact k2 j x q⟩
/-- what reading answers -/
def RD1 (T : List Nat) (r : Int32) (w w' : Mm) : Prop := BF w w' ∧ gR w' 32 0 12 = gZ w + 1 ∧ gZ w + 11 ≤ gZ w' ∧ match zBookO (tkT T) (TKs T).length 0 with
  | .inl e => r = 1 ∧ gI w' 32 0 3 = nI (stT T e)
  | .inr (_, os) => match fE T (tkT T) (stT T) (lnT T) (TKs T).length with
    | some j => r = nI (ec T (tkT T) (stT T) (lnT T) j) ∧ gI w' 32 0 3 = nI (stT T j)
    | none => r = 0 ∧ gI w' 32 0 3 = gI w 32 0 3 ∧ PF T (gZ w) os w'
theorem b_read {T : List Nat} {b : Nat} {w : Mm} (hT : TM T w) (hZ : 2 ≤ gZ w) (hz : gR w 32 0 11 ≤ gZ w) : ∃ r w', f_X15_read b w = some (r, w') ∧ RD1 T r w w' := by
  obtain ⟨hK, hend⟩ := tkf_T hT.2.1
  obtain ⟨p1, p2, p3, p4, p5⟩ := id hK
  obtain ⟨w4, k1, k2, k3, k4, k5, k6, k7⟩ := k_plan (b := b) (w := w)
  obtain ⟨p, hp⟩ : ∃ p, p = gZ w := ⟨_, rfl⟩
  rw [← hp] at k1 k2 k3 k4 k5 k6 k7 hZ
  -- the new plan
  obtain ⟨w5, hw5⟩ : ∃ w5, w5 = pR w4 32 0 12 (p + 1) := ⟨_, rfl⟩
  have i5 : gI w5 = gI w4 := by rw [hw5]; rfl
  have f5 : BF w w5 := by
    refine ⟨fun c k i q1 q2 q3 => ?_, fun c k i q1 q2 => ?_, fun c k i q => ?_, fun a q => ?_, ?_⟩
    · rw [i5]; exact (k2 c k i (by omega)).1
    · rw [hw5, gR_pR, if_neg (by omega)]; exact (k2 c k i (by omega)).2.2
    · rw [hw5]; exact (k2 c k i (by omega)).2.1
    · rw [hw5]; exact k6 a (by omega)
    · rw [hw5]; show gZ w ≤ gZ w4; omega
  have z5 : ∀ w', w'.2 = w5.2 → p + 11 ≤ gZ w' := fun w' e => by
    show p + 11 ≤ w'.2.2.2.2
    rw [e, hw5]
    show p + 11 ≤ gZ w4
    omega
  have x5 : MFx p w5 := by
    refine ⟨by rw [hw5, gR_pR, if_pos ⟨rfl, rfl, rfl⟩], fun c h1 h2 => ?_⟩
    have e : gS w5 = gS w4 := by rw [hw5]; rfl
    unfold shD
    rw [e]
    have hc : c = 44 ∨ c = 45 ∨ c = 46 ∨ c = 47 ∨ c = 48 ∨ c = 49 ∨ c = 50 ∨ c = 51 ∨ c = 52 ∨ c = 53 ∨ c = 54 := by omega
    have d2 : decide (2 ≤ p) = true := decide_eq_true hZ
    rw [d2, Bool.and_true]
    rcases hc with rfl | rfl | rfl | rfl | rfl | rfl | rfl | rfl | rfl | rfl | rfl
    · exact decide_eq_true k4
    · exact decide_eq_true (k5 1 (by omega) (by omega))
    · exact decide_eq_true (k5 2 (by omega) (by omega))
    · exact decide_eq_true (k5 3 (by omega) (by omega))
    · exact decide_eq_true (k5 4 (by omega) (by omega))
    · exact decide_eq_true (k5 5 (by omega) (by omega))
    · exact decide_eq_true (k5 6 (by omega) (by omega))
    · exact decide_eq_true (k5 7 (by omega) (by omega))
    · exact decide_eq_true (k5 8 (by omega) (by omega))
    · exact decide_eq_true (k5 9 (by omega) (by omega))
    · exact decide_eq_true (k5 10 (by omega) (by omega))
  have t5 : TM T w5 := tm_cg hT (by rw [i5]; exact (k2 32 0 2 (by omega)).1) fun j => by rw [i5]; exact (k2 33 0 j (by omega)).1
  obtain ⟨w6, c1, c2, c3⟩ := b_cut' t5
  obtain ⟨w8, hw8⟩ : ∃ w8, w8 = pI (pI w6 32 0 9 0) 32 0 10 0 := ⟨_, rfl⟩
  have i8 : ∀ c k i, ¬ (c = 32 ∧ k = 0 ∧ (i = 9 ∨ i = 10)) → gI w8 c k i = gI w6 c k i := fun c k i q => by
    rw [hw8, gI_pI, if_neg (by omega), gI_pI, if_neg (by omega)]
  have e82 : w8.2 = w5.2 := by rw [hw8]; exact c2.2
  have f8 : BF w w8 := by
    refine bf_i f5 e82 fun c k i q1 q2 q3 => ?_
    rw [i8 _ _ _ (by omega)]
    exact c2.1 c k i (by omega)
  have x8 : MFx p w8 := mfx_2 e82 x5
  have z8 : ∀ c i, 44 ≤ c → c ≤ 54 → gI w8 c p i = 0 := fun c i q1 q2 => by
    rw [i8 _ _ _ (by omega), c2.1 _ _ _ (by omega), i5]; exact k3 c i q1 (by omega)
  have t8 : TM T w8 := by
    refine tm_cg t5 ?_ fun j => ?_
    · rw [i8 _ _ _ (by omega), c2.1 _ _ _ (by omega)]
    · rw [i8 _ _ _ (by omega), c2.1 _ _ _ (by omega)]
  have m8 : ∀ j, j < (TKs T).length → gI w8 34 0 j = mk (tkT T j) ∧ gI w8 35 0 j = nI (stT T j) ∧ (tkT T j ≠ 1 → tkT T j ≠ 2 → gI w8 36 0 j = nI (lnT T j)) ∧ gI w8 37 0 j = 0 ∧ gI w8 38 0 j = 0 := fun j hj => by
    have := c3 j _ _ _ (tk_get hj)
    rw [Nat.zero_add] at this
    rw [i8 _ _ _ (by omega), i8 _ _ _ (by omega), i8 _ _ _ (by omega), i8 _ _ _ (by omega), i8 _ _ _ (by omega)]
    exact this
  have hS : MSt T (tkT T) (stT T) (lnT T) (TKs T).length p 0 0 0 0 w8 := by
    refine ⟨⟨?_, ?_, z8 44 13 (by omega) (by omega), z8 44 15 (by omega) (by omega)⟩, fun j hj => (m8 j hj).1, fun j hj => ?_, x8, ⟨t8, fun j hj h4 => ?_⟩, p2, p1, by omega⟩
    · show gI w8 32 0 9 = 0
      rw [hw8, gI_pI, if_neg (by omega), gI_pI, if_pos ⟨rfl, rfl, rfl⟩]
    · show gI w8 32 0 10 = 0
      rw [hw8, gI_pI, if_pos ⟨rfl, rfl, rfl⟩]
    · rw [if_neg (by omega)]; exact (m8 j hj).2.2.2.1
    · obtain ⟨_, _, _, g4, _, g6⟩ := (p4 j hj).2
      obtain ⟨q1, q2, q3, q4⟩ := g6 h4
      refine ⟨(m8 j hj).2.1, (m8 j hj).2.2.1 (by omega) (by omega), q2, g4 (by omega) (by omega), fun c hc => ?_⟩
      have := q4 c hc
      unfold isDg at this
      simp only [Bool.and_eq_true, decide_eq_true_eq] at this
      exact this.1
  obtain ⟨⟨t, w10⟩, d1, d2⟩ := b_bookL (e := 0) p5 (fun j hj => (p4 j hj).1) (TKs T).length 0 0 0 0 LF w8 hS (by omega) (by omega) (by omega) (z8 44 5 (by omega) (by omega)) (by omega) (by unfold LF; omega)
  have run : ∀ X, (bd1 (br (t = 0) (some ((0 : Int32), w10)) (some (1, w10))) (fun r9 w10 => br (r9 = 0) (gd (vB (gI w10 32 0 9) 401) (sq (pI w10 32 0 3 (gI w10 35 0 (gI w10 32 0 9).toNatClampNeg)) (fun w49 => some (1, w49)))) (sq (gI w10 32 0 9) (fun x11 => sq (pI w10 32 0 9 0) (fun w12 => bd2 (f_X15_read_L57 b x11 LF w12) (fun t18 y16 w17 => br (t18 = 0) (gd (vB (gI w17 32 0 9) 401) (sq (pI w17 32 0 3 (gI w17 35 0 (gI w17 32 0 9).toNatClampNeg)) (fun w20 => some (y16, w20)))) (bd0 (f_X15_read_L111 b LF 0 w17) (fun w47 => some (0, w47))))))))) = X → f_X15_read b w = X := fun X hX => by
    unfold f_X15_read
    rw [← hp]
    refine sqT (gdT (decide_eq_true rfl) (sqT (bd0T k1 (sqT ?_))))
    rw [← hw5]
    refine bd0T c1 (sqT (sqT ?_))
    rw [← hw8]
    unfold f_X15_isBook
    rw [d1]
    exact hX
  have fO : ∀ {w10 : Mm}, FO p 0 0 0 w8 w10 → BF w w10 ∧ gR w10 32 0 12 = p + 1 := fun h => by
    refine ⟨bf_i f8 h.2 fun c k i q1 q2 q3 => h.1 c k i (by omega) (by omega) (by omega) (by omega) (by omega) (by omega), ?_⟩
    rw [gR_2 h.2]; exact x8.1
  unfold RD1
  rw [← hp]
  have hbs := fun a os e => bs_book (tk := tkT T) p5 p2 (TKs T).length 0 a os (by omega) e
  have hfail : ∀ e, zBookO (tkT T) (TKs T).length 0 = .inl e → e < (TKs T).length := fun e he => gl_bookF p5 p2 (TKs T).length 0 e (by omega) (by omega) (by rw [zBook_O, he]; rfl)
  match zBookO (tkT T) (TKs T).length 0, d2, hbs, hfail with
  | .inl e, d2, _, hfail =>
    obtain ⟨g1, g2, g3⟩ := d2
    simp only at g1 g2 g3
    subst g1
    have he := hfail e rfl
    obtain ⟨f10, r10⟩ := fO g3
    refine ⟨1, pI w10 32 0 3 (nI (stT T e)), run _ (bd1T (x := 0) (w := w10) (brT rfl rfl) (brT rfl ?_)), bf_i f10 rfl fun c k i q1 q2 q3 => by rw [gI_pI, if_neg (by omega)], r10, z5 _ (g3.2.trans e82), rfl, ?_⟩
    · rw [g2]
      refine gdT ((vB_nI (by omega)).mpr (by omega)) ?_
      rw [nI_clamp (by omega), g3.1 _ _ _ (by omega) (by omega) (by omega) (by omega) (by omega) (by omega), (m8 e he).2.1]
      rfl
    · rw [gI_pI, if_pos ⟨rfl, rfl, rfl⟩]
  | .inr (a, os), d2, hbs, _ =>
    obtain ⟨g1, g2, g3, g4, g5, g6, g7, g8, g9⟩ := d2
    simp only at g1 g2 g3 g4 g5 g6 g7 g8 g9
    subst g1
    rw [Nat.zero_add, Nat.zero_add] at g2
    rw [Nat.zero_add] at g5 g6
    obtain ⟨_, n2, n3, n4, n5⟩ := hbs a os rfl
    have hE : a + 1 = (TKs T).length := (hend a (by omega)).mp (Or.inl n3)
    have hBS : ∀ u, u + 1 < (TKs T).length → BS (tkT T) u := fun u hu => n4 u (Nat.zero_le _) (by omega)
    obtain ⟨f10, r10⟩ := fO g7
    obtain ⟨⟨s1, s2, s3, s4⟩, s5, s6, s7, s8, s9, s10, s11⟩ := id g2
    have io : ∀ c k i, ¬ (c = 32 ∧ k = 0 ∧ (i = 9 ∨ i = 10)) → ¬ (c = 37 ∧ k = 0) → ¬ (c = 44 ∧ k = p ∧ (i = 13 ∨ i = 15 ∨ i = 5)) → ¬ (c = 53 ∧ k = p) → ¬ (c = 54 ∧ k = p) → ¬ (50 ≤ c ∧ c ≤ 52 ∧ k = p) → gI w10 c k i = gI w8 c k i := fun c k i q1 q2 q3 q4 q5 q6 => g7.1 c k i q1 q2 q3 (by omega) (by omega) (by omega)
    have hRI : RI T (tkT T) (stT T) (lnT T) (TKs T).length p 0 (pI w10 32 0 9 0) := by
      refine ri_9 ⟨⟨⟨s8.1, fun u hu hk => ?_, fun u hu => ?_⟩, s5, s7⟩, ⟨?_, ?_, Nat.zero_le 8, Nat.zero_le 8⟩, ⟨fun i u q => ?_, fun i u q => ?_⟩, ⟨?_, Nat.zero_le 16⟩, fun b hb => by omega, fun u hu => by omega⟩
      · rw [io _ _ _ (by omega) (by omega) (by omega) (by omega) (by omega) (by omega), io _ _ _ (by omega) (by omega) (by omega) (by omega) (by omega) (by omega)]
        exact ⟨(m8 u hu).2.1, (m8 u hu).2.2.1 (by omega) (by omega)⟩
      · rw [s6 u (by omega), if_pos (by omega)]
      · show gI w10 44 p 0 = 0
        rw [io _ _ _ (by omega) (by omega) (by omega) (by omega) (by omega) (by omega)]; exact z8 _ _ (by omega) (by omega)
      · show gI w10 44 p 1 = 0
        rw [io _ _ _ (by omega) (by omega) (by omega) (by omega) (by omega) (by omega)]; exact z8 _ _ (by omega) (by omega)
      · cases q
      · cases q
      · show gI w10 44 p 4 = 0
        rw [io _ _ _ (by omega) (by omega) (by omega) (by omega) (by omega) (by omega)]; exact z8 _ _ (by omega) (by omega)
    obtain ⟨t, y, w17, h1, h2, h3⟩ := b_chkL hK hBS (b := b) ((TKs T).length - 1) 0 LF (pI w10 32 0 9 0) (by omega) (by unfold LF; omega) (fun v hv => by omega) (by rw [gI_pI, if_pos ⟨rfl, rfl, rfl⟩]; rfl) hRI
    have f17 : BF w w17 := by
      refine bf_i f10 (by rw [h2.2]; rfl) fun c k i q1 q2 q3 => ?_
      rw [h2.1 c k i (by omega) (by omega) (by omega) (by omega), gI_pI, if_neg (by omega)]
    have r17 : gR w17 32 0 12 = p + 1 := by rw [gR_2 h2.2]; exact r10
    have run2 : ∀ X, br (t = 0) (gd (vB (gI w17 32 0 9) 401) (sq (pI w17 32 0 3 (gI w17 35 0 (gI w17 32 0 9).toNatClampNeg)) (fun w20 => some (y, w20)))) (bd0 (f_X15_read_L111 b LF 0 w17) (fun w47 => some (0, w47))) = X → f_X15_read b w = X := fun X hX => by
      refine run _ (bd1T (x := 1) (w := w10) (brF (by decide) rfl) (brF (by decide) ?_))
      rw [s1, show a = (TKs T).length - 1 by omega]
      exact sqT (sqT (bd2T h1 hX))
    have i17 : ∀ c k i, ¬ (c = 32 ∧ k = 0 ∧ i = 9) → ¬ (c = 38 ∧ k = 0) → ¬ (c = 44 ∧ k = p ∧ (i = 0 ∨ i = 1 ∨ i = 4)) → ¬ (45 ≤ c ∧ c ≤ 49 ∧ k = p) → gI w17 c k i = gI w10 c k i := fun c k i q1 q2 q3 q4 => by rw [h2.1 c k i q1 q2 q3 q4, gI_pI, if_neg (by omega)]
    simp only
    have e0 : fE T (tkT T) (stT T) (lnT T) (TKs T).length = fnd (fun j => decide (ec T (tkT T) (stT T) (lnT T) j ≠ 0)) ((TKs T).length - 1) 0 := rfl
    rw [e0]
    match fnd (fun j => decide (ec T (tkT T) (stT T) (lnT T) j ≠ 0)) ((TKs T).length - 1) 0, h3 with
    | some j, h3 =>
      obtain ⟨q1, q2, q3, q4⟩ := h3
      subst q1
      refine ⟨y, pI w17 32 0 3 (nI (stT T j)), run2 _ (brT rfl ?_), bf_i f17 rfl fun c k i q1 q2 q3 => by rw [gI_pI, if_neg (by omega)], r17, z5 _ (h2.2.trans (g7.2.trans e82)), q2, ?_⟩
      · rw [q3]
        refine gdT ((vB_nI (by omega)).mpr (by omega)) ?_
        rw [nI_clamp (by omega), i17 _ _ _ (by omega) (by omega) (by omega) (by omega), io _ _ _ (by omega) (by omega) (by omega) (by omega) (by omega) (by omega), (m8 j (by omega)).2.1]
        rfl
      · rw [gI_pI, if_pos ⟨rfl, rfl, rfl⟩]
    | none, h3 =>
      obtain ⟨q1, q2⟩ := h3
      subst q1
      obtain ⟨⟨_, _, mfx⟩, ⟨a1, a2, a3, a4⟩, ⟨b1, b2⟩, ⟨dd1, dd2⟩, oo, mm⟩ := q2
      have hA := ar_ods (N := (TKs T).length) p5 p2 (E := a) n2 os 0 n5
      have hO17 : OSEG p 0 (opn (nva T (stT T) (lnT T)) 0 (vOs os)) w17 := fun j v e => by
        rw [i17 _ _ _ (by omega) (by omega) (by omega) (by omega)]; exact g4 j v e
      have hM17 : MSEG p 0 (mcs (nva T (stT T) (lnT T)) (vOs os)) w17 := fun j v e => by
        rw [i17 _ _ _ (by omega) (by omega) (by omega) (by omega)]; exact g3 j v e
      obtain ⟨w47, l1, l2, l3⟩ := b_link (b := b) p2 hA mfx (by rw [i17 _ _ _ (by omega) (by omega) (by omega) (by omega)]; exact s4) (by omega) (by omega) hO17 hM17
      have u47 : ∀ c k i, c ≠ 53 → gI w47 c k i = gI w17 c k i := fun c k i q => l2.1 c k i (by omega)
      refine ⟨0, w47, run2 _ (brF (by decide) (bd0T l1 rfl)), bf_i f17 l2.2 fun c k i q1 q2 q3 => l2.1 c k i (by omega), by rw [gR_2 l2.2]; exact r17, z5 _ (l2.2.trans (h2.2.trans (g7.2.trans e82))), rfl, ?_, ⟨by rw [u47 _ _ _ (by omega)]; exact a1, by rw [u47 _ _ _ (by omega)]; exact a2⟩, ⟨by rw [u47 _ _ _ (by omega)]; exact dd1, dd2⟩, ⟨fun i u q => by rw [u47 _ _ _ (by omega)]; exact b1 i u q, fun i u q => by rw [u47 _ _ _ (by omega)]; exact b2 i u q⟩, or2_cg oo (fun c i q1 q2 => u47 c p i (by omega)), mfx_2 l2.2 mfx, orc_cg (fun c i q1 q2 => ?_) os _ _ g8, by omega, fun x => gI w17 38 0 x, fun u hu h3 h4 => mm u (by omega) h3 h4, l3⟩
      · rw [u47 _ _ _ (by omega), i17 _ _ _ (by omega) (by omega) (by omega) (by omega), io _ _ _ (by omega) (by omega) (by omega) (by omega) (by omega) (by omega), i8 _ _ _ (by omega), c2.1 _ _ _ (by omega), i5]
        exact (k2 32 0 3 (by omega)).1
      · rw [u47 _ _ _ (by omega), i17 _ _ _ (by omega) (by omega) (by omega) (by omega)]
