-- THE PURE PART: the reference's orders
abbrev Oz : Type := Nat ⊕ (Nat × List Ps × Option (List Ps))
def bnO (tk : Nat → Nat) (r : Rz) : Oz := match r with
  | .inl e => .inl e
  | .inr (a, o) => if tk a = 16 then (match zTst tk (a + 1) with
    | .inl e => .inl e
    | .inr (a1, o2) => .inr (a1, o, some o2)) else .inr (a, o, none)
/-- the steps of an order -/
def oS (tk : Nat → Nat) (a0 : Nat) (o : List Ps × Option (List Ps)) : List Ps := o.1 ++ (o.2.getD [sp 6] ++ [(tk a0, nI (a0 + 1), nI (if tk a0 = 14 then a0 + 1 else a0 + 3))])
def oRz (tk : Nat → Nat) (a0 : Nat) (r : Oz) : Rz := match r with
  | .inl e => .inl e
  | .inr (a, o) => .inr (a, oS tk a0 o)
theorem zOrd_O {tk : Nat → Nat} {a : Nat} : zOrd tk a = oRz tk a (bnO tk (zOr1 tk a)) := by
  rw [zOrd_eq]
  match zOr1 tk a with
  | .inl e => rfl
  | .inr (a1, o) =>
    show prz o (zWhen tk a a1) = oRz tk a (bnO tk (.inr (a1, o)))
    unfold zWhen bnO
    by_cases q : tk a1 = 16
    · simp only [if_pos q]
      match zTst tk (a1 + 1) with
      | .inl e => rfl
      | .inr (a2, o2) => rfl
    · simp only [if_neg q]
      rfl
def puR (c : Nat) (x : Int32) (w : Mm) (K : Mm → Option (Int32 × Mm)) : Option (Int32 × Mm) := gd (vok 44 (gR w 32 0 12)) (sq (gR w 32 0 12 - 1) (fun p40 => gd (shD w 44 p40) (gd (vok 44 (gR w 32 0 12)) (sq (gR w 32 0 12 - 1) (fun p43 => gd (shD w 44 p43) (gd (vB x 17) (gd (shD w c p40) (sq (pI w c p40 x.toNatClampNeg (gI w 44 p43 13)) K))))))))
def ordE (x : Int32) (w : Mm) : Option (Int32 × Mm) := bd1 (f_X15_eat 9 w) (fun r w' => br (r = 0) (puR 52 x w' (fun w2 => some (1, w2))) (bd1 (g_X15_isTest w') (fun r2 w2 => br (r2 = 0) (some (0, w2)) (puR 52 x w2 (fun w3 => some (1, w3))))))
def ordB (a1 x : Int32) (w : Mm) : Option (Int32 × Mm) := br (a1 = 7) (bd1 (f_X15_eatAs 40 5 w) (fun r w1 => br (r = 0) (some (0, w1)) (bd1 (f_X15_eat 8 w1) (fun r w2 => br (r = 0) (some (0, w2)) (bd1 (g_X15_isSum w2) (fun r w3 => br (r = 0) (some (0, w3)) (puR 51 x w3 (fun w4 => ordE x w4)))))))) (bd1 (f_X15_eatAs 40 4 w) (fun r w1 => br (r = 0) (some (0, w1)) (bd1 (f_X15_eat 6 w1) (fun r w2 => br (r = 0) (some (0, w2)) (bd1 (f_X15_eatAs 40 5 w2) (fun r w3 => br (r = 0) (some (0, w3)) (puR 51 x w3 (fun w4 => ordE x w4))))))))
theorem ord_eq {a1 : Int32} {w : Mm} : f_X15_isOrder a1 w = gd (vB (gI w 32 0 9) 401) (sq (pI w 37 0 (gI w 32 0 9).toNatClampNeg 3) (fun w2 => sq (pI w2 32 0 9 ((gI w2 32 0 9) + 1)) (fun w3 => gd (vok 44 (gR w3 32 0 12)) (sq (gR w3 32 0 12 - 1) (fun p5 => gd (shD w3 44 p5) (sq (jmmin (gI w3 44 p5 5) 16) (fun x7 => gd (vok 44 (gR w3 32 0 12)) (sq (gR w3 32 0 12 - 1) (fun p9 => gd (shD w3 44 p9) (gd (shD w3 44 p9) (sq (pI w3 44 p9 5 ((gI w3 44 p9 5) + 1)) (fun w12 => puR 50 x7 w12 (fun w20 => ordB a1 x7 w20))))))))))))) := rfl
theorem jmin16 {k : Nat} (hk : k < 1000) : jmmin (nI k) 16 = nI (min k 16) := by
  unfold jmmin
  by_cases q : 16 < k
  · rw [if_pos (by rw [show (16 : Int32) = nI 16 from rfl, nI_ltI (by omega) (by omega)]; omega), show min k 16 = 16 by omega]; rfl
  · rw [if_neg (by rw [show (16 : Int32) = nI 16 from rfl, nI_ltI (by omega) (by omega)]; omega), show min k 16 = k by omega]
/-- what an order's method leaves: res the end, the steps of the sum, of the test -/
def RO (T : List Nat) (tk st ln : Nat → Nat) (N p m q k e : Nat) (w : Mm) (res : Oz) (out : Int32 × Mm) : Prop := match res with
  | .inl b => out.1 = 0 ∧ gI out.2 32 0 9 = nI b ∧ FO p m q k w out.2
  | .inr (a, o1, o2) => out.1 = 1 ∧ MSt T tk st ln N p a 0 (m + (mcs (nva T st ln) (o1 ++ o2.getD [])).length) (q + (opn (nva T st ln) m (o1 ++ o2.getD [])).length) out.2 ∧ MSEG p m (mcs (nva T st ln) (o1 ++ o2.getD [])) out.2 ∧ OSEG p q (opn (nva T st ln) m (o1 ++ o2.getD [])) out.2 ∧ m + (mcs (nva T st ln) (o1 ++ o2.getD [])).length + e ≤ 2 * a ∧ q + (opn (nva T st ln) m (o1 ++ o2.getD [])).length ≤ a ∧ FO p m q k w out.2 ∧ gI out.2 44 p 5 = nI (k + 1) ∧ (k < 16 → gI out.2 50 p k = nI m ∧ gI out.2 51 p k = nI (m + (mcs (nva T st ln) o1).length) ∧ gI out.2 52 p k = nI (m + (mcs (nva T st ln) (o1 ++ o2.getD [])).length))
section RPARSE
variable {T : List Nat} {tk st ln : Nat → Nat} {N p : Nat}
theorem b_rec {a d m q c x : Nat} {w : Mm} {K : Mm → Option (Int32 × Mm)} {R : Option (Int32 × Mm)} (hS : MSt T tk st ln N p a d m q w) (hc : 50 ≤ c ∧ c ≤ 52) (hx : x ≤ 16) (h : K (pI w c p x (nI m)) = R) : puR c (nI x) w K = R := by
  obtain ⟨⟨h1, h2, h3, h4⟩, h5, h6, h7, h8, h9, h10, h11⟩ := hS
  unfold puR
  rw [h7.1]
  refine gdT vok44 (sqT (gdT (h7.2 44 (by omega) (by omega)) (gdT vok44 (sqT (gdT (h7.2 44 (by omega) (by omega)) (gdT ((vB_nI (by omega)).mpr (by omega)) (gdT ?_ (sqT ?_))))))))
  · exact h7.2 c (by omega) (by omega)
  · rw [Nat.add_sub_cancel, nI_clamp (by omega), h3]; exact h
theorem mseg_p {i c x : Nat} {v : Int32} {l : List Int32} {w : Mm} (h : MSEG p i l w) (hc : c ≠ 53) : MSEG p i l (pI w c p x v) := fun j y e => by
  rw [gI_pI, if_neg (by omega)]; exact h j y e
theorem oseg_p {i c x : Nat} {v : Int32} {l : List Nat} {w : Mm} (h : OSEG p i l w) (hc : c ≠ 54) : OSEG p i l (pI w c p x v) := fun j y e => by
  rw [gI_pI, if_neg (by omega)]; exact h j y e
/-- the end of an order: a test, or none -/
theorem b_ord2 (hN : ∀ j, j + 1 ≤ N → (tk j = 1 ∨ tk j = 2) ∨ j + 2 ≤ N) (hk : ∀ j, j < N → KK (tk j)) {a m q m1 q1 k e : Nat} {o1 : List Ps} {w w1 : Mm} (hS : MSt T tk st ln N p a 0 m1 q1 w1) (e1 : m1 = m + (mcs (nva T st ln) o1).length) (e2 : q1 = q + (opn (nva T st ln) m o1).length) (hM : MSEG p m (mcs (nva T st ln) o1) w1) (hO : OSEG p q (opn (nva T st ln) m o1) w1) (hm : m1 + e ≤ 2 * a) (hq : q1 ≤ a) (hF : FO p m q k w w1) (h5 : gI w1 44 p 5 = nI (k + 1)) (h50 : k < 16 → gI w1 50 p k = nI m ∧ gI w1 51 p k = nI m1) : ∃ out, ordE (nI (min k 16)) w1 = some out ∧ RO T tk st ln N p m q k e w (bnO tk (.inr (a, o1))) out := by
  have haN := hS.2.2.2.2.2.2.1
  unfold ordE
  unfold bnO
  simp only
  by_cases h : tk a = 16
  · rw [if_pos h]
    have h2 : a + 2 ≤ N := by have := hN a haN; omega
    obtain ⟨w2, t1, t2, t3⟩ := b_eatT hS hk 16 9 (by decide) (by decide) h h2 (rol_0 (by omega))
    obtain ⟨⟨r, w3⟩, u1, u2⟩ := b_tstZ (e := e) hN hk t2 (by omega) (by omega) (show pvk tk (a + 1) from ⟨by omega, by rw [Nat.add_sub_cancel, h]; decide, by rw [Nat.add_sub_cancel, h]; decide⟩)
    match zTst tk (a + 1), u2 with
    | .inl b, u2 =>
      obtain ⟨g1, g2, g3⟩ := u2
      simp only at g1 g2 g3
      subst g1
      exact ⟨(0, w3), bd1T t1 (brF (by decide) (bd1T u1 (brT rfl rfl))), rfl, g2, fo_tr (by omega) (by omega) (Nat.le_refl _) hF (fo_fm (fm_tr (Nat.le_refl _) (Nat.le_refl _) t3 g3))⟩
    | .inr (a2, o2), u2 =>
      obtain ⟨g1, g2, g3, g4, g5, g6, g7⟩ := u2
      simp only at g1 g2 g3 g4 g5 g6 g7
      subst g1
      have f3 := fm_tr (Nat.le_refl _) (Nat.le_refl _) t3 g7
      have eL : m + (mcs (nva T st ln) (o1 ++ o2)).length = m1 + (mcs (nva T st ln) o2).length := by rw [mcs_app, List.length_append, e1, Nat.add_assoc]
      have eO : opn (nva T st ln) m (o1 ++ o2) = opn (nva T st ln) m o1 ++ opn (nva T st ln) m1 o2 := by rw [opn_app, e1]
      have eQ : q + (opn (nva T st ln) m (o1 ++ o2)).length = q1 + (opn (nva T st ln) m1 o2).length := by rw [eO, List.length_append, e2, Nat.add_assoc]
      obtain ⟨s1, s2⟩ := m_rec (c := 52) (i := min k 16) (k := k) (v := nI (m1 + (mcs (nva T st ln) o2).length)) g2 (Or.inl ⟨by omega, by omega, by omega⟩)
      have eF : FO p m q k w (pI w3 52 p (min k 16) (nI (m1 + (mcs (nva T st ln) o2).length))) := fo_tr (by omega) (by omega) (Nat.le_refl _) hF (fo_tr (by omega) (by omega) (Nat.le_refl _) (fo_fm (k := k) f3) s2)
      refine ⟨_, bd1T t1 (brF (by decide) (bd1T u1 (brF (by decide) (b_rec g2 (by omega) (by omega) rfl)))), rfl, ?_, ?_, ?_, ?_, ?_, eF, ?_, fun hk' => ⟨?_, ?_, ?_⟩⟩
      · show MSt T tk st ln N p a2 0 (m + (mcs (nva T st ln) (o1 ++ o2)).length) (q + (opn (nva T st ln) m (o1 ++ o2)).length) _
        rw [eL, eQ]; exact s1
      · show MSEG p m (mcs (nva T st ln) (o1 ++ o2)) _
        rw [mcs_app]
        exact mseg_p (mseg_app (mseg_fm hM f3 (by omega)) (by rw [← e1]; exact g3)) (by omega)
      · show OSEG p q (opn (nva T st ln) m (o1 ++ o2)) _
        rw [eO]
        exact oseg_p (oseg_app (oseg_fm hO f3 (by omega)) (by rw [← e2]; exact g4)) (by omega)
      · show m + (mcs (nva T st ln) (o1 ++ o2)).length + e ≤ _
        rw [eL]; exact g5
      · show q + (opn (nva T st ln) m (o1 ++ o2)).length ≤ _
        rw [eQ]; exact g6
      · show gI (pI w3 52 p (min k 16) _) 44 p 5 = _
        rw [gI_pI, if_neg (by omega), f3.1 _ _ _ (by omega) (by omega) (by omega) (by omega) (by omega)]; exact h5
      · show gI (pI w3 52 p (min k 16) _) 50 p k = _
        rw [gI_pI, if_neg (by omega), f3.1 _ _ _ (by omega) (by omega) (by omega) (by omega) (by omega)]; exact (h50 hk').1
      · show gI (pI w3 52 p (min k 16) _) 51 p k = _
        rw [gI_pI, if_neg (by omega), f3.1 _ _ _ (by omega) (by omega) (by omega) (by omega) (by omega), ← e1]; exact (h50 hk').2
      · show gI (pI w3 52 p (min k 16) _) 52 p k = nI (m + (mcs (nva T st ln) (o1 ++ o2)).length)
        rw [eL, gI_pI, if_pos ⟨rfl, rfl, by omega⟩]
  · rw [if_neg h]
    obtain ⟨s1, s2⟩ := m_rec (c := 52) (i := min k 16) (k := k) (v := nI m1) hS (Or.inl ⟨by omega, by omega, by omega⟩)
    have eF : FO p m q k w (pI w1 52 p (min k 16) (nI m1)) := fo_tr (by omega) (by omega) (Nat.le_refl _) hF s2
    refine ⟨_, bd1T (b_eatF hS hk 16 9 (by decide) (by decide) h) (brT rfl (b_rec hS (by omega) (by omega) rfl)), rfl, ?_, ?_, ?_, ?_, ?_, eF, ?_, fun hk' => ⟨?_, ?_, ?_⟩⟩
    · show MSt T tk st ln N p a 0 (m + (mcs (nva T st ln) (o1 ++ [])).length) (q + (opn (nva T st ln) m (o1 ++ [])).length) _
      rw [List.append_nil, ← e1, ← e2]; exact s1
    · show MSEG p m (mcs (nva T st ln) (o1 ++ [])) _
      rw [List.append_nil]; exact mseg_p hM (by omega)
    · show OSEG p q (opn (nva T st ln) m (o1 ++ [])) _
      rw [List.append_nil]; exact oseg_p hO (by omega)
    · show m + (mcs (nva T st ln) (o1 ++ [])).length + e ≤ _
      rw [List.append_nil, ← e1]; exact hm
    · show q + (opn (nva T st ln) m (o1 ++ [])).length ≤ _
      rw [List.append_nil, ← e2]; exact hq
    · show gI (pI w1 52 p (min k 16) _) 44 p 5 = _
      rw [gI_pI, if_neg (by omega)]; exact h5
    · show gI (pI w1 52 p (min k 16) _) 50 p k = _
      rw [gI_pI, if_neg (by omega)]; exact (h50 hk').1
    · show gI (pI w1 52 p (min k 16) _) 51 p k = _
      rw [gI_pI, if_neg (by omega), ← e1]; exact (h50 hk').2
    · show gI (pI w1 52 p (min k 16) _) 52 p k = nI (m + (mcs (nva T st ln) (o1 ++ [])).length)
      rw [List.append_nil, ← e1, gI_pI, if_pos ⟨rfl, rfl, by omega⟩]
end RPARSE
