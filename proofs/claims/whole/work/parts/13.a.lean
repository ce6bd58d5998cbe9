-- THE PURE PART: days
def PLA (os : List Od) (w : Mm) : Prop := vok 25 (gR w 1 0 7) = true ∧ gI w 25 (gR w 1 0 7 - 1) 7 = nI (os.flatMap odC).length ∧ (os.flatMap odC).length ≤ 400 ∧ CSEG (gR w 1 0 7 - 1) 0 (os.flatMap odC) w
def PLB (os : List Od) (w : Mm) : Prop := SHP w ∧ gI w 44 (gR w 32 0 11 - 1) 4 = nI os.length ∧ os.length ≤ 16 ∧ ∀ j o, os[j]? = some o → PO (gR w 32 0 11 - 1) j o w
def PL (H R : Nat) (w : Mm) : Prop := ∃ os, PLA os w ∧ PLB os w ∧ ∀ o ∈ os, OdOK H R o
theorem pla_eqr {os : List Od} {w w' : Mm} (e : EqR w w') (h : PLA os w) : PLA os w' := by
  obtain ⟨h1, h2, h3, h4⟩ := h
  have eR : gR w' 1 0 7 = gR w 1 0 7 := e.2.2.1 _ _ _ (by omega)
  unfold PLA
  rw [eR]
  refine ⟨h1, ?_, h3, fun j k a b q => ?_⟩
  · rw [e.1 _ _ _ (by omega)]; exact h2
  · rw [e.2.2.1 _ _ _ (by omega), e.1 _ _ _ (by omega), e.1 _ _ _ (by omega)]; exact h4 j k a b q
theorem shp_eqr {w w' : Mm} (e : EqR w w') (hz : gR w 32 0 11 + 10 ≤ gZ w) (h : SHP w) : SHP w' := by
  intro c h1 h2
  have := h c h1 h2
  rw [e.2.2.1 _ _ _ (by omega)]
  unfold shD at this ⊢
  rw [e.2.2.2.1 _ (by
    have ha : adr 0 c (gR w 32 0 11 - 1) ≤ gR w 32 0 11 - 1 + 10 := by
      have hc : c = 44 ∨ c = 45 ∨ c = 46 ∨ c = 47 ∨ c = 48 ∨ c = 49 ∨ c = 50 ∨ c = 51 ∨ c = 52 ∨ c = 53 ∨ c = 54 := by omega
      rcases hc with rfl | rfl | rfl | rfl | rfl | rfl | rfl | rfl | rfl | rfl | rfl <;> simp only [adr] <;> omega
    have hk : 2 ≤ gR w 32 0 11 - 1 := by
      simp only [Bool.and_eq_true, decide_eq_true_eq] at this
      exact this.2
    omega)]
  exact this
theorem mseg_eqr {p i : Nat} {ms : List Int32} {w w' : Mm} (h : MSEG p i ms w) (e : EqR w w') : MSEG p i ms w' := fun j v q => by rw [e.1 _ _ _ (by omega)]; exact h j v q
theorem po_eqr {p j : Nat} {o : Od} {w w' : Mm} (e : EqR w w') (h : PO p j o w) : PO p j o w' := by
  obtain ⟨p1, p2, p3, a, b, c, p4, p5, p6, p7, p8, pb8, p9, p10⟩ := h
  refine ⟨?_, fun q => ?_, ?_, a, b, c, ?_, ?_, ?_, fun q => ⟨(p7 q).1, mseg_eqr (p7 q).2 e⟩, p8, pb8, p9, mseg_eqr p10 e⟩
  · rw [e.1 _ _ _ (by omega)]; exact p1
  · rw [e.1 _ _ _ (by omega)]; exact p2 q
  · rw [e.1 _ _ _ (by omega)]; exact p3
  · rw [e.1 _ _ _ (by omega)]; exact p4
  · rw [e.1 _ _ _ (by omega)]; exact p5
  · rw [e.1 _ _ _ (by omega)]; exact p6
theorem plb_eqr {os : List Od} {w w' : Mm} (e : EqR w w') (hz : gR w 32 0 11 + 10 ≤ gZ w) (h : PLB os w) : PLB os w' := by
  obtain ⟨h1, h2, h3, h4⟩ := h
  have eR : gR w' 32 0 11 = gR w 32 0 11 := e.2.2.1 _ _ _ (by omega)
  refine ⟨shp_eqr e hz h1, ?_, h3, fun j o q => ?_⟩
  · rw [eR, e.1 _ _ _ (by omega)]; exact h2
  · rw [eR]; exact po_eqr e (h4 j o q)
theorem hz_eqr {w w' : Mm} (e : EqR w w') (hz : gR w 32 0 11 + 10 ≤ gZ w) : gR w' 32 0 11 + 10 ≤ gZ w' := by
  rw [e.2.2.1 _ _ _ (by omega)]; exact Nat.le_trans hz e.2.2.2.2
-- all orders of a day
theorem a_ords {g z N H R : Nat} (hg : g < 2) (h400 : N ≤ 400) : ∀ (os : List Od) (B : Int) (i : Nat) (S : Gs) (w : Mm), (∀ o ∈ os, OdOK H R o) → B + 784 * os.length < 2147483648 → OK B H R S → CSEG z i (os.flatMap odC) w → gI w 25 z 7 = nI N → i + (os.flatMap odC).length ≤ N → RA g H R S w → STA [] w →
    ∃ w', (∀ n, f_X2_letDayPass_L7 z g (n + (os.flatMap odC).length) (nI i) w = f_X2_letDayPass_L7 z g n (nI (i + (os.flatMap odC).length)) w') ∧ RA g H R (os.foldl sOrd S) w' ∧ OK (B + 784 * os.length) H R (os.foldl sOrd S) ∧ STA [] w' ∧ UA g w w'
  | [], B, i, S, w, ho, hB, hO, hs, hN, hi, hA, hst => by
    refine ⟨w, fun n => rfl, hA, by simpa using hO, hst, UA_rf⟩
  | o :: os, B, i, S, w, ho, hB, hO, hs, hN, hi, hA, hst => by
    simp only [List.length_cons] at hB
    rw [List.flatMap_cons] at hs hi ⊢
    rw [List.length_append] at hi
    have hoo := ho o List.mem_cons_self
    obtain ⟨w1, a1, a2, a3, a4⟩ := a_ord hg (by omega) hO hoo (cseg_l hs) hN (by omega) h400 hA hst
    have hN1 : gI w1 25 z 7 = nI N := by rw [a4.1 _ _ _ (by unfold ownA; omega)]; exact hN
    obtain ⟨w', b1, b2, b3, b4, b5⟩ := a_ords hg h400 os (B + 784) (i + (odC o).length) (sOrd S o) w1 (fun o' h => ho o' (List.mem_cons_of_mem _ h)) (by omega) (ok_ord (by omega) hO hoo) (cseg_r (cseg_UA a4 hs)) hN1 (by omega) a2 a3
    refine ⟨w', fun n => ?_, b2, ok_mono b3 (by simp only [List.length_cons]; omega), b4, UA_tr a4 b5⟩
    have e1 := a1 (n + (os.flatMap odC).length)
    have e2 := b1 n
    rw [List.length_append, show n + ((odC o).length + (os.flatMap odC).length) = n + (os.flatMap odC).length + (odC o).length by omega, e1, e2, Nat.add_assoc]
theorem b_ords {k N H R : Nat} {z1 z2 : Int32} (hN : N ≤ 16) : ∀ (os : List Od) (B : Int) (j : Nat) (S : Gs) (w : Mm), (∀ o ∈ os, OdOK H R o ∧ (oSc o).length ≤ 400 ∧ (oTc o).length ≤ 400) → B + 784 * os.length < 2147483648 → OK B H R S → (∀ i o, os[i]? = some o → PO (gR w 32 0 11 - 1) (j + i) o w) → gI w 44 (gR w 32 0 11 - 1) 4 = nI N → j + os.length = N → SHP w → gR w 32 0 11 + 10 ≤ gZ w → RB k H R S w →
    ∃ w', (∀ n, f_X14_pass_L9 k z1 z2 (n + os.length) (nI j) w = f_X14_pass_L9 k z1 z2 n (nI N) w') ∧ RB k H R (os.foldl sOrd S) w' ∧ UB k w w'
  | [], B, j, S, w, ho, hB, hO, hp, h4, hj, hsh, hz, hR => by
    simp only [List.length_nil, Nat.add_zero] at hj
    subst hj
    exact ⟨w, fun n => rfl, hR, UB_rf⟩
  | o :: os, B, j, S, w, ho, hB, hO, hp, h4, hj, hsh, hz, hR => by
    simp only [List.length_cons] at hB hj
    obtain ⟨o1, o2⟩ := ho o List.mem_cons_self
    have hp0 := hp 0 o rfl
    obtain ⟨w1, a1, a2, a3⟩ := b_ord' (k := k) (j := j) (z1 := z1) (z2 := z2) (by omega) hO o1 o2 (by omega) hN h4 hp0 hsh hR
    have e3 := eqr_UB a3
    have eR : gR w1 32 0 11 = gR w 32 0 11 := e3.2.2.1 _ _ _ (by omega)
    obtain ⟨w', b1, b2, b3⟩ := b_ords (k := k) (z1 := z1) (z2 := z2) hN os (B + 784) (j + 1) (sOrd S o) w1 (fun o' h => ho o' (List.mem_cons_of_mem _ h)) (by omega) (ok_ord (by omega) hO o1) (fun i o' q => by
      have := hp (i + 1) o' q
      rw [eR, show j + 1 + i = j + (i + 1) by omega]
      exact po_eqr e3 this) (by rw [eR, e3.1 _ _ _ (by omega)]; exact h4) (by omega) (shp_eqr e3 hz hsh) (hz_eqr e3 hz) a2
    refine ⟨w', fun n => ?_, b2, UB_tr a3 b3⟩
    rw [List.length_cons, show n + (os.length + 1) = n + os.length + 1 by omega, a1, b1]
