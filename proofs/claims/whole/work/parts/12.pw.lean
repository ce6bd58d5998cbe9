-- THE PURE PART: orders
abbrev Od : Type := (Nat × Nat × Nat) × (List Ps × List Int32 × (Gs → Int32)) × (List Ps × List Int32 × (Gs → Bool))
def oK (o : Od) : Nat := o.1.1
def oW (o : Od) : Nat := o.1.2.1
def oT (o : Od) : Nat := o.1.2.2
def oSc (o : Od) : List Ps := o.2.1.1
def oSm (o : Od) : List Int32 := o.2.1.2.1
def oSf (o : Od) : Gs → Int32 := o.2.1.2.2
def oTc (o : Od) : List Ps := o.2.2.1
def oTm (o : Od) : List Int32 := o.2.2.2.1
def oTf (o : Od) : Gs → Bool := o.2.2.2.2
def OdOK (H R : Nat) (o : Od) : Prop := (oK o = 11 ∨ oK o = 12 ∨ oK o = 14) ∧ oT o < H ∧ (oK o = 14 → EX H R (oSc o) (oSm o) (oSf o)) ∧ (oK o ≠ 14 → oSc o = [] ∧ (oW o < H ∨ (8 ≤ oW o ∧ oW o < 8 + R))) ∧
  ((∃ a b, oTc o = [(6, a, b)] ∧ oTm o = [] ∧ oTf o = fun _ => true) ∨ TX H R (oTc o) (oTm o) (oTf o))
def odC (o : Od) : List Ps := oSc o ++ oTc o ++ [(oK o, nI (if oK o = 14 then oT o else oW o), nI (oT o))]
def clp (x : Int32) : Int32 := jmmax 1 (jmmin 99 x)
def dnS (S : Gs) : Gs := pg S 0 1 (sg S 0 1 + 1)
def sOrd (S : Gs) (o : Od) : Gs := if oTf o S = true then (if oK o = 11 then (if canL S (oT o) (oW o) then dnS (sLis S (oT o) (oW o)) else S) else if oK o = 12 then (if oW o ∈ sr S (oT o) then dnS (sLea S (oT o) (oW o)) else S) else dnS (sNews S (oT o) (clp (oSf o S)))) else S
theorem clp_in (x : Int32) : 1 ≤ (clp x).toInt ∧ (clp x).toInt ≤ 99 := by
  have e1 := i_1
  have e2 : (99 : Int32).toInt = 99 := by decide
  unfold clp jmmax jmmin
  by_cases h : x < 99
  · rw [if_pos h]
    have h := Int32.lt_iff_toInt_lt.mp h
    by_cases q : 1 < x
    · rw [if_pos q]
      have q := Int32.lt_iff_toInt_lt.mp q
      omega
    · rw [if_neg q]; omega
  · rw [if_neg h, if_pos (by decide)]; omega
theorem ok_dn {B : Int} {H R : Nat} {S : Gs} (h : OK B H R S) : OK B H R (dnS S) := by
  obtain ⟨⟨s1, s2, s3, s4⟩, p⟩ := h
  unfold dnS
  exact ⟨⟨s1, fun y hy => by simpa [sg_pg] using s2 y hy, fun y hy => by simpa [sg_pg] using s3 y hy, s4⟩, fun r hr => by simpa [sg_pg] using p r hr⟩
theorem ni_end {B : Int} {H R h : Nat} {S : Gs} {l : Int32} (hB : B + 784 < 2147483648) (hO : OK B H R S) (hh : h < H) (hl : 1 ≤ l.toInt ∧ l.toInt ≤ 99) : OK (B + 784) H R (sNews S h l) := by
  have : ∀ (n k : Nat) (N : Ns), NI B H R k N → ∃ k', NI B H R k' (nRun n N) := by
    intro n
    induction n with
    | zero => exact fun k N q => ⟨k, q⟩
    | succ n ih =>
      intro k N q
      obtain ⟨S, F, Bk, Q, T⟩ := N
      cases Q with
      | nil => exact ih k _ q
      | cons e t =>
        obtain ⟨m, x, l⟩ := e
        by_cases hx : x < 8
        · obtain ⟨q1, q2, q3⟩ := ni_popH q hx
          have er : nRun (n + 1) (S, F, Bk, (m, x, l) :: t, T) = nRun n (nH x l (S, F, Bk, t, T)) := by
            show nRun n (nS (S, F, Bk, (m, x, l) :: t, T)) = _
            unfold nS nQ
            simp only [if_pos hx]
            rfl
          rw [er]
          exact ih _ _ (ni_h q1 q2 q3)
        · obtain ⟨q1, q2, q3, q4, q5⟩ := ni_popR hB q hx
          have er : nRun (n + 1) (S, F, Bk, (m, x, l) :: t, T) = nRun n (sR S (x - 8) m l, F, Bk, t, T) := by
            show nRun n (nS (S, F, Bk, (m, x, l) :: t, T)) = _
            unfold nS nQ
            simp only [if_neg hx]
            rfl
          rw [er]
          exact ih _ _ q1
  obtain ⟨k', hk⟩ := this 128 0 _ (ni_h (ni_ini hO) hh hl)
  exact ok_news hk
theorem ok_ord {B : Int} {H R : Nat} {S : Gs} {o : Od} (hB : B + 784 < 2147483648) (hO : OK B H R S) (ho : OdOK H R o) : OK (B + 784) H R (sOrd S o) := by
  obtain ⟨o1, o2, o3, o4, o5⟩ := ho
  unfold sOrd
  split
  · split
    · rename_i h
      split
      · rename_i hc
        exact ok_mono (ok_dn (ok_lis hO hc (o4 (by omega)).2)) (by omega)
      · exact ok_mono hO (by omega)
    · split
      · split
        · exact ok_mono (ok_dn (ok_lea hO)) (by omega)
        · exact ok_mono hO (by omega)
      · exact ok_dn (ni_end hB hO o2 (clp_in _))
  · exact ok_mono hO (by omega)
-- the class carries an order out
theorem eva_test {H R : Nat} {o : Od} (ho : OdOK H R o) : EVA H R (oTc o) (fun S => bI (oTf o S)) ∧ 1 ≤ (oTc o).length := by
  rcases ho.2.2.2.2 with ⟨a, b, h1, h2, h3⟩ | h
  · rw [h1, h3]
    refine ⟨eva_leaf fun g S w r hg hS hA hr => ?_, Nat.le_refl _⟩
    unfold f_X2_step
    exact gdT rfl (brF (by decide) (brF (by decide) (brF (by decide) (brF (by decide) (brF (by decide) (brF (by decide) (brF (by decide) (brF (by decide) (brF (by decide) (brF (by decide) (brT (by decide) hr)))))))))))
  · exact eva_tx h
theorem sta_fr {S : List Nat} {w w' : Mm} {s : List Int32} (h : STA s w) (u : FrS S w w') (h17 : 17 ∉ S) (h18 : 18 ∉ S) : STA s w' :=
  ⟨((u.1 17 h17 0 2).1).trans h.1, fun j v e => ((u.1 18 h18 0 j).1).trans (h.2 j v e)⟩
theorem sta_pI {w : Mm} {s : List Int32} {c k i : Nat} {v : Int32} (h : STA s w) (hc : c ≠ 17 ∧ c ≠ 18) : STA s (pI w c k i v) :=
  ⟨by rw [gI_pI, if_neg (by omega)]; exact h.1, fun j v e => by rw [gI_pI, if_neg (by omega)]; exact h.2 j v e⟩
theorem ra_dn {g H R : Nat} {S : Gs} {w : Mm} (h : RA g H R S w) : RA g H R (dnS S) (pI w 19 g 5 (gI w 19 g 5 + 1)) := by
  have e := h.2.1.2.1
  rw [e]
  exact ra_s (j := 1) h (by omega)
theorem a_do {B : Int} {g H R : Nat} {S : Gs} {o : Od} {w : Mm} (hg : g < 2) (hB : B + 784 < 2147483648) (hO : OK B H R S) (ho : OdOK H R o) (hA : RA g H R S w) (hst : STA ((if oK o = 14 then [oSf o S] else []) ++ [bI (oTf o S)]) w) : ∃ w', f_X2_step g (oK o) (nI (if oK o = 14 then oT o else oW o)) (nI (oT o)) w = some w' ∧ RA g H R (sOrd S o) w' ∧ STA [] w' ∧ UA g w w' := by
  obtain ⟨o1, o2, o3, o4, o5⟩ := ho
  have hS := hO.1.1
  have hH := hS.1
  have hR := hS.2.1
  have step : ∀ r, f_X2_order g (oK o) (nI (if oK o = 14 then oT o else oW o)) (nI (oT o)) w = some r → f_X2_step g (oK o) (nI (if oK o = 14 then oT o else oW o)) (nI (oT o)) w = some r := by
    intro r hr
    unfold f_X2_step
    rcases o1 with e | e | e <;> (rw [e] at hr ⊢; exact gdT rfl (brT (by decide) (bd0T hr rfl)))
  have hlen : ((if oK o = 14 then [oSf o S] else []) : List Int32).length < 400 := by split <;> simp
  obtain ⟨q1, q2⟩ := a_pop hst hlen
  have hA1 : RA g H R S (pI w 17 0 2 (nI ((if oK o = 14 then [oSf o S] else []) : List Int32).length)) := ra_o hA hH hR (by omega)
  have hU1 : UA g w (pI w 17 0 2 (nI ((if oK o = 14 then [oSf o S] else []) : List Int32).length)) := ua_h
  generalize hw1 : pI w 17 0 2 (nI ((if oK o = 14 then [oSf o S] else []) : List Int32).length) = w1 at q1 q2 hA1 hU1
  cases ht : oTf o S with
  | false =>
    rw [ht] at q1
    have hs : sOrd S o = S := by unfold sOrd; rw [ht]; rfl
    rw [hs]
    by_cases e : oK o = 14
    · rw [if_pos e] at q2
      obtain ⟨r1, r2⟩ := a_pop (s := []) q2 (by simp)
      refine ⟨_, step _ ?_, ra_o hA1 hH hR (by omega), r2, UA_tr hU1 ua_h⟩
      unfold f_X2_order
      exact bd1T q1 (brT rfl (brT e (bd1T r1 (sqT (brT rfl rfl)))))
    · rw [if_neg e] at q2
      refine ⟨w1, step _ ?_, hA1, q2, hU1⟩
      unfold f_X2_order
      exact bd1T q1 (brT rfl (brF e (brT rfl rfl)))
  | true =>
    rw [ht] at q1
    rcases o1 with e | e | e
    · have e14 : ¬ oK o = 14 := by omega
      rw [if_neg e14] at q2
      obtain ⟨w2, b1, b2, b3, b4⟩ := p_X1_startListening (x := oW o) hg hS hA1 o2 (o4 e14).2
      have hst2 := sta_fr q2 (fr_X1_startListening g _ _ _ _ b1) (by decide) (by decide)
      have hs : sOrd S o = if canL S (oT o) (oW o) then dnS (sLis S (oT o) (oW o)) else S := by unfold sOrd; rw [if_pos ht, if_pos e]
      rw [hs]
      by_cases hc : canL S (oT o) (oW o) = true
      · rw [if_pos hc] at b1 b2 ⊢
        refine ⟨_, step _ ?_, ra_dn b2, sta_pI hst2 (by omega), UA_p (UA_tr hU1 b3) (by unfold ownA; omega)⟩
        unfold f_X2_order
        rw [if_neg e14]
        exact bd1T q1 (brF (by decide) (brF e14 (brF (by decide) (brT e (bd1T b1 (brF (by decide) (sqT rfl)))))))
      · rw [if_neg hc] at b1 b2 ⊢
        refine ⟨w2, step _ ?_, b2, hst2, UA_tr hU1 b3⟩
        unfold f_X2_order
        rw [if_neg e14]
        exact bd1T q1 (brF (by decide) (brF e14 (brF (by decide) (brT e (bd1T b1 (brT rfl rfl))))))
    · have e14 : ¬ oK o = 14 := by omega
      have e11 : ¬ oK o = 11 := by omega
      rw [if_neg e14] at q2
      obtain ⟨w2, b1, b2, b3, b4⟩ := p_X1_stopListening (x := oW o) hg hS hA1 o2 (by have := (o4 e14).2; omega)
      have hst2 := sta_fr q2 (fr_X1_stopListening g _ _ _ _ b1) (by decide) (by decide)
      have hs : sOrd S o = if oW o ∈ sr S (oT o) then dnS (sLea S (oT o) (oW o)) else S := by unfold sOrd; rw [if_pos ht, if_neg e11, if_pos e]
      rw [hs]
      by_cases m : oW o ∈ sr S (oT o)
      · rw [if_pos m] at b1 ⊢
        refine ⟨_, step _ ?_, ra_dn b2, sta_pI hst2 (by omega), UA_p (UA_tr hU1 b3) (by unfold ownA; omega)⟩
        unfold f_X2_order
        rw [if_neg e14]
        exact bd1T q1 (brF (by decide) (brF e14 (brF (by decide) (brF e11 (brT e (bd1T b1 (brF (by decide) (sqT rfl))))))))
      · rw [if_neg m] at b1 ⊢
        have := b4 m
        subst this
        refine ⟨w2, step _ ?_, hA1, hst2, hU1⟩
        unfold f_X2_order
        rw [if_neg e14]
        exact bd1T q1 (brF (by decide) (brF e14 (brF (by decide) (brF e11 (brT e (bd1T b1 (brT rfl rfl)))))))
    · have e11 : ¬ oK o = 11 := by omega
      have e12 : ¬ oK o = 12 := by omega
      rw [if_pos e] at q2
      obtain ⟨r1, r2⟩ := a_pop (s := []) q2 (by simp)
      have hA2 : RA g H R S (pI w1 17 0 2 (nI ([] : List Int32).length)) := ra_o hA1 hH hR (by omega)
      obtain ⟨w2, k, b1, b2, b3, b4, b5⟩ := p_X6_carry hg hB hO hA2 o2 (clp_in (oSf o S))
      have hst2 := sta_fr r2 (fr_X6_carry g _ _ _ _ b1) (by decide) (by decide)
      have hs : sOrd S o = dnS (sNews S (oT o) (clp (oSf o S))) := by unfold sOrd; rw [if_pos ht, if_neg e11, if_neg e12]
      rw [hs]
      refine ⟨_, step _ ?_, ra_dn b2, sta_pI hst2 (by omega), UA_p (UA_tr (UA_tr hU1 ua_h) b5) (by unfold ownA; omega)⟩
      unfold f_X2_order
      exact bd1T q1 (brF (by decide) (brT e (bd1T r1 (sqT (brF (by decide) (brF e11 (brF e12 (bd1T b1 (brF (by decide) (sqT rfl))))))))))
theorem a_ord {B : Int} {g z i N H R : Nat} {S : Gs} {o : Od} {w : Mm} (hg : g < 2) (hB : B + 784 < 2147483648) (hO : OK B H R S) (ho : OdOK H R o) (hs : CSEG z i (odC o) w) (hN : gI w 25 z 7 = nI N) (hi : i + (odC o).length ≤ N) (h400 : N ≤ 400) (hA : RA g H R S w) (hst : STA [] w) :
    ∃ w', (∀ n, f_X2_letDayPass_L7 z g (n + (odC o).length) (nI i) w = f_X2_letDayPass_L7 z g n (nI (i + (odC o).length)) w') ∧ RA g H R (sOrd S o) w' ∧ STA [] w' ∧ UA g w w' := by
  have hS := hO.1.1
  obtain ⟨t1, t2⟩ := eva_test ho
  have hl : (odC o).length = (oSc o).length + (oTc o).length + 1 := by unfold odC; simp only [List.length_append, List.length_singleton]
  -- the sum
  have hsum : ∃ w1, (∀ n, f_X2_letDayPass_L7 z g (n + (oSc o).length) (nI i) w = f_X2_letDayPass_L7 z g n (nI (i + (oSc o).length)) w1) ∧ RA g H R S w1 ∧ STA (if oK o = 14 then [oSf o S] else []) w1 ∧ UA g w w1 := by
    by_cases e : oK o = 14
    · obtain ⟨q1, q2⟩ := eva_ex (ho.2.2.1 e)
      obtain ⟨w1, a1, a2, a3, a4⟩ := q1 g z i N S [] w hg (cseg_l (cseg_l hs)) hN (by omega) h400 (by simp; omega) hS hA hst
      rw [if_pos e]
      exact ⟨w1, a1, a2, a3, a4⟩
    · have := (ho.2.2.2.1 e).1
      rw [this, if_neg e]
      exact ⟨w, fun n => rfl, hA, hst, UA_rf⟩
  obtain ⟨w1, a1, a2, a3, a4⟩ := hsum
  have hN1 : gI w1 25 z 7 = nI N := by rw [a4.1 _ _ _ (by unfold ownA; omega)]; exact hN
  have hl1 : ((if oK o = 14 then [oSf o S] else []) : List Int32).length ≤ (oSc o).length := by
    by_cases e : oK o = 14
    · rw [if_pos e]; exact (eva_ex (ho.2.2.1 e)).2
    · rw [if_neg e]; exact Nat.zero_le _
  obtain ⟨w2, b1, b2, b3, b4⟩ := t1 g z (i + (oSc o).length) N S _ w1 hg (cseg_r (cseg_l (cseg_UA a4 hs))) hN1 (by omega) h400 (by omega) hS a2 a3
  have u2 := UA_tr a4 b4
  have hN2 : gI w2 25 z 7 = nI N := by rw [u2.1 _ _ _ (by unfold ownA; omega)]; exact hN
  obtain ⟨w3, c1, c2, c3, c4⟩ := a_do hg hB hO ho b2 b3
  have hs3 := cseg_r (cseg_UA u2 hs)
  rw [List.length_append] at hs3
  refine ⟨w3, fun n => ?_, c2, c3, UA_tr u2 c4⟩
  have e1 := a1 (n + 1 + (oTc o).length)
  have e2 := b1 (n + 1)
  rw [hl, show n + ((oSc o).length + (oTc o).length + 1) = n + 1 + (oTc o).length + (oSc o).length by omega, e1, e2, a_L7 (i := i + (oSc o).length + (oTc o).length) (by rw [Nat.add_assoc]; exact hs3) hN2 (by omega) h400 c1]
  rw [show i + (oSc o).length + (oTc o).length + 1 = i + ((oSc o).length + (oTc o).length + 1) by omega]
