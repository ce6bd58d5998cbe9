-- THE PURE PART: orders of the reference
def mK (k : Nat) : Int32 := if k = 11 then 4 else if k = 12 then 5 else 7
/-- the order j of the reference's plan -/
def PO (p j : Nat) (o : Od) (w : Mm) : Prop := gI w 47 p j = mK (oK o) ∧ (oK o ≠ 14 → gI w 48 p j = nI (oW o)) ∧ gI w 49 p j = nI (oT o) ∧ ∃ a b c : Nat, gI w 50 p j = nI a ∧ gI w 51 p j = nI b ∧ gI w 52 p j = nI c ∧ (oK o = 14 → b = a + (oSm o).length ∧ MSEG p a (oSm o) w) ∧ c = b + (oTm o).length ∧ b ≤ 800 ∧ c ≤ 800 ∧ MSEG p b (oTm o) w
def SHP (w : Mm) : Prop := ∀ c, 44 ≤ c → c ≤ 54 → shD w c (gR w 32 0 11 - 1) = true
theorem tx_m {H R : Nat} {c : List Ps} {m : List Int32} {f : Gs → Bool} (h : TX H R c m f) : 1 ≤ m.length :=
  h (fun _ m _ => 1 ≤ m.length) ⟨fun _ _ _ _ => by simp, fun _ _ _ _ _ _ => by simp, fun _ _ _ _ _ _ _ _ _ _ => by simp only [List.length_append, List.length_singleton]; omega, fun _ _ _ _ _ _ _ _ _ _ => by simp only [List.length_append, List.length_singleton]; omega, fun _ _ _ _ _ _ _ _ _ _ _ _ => by simp only [List.length_append, List.length_singleton]; omega⟩
theorem b_reckon {H R c k a : Nat} {ms : List Int32} {f : Gs → Int32} {S : Gs} {w : Mm} (he : EVB H R c ms f) (hc : c ≤ 400) (hs : MSEG (gR w 32 0 11 - 1) a ms w) (h53 : shD w 53 (gR w 32 0 11 - 1) = true) (hE : a + ms.length ≤ 800) (hS : SH H R S) (hB : RB k H R S w) : ∃ w', f_X14_reckon k (nI a) (nI (a + ms.length)) w = some (f S, w') ∧ M39 w w' := by
  obtain ⟨w', h1, h2, h3⟩ := he k a (a + ms.length) S [] w hs h53 (Nat.le_refl _) hE (by simpa using hc) hS hB (fun j v e => by simp at e)
  refine ⟨w', ?_, h3⟩
  have e := h1 (LF - c - 1 + 1)
  have eL : LF - c - 1 + 1 + c = LF := by unfold LF; omega
  rw [eL] at e
  unfold f_X14_reckon
  refine bd0T (w := w') ?_ (gdT rfl ?_)
  · rw [show (0 : Int32) = nI ([] : List Int32).length from rfl, e, f_X14_reckon_L5]
    exact brT (nI_le (Nat.le_refl _) (by omega)) rfl
  · have := h2 0 (f S) (by simp)
    rw [show (0 : Int32).toNatClampNeg = 0 by decide, this]
theorem ub_39 {k : Nat} {w w' : Mm} (h : M39 w w') : UB k w w' := ⟨fun c k' i q => h.1 c k' i (fun e => q (by unfold ownB; omega)), h.2⟩
theorem rb_dn {k H R : Nat} {S : Gs} {w : Mm} (h : RB k H R S w) : RB k H R (dnS S) (pI w 55 k 1 (gI w 55 k 1 + 1)) := by
  have e := h.2.1.2.1
  rw [e]
  exact rb_s (j := 1) h (by omega)
set_option maxRecDepth 100000 in
theorem b_carry {B : Int} {k j H R : Nat} {S : Gs} {o : Od} {w : Mm} (hB0 : B + 784 < 2147483648) (hO : OK B H R S) (ho : OdOK H R o) (hl : (oSc o).length ≤ 400) (hj : j < 16) (hp : PO (gR w 32 0 11 - 1) j o w) (hsh : SHP w) (hB : RB k H R S w) (ht : oTf o S = true) :
    ∃ w' r, f_X14_carry k (nI j) w = some (r, w') ∧ UB k w w' ∧ ((r = 0 ∧ sOrd S o = S ∧ RB k H R S w') ∨ (r = 1 ∧ ∃ S1, sOrd S o = dnS S1 ∧ RB k H R S1 w')) := by
  obtain ⟨o1, o2, o3, o4, o5⟩ := ho
  obtain ⟨p1, p2, p3, a, b, c, p4, p5, p6, p7, p8, pb8, p9, p10⟩ := hp
  have hS := hO.1.1
  have hH := hS.1
  have hR := hS.2.1
  have hvok := hB.1.1
  have hv16 : vB (nI j) 16 = true := (vB_nI (by omega)).mpr (by omega)
  have hv17 : vB (nI j) 17 = true := (vB_nI (by omega)).mpr (by omega)
  have hcl : (nI j).toNatClampNeg = j := nI_clamp (by omega)
  have s44 := hsh 44 (by omega) (by omega)
  have s47 := hsh 47 (by omega) (by omega)
  have s48 := hsh 48 (by omega) (by omega)
  have s49 := hsh 49 (by omega) (by omega)
  have s50 := hsh 50 (by omega) (by omega)
  have s51 := hsh 51 (by omega) (by omega)
  have s53 := hsh 53 (by omega) (by omega)
  rcases o1 with e | e | e
  · have e14 : ¬ oK o = 14 := by omega
    have hs : sOrd S o = if canL S (oT o) (oW o) then dnS (sLis S (oT o) (oW o)) else S := by unfold sOrd; rw [if_pos ht, if_pos e]
    have hx := (o4 e14).2
    have hk : mK (oK o) = 4 := by rw [e]; rfl
    have hc := p_X14_canListen (x := oW o) hS hB o2 (by omega)
    rw [hs]
    by_cases q : canL S (oT o) (oW o) = true
    · rw [if_pos q] at hc ⊢
      obtain ⟨w1, b1, b2, b3⟩ := p_X14_listens hS hB o2 hx
      refine ⟨w1, 1, ?_, b3, Or.inr ⟨rfl, _, rfl, b2⟩⟩
      unfold f_X14_carry
      refine gdT hvok (sqT (gdT s44 (gdT hv16 (gdT s47 ?_))))
      rw [hcl, p1, hk]
      refine sqT (gdT hvok (sqT (gdT s44 (gdT hv16 (gdT s48 ?_)))))
      rw [p2 e14]
      refine sqT (gdT hvok (sqT (gdT s44 (gdT hv16 (gdT s49 ?_)))))
      rw [p3]
      exact sqT (brF (by decide) (brT (by decide) (bd1T hc (brF (by decide) (brT (by decide) (bd1T b1 (brF (by decide) (brF (by decide) (gdT (by decide) rfl)))))))))
    · rw [if_neg q] at hc ⊢
      refine ⟨w, 0, ?_, UB_rf, Or.inl ⟨rfl, rfl, hB⟩⟩
      unfold f_X14_carry
      refine gdT hvok (sqT (gdT s44 (gdT hv16 (gdT s47 ?_))))
      rw [hcl, p1, hk]
      refine sqT (gdT hvok (sqT (gdT s44 (gdT hv16 (gdT s48 ?_)))))
      rw [p2 e14]
      refine sqT (gdT hvok (sqT (gdT s44 (gdT hv16 (gdT s49 ?_)))))
      rw [p3]
      exact sqT (brF (by decide) (brT (by decide) (bd1T hc (brT (by decide) (brT (by decide) (gdT (by decide) rfl))))))
  · have e14 : ¬ oK o = 14 := by omega
    have e11 : ¬ oK o = 11 := by omega
    have hs : sOrd S o = if oW o ∈ sr S (oT o) then dnS (sLea S (oT o) (oW o)) else S := by unfold sOrd; rw [if_pos ht, if_neg e11, if_pos e]
    have hx : oW o < 16 := by have := (o4 e14).2; omega
    have hk : mK (oK o) = 5 := by rw [e]; rfl
    have hlen := sh_len hS o2
    have hc := p_X14_place hS hB o2 hx
    rw [hs]
    by_cases q : oW o ∈ sr S (oT o)
    · rw [if_pos q]
      obtain ⟨w1, b1, b2, b3⟩ := p_X14_leaves hS hB o2 hx q
      refine ⟨w1, 1, ?_, b3, Or.inr ⟨rfl, _, rfl, b2⟩⟩
      unfold f_X14_carry
      refine gdT hvok (sqT (gdT s44 (gdT hv16 (gdT s47 ?_))))
      rw [hcl, p1, hk]
      refine sqT (gdT hvok (sqT (gdT s44 (gdT hv16 (gdT s48 ?_)))))
      rw [p2 e14]
      refine sqT (gdT hvok (sqT (gdT s44 (gdT hv16 (gdT s49 ?_)))))
      rw [p3]
      exact sqT (brF (by decide) (brF (by decide) (bd1T hc (brF (by rw [place_m1 (by omega)]; exact fun h => h q) (brF (by decide) (brF (by decide) (brF (by decide) (brT (by decide) (bd1T b1 rfl)))))))))
    · rw [if_neg q]
      refine ⟨w, 0, ?_, UB_rf, Or.inl ⟨rfl, rfl, hB⟩⟩
      unfold f_X14_carry
      refine gdT hvok (sqT (gdT s44 (gdT hv16 (gdT s47 ?_))))
      rw [hcl, p1, hk]
      refine sqT (gdT hvok (sqT (gdT s44 (gdT hv16 (gdT s48 ?_)))))
      rw [p2 e14]
      refine sqT (gdT hvok (sqT (gdT s44 (gdT hv16 (gdT s49 ?_)))))
      rw [p3]
      exact sqT (brF (by decide) (brF (by decide) (bd1T hc (brT (by rw [place_m1 (by omega)]; exact q) (brT (by decide) (brT (by decide) rfl))))))
  · have e11 : ¬ oK o = 11 := by omega
    have e12 : ¬ oK o = 12 := by omega
    have hs : sOrd S o = dnS (sNews S (oT o) (clp (oSf o S))) := by unfold sOrd; rw [if_pos ht, if_neg e11, if_neg e12]
    have hk : mK (oK o) = 7 := by rw [e]; rfl
    obtain ⟨q1, q2⟩ := p7 e
    obtain ⟨w1, b1, b2⟩ := b_reckon (evb_ex (o3 e)).1 hl q2 s53 (by omega) hS hB
    obtain ⟨w2, k2, c1, c2, c3, c4⟩ := p_X14_news hB0 hO (rb_m39 hB b2) o2 (clp_in (oSf o S))
    rw [hs]
    refine ⟨w2, 1, ?_, UB_tr (ub_39 b2) c4, Or.inr ⟨rfl, _, rfl, c2⟩⟩
    unfold f_X14_carry
    refine gdT hvok (sqT (gdT s44 (gdT hv16 (gdT s47 ?_))))
    rw [hcl, p1, hk]
    refine sqT (gdT hvok (sqT (gdT s44 (gdT hv16 (gdT s48 (sqT (gdT hvok (sqT (gdT s44 (gdT hv16 (gdT s49 ?_)))))))))))
    rw [p3]
    refine sqT (brT (by decide) (gdT hvok (sqT (gdT s44 (gdT hv17 (gdT s50 (gdT hvok (sqT (gdT s44 (gdT hv17 (gdT s51 ?_)))))))))))
    rw [p4, p5, q1]
    exact bd1T b1 (bd1T c1 rfl)
/-- one order of the day -/
theorem b_ord' {B : Int} {k j N H R : Nat} {z1 z2 : Int32} {S : Gs} {o : Od} {w : Mm} (hB0 : B + 784 < 2147483648) (hO : OK B H R S) (ho : OdOK H R o) (hl : (oSc o).length ≤ 400 ∧ (oTc o).length ≤ 400) (hj : j < N) (hN : N ≤ 16) (h4 : gI w 44 (gR w 32 0 11 - 1) 4 = nI N) (hp : PO (gR w 32 0 11 - 1) j o w) (hsh : SHP w) (hB : RB k H R S w) :
    ∃ w', (∀ n, f_X14_pass_L9 k z1 z2 (n + 1) (nI j) w = f_X14_pass_L9 k z1 z2 n (nI (j + 1)) w') ∧ RB k H R (sOrd S o) w' ∧ UB k w w' := by
  have hS := hO.1.1
  have hvok := hB.1.1
  have hv17 : vB (nI j) 17 = true := (vB_nI (by omega)).mpr (by omega)
  have hcl : (nI j).toNatClampNeg = j := nI_clamp (by omega)
  have s44 := hsh 44 (by omega) (by omega)
  have s51 := hsh 51 (by omega) (by omega)
  have s52 := hsh 52 (by omega) (by omega)
  have s53 := hsh 53 (by omega) (by omega)
  obtain ⟨p1, p2, p3, a, b, c, p4, p5, p6, p7, p8, pb8, p9, p10⟩ := id hp
  rcases ho.2.2.2.2 with ⟨x, y, h1, h2, h3⟩ | htx
  · have hbc : b = c := by rw [p8, h2]; simp
    obtain ⟨w', r, c1, c2, c3⟩ := b_carry hB0 hO ho hl.1 (by omega) hp hsh hB (by rw [h3])
    have hd : ∀ n x, br (r = 0) (sq (nI j + 1) (fun x17 => f_X14_pass_L9 k z1 z2 n x17 w')) (sq (pI w' 55 k 1 ((gI w' 55 k 1) + 1)) (fun w18 => sq (nI j + 1) (fun x19 => f_X14_pass_L9 k z1 z2 n x19 w18))) = x → f_X14_pass_L9 k z1 z2 (n + 1) (nI j) w = x := by
      intro n x hx
      rw [f_X14_pass_L9]
      refine gdT hvok (sqT (gdT s44 ?_))
      rw [h4]
      refine brF (by (simp (disch := omega) only [lit_nI, nI_leI, nI_ltI, nI_eq, nI_clamp, nI_add, nI_sub, vB_nI, Nat.add_sub_cancel, Nat.reduceSub, Nat.reduceLT, Nat.reduceLeDiff, Nat.reduceAdd, gI_pI, p2_pI, Nat.reduceEqDiff, false_and, and_false, true_and, and_true, if_false, if_true, and_self] <;> omega)) (gdT hvok (sqT (gdT s44 (gdT hv17 (gdT s51 (gdT hvok (sqT (gdT s44 (gdT hv17 (gdT s52 ?_))))))))))
      rw [hcl, p5, p6]
      exact brT (by rw [hbc]) (brF (by decide) (bd1T c1 hx))
    rcases c3 with ⟨rfl, e, c3⟩ | ⟨rfl, S1, e, c3⟩
    · refine ⟨w', fun n => hd n _ (brT rfl (sqT ?_)), by rw [e]; exact c3, c2⟩
      rw [nI_1]
    · refine ⟨_, fun n => hd n _ (brF (by decide) (sqT (sqT ?_))), by rw [e]; exact rb_dn c3, UB_p c2 (by unfold ownB; omega)⟩
      rw [nI_1]
  · have hm := tx_m htx
    have hbc : ¬ nI b = nI c := by rw [nI_eq (by omega) (by omega)]; omega
    obtain ⟨w1, b1, b2⟩ := b_reckon (evb_tx htx).1 hl.2 p10 s53 (by omega) hS hB
    rw [← p8] at b1
    have eR : gR w1 = gR w := gR_2 b2.2
    have hd : ∀ n x, (br (bI (oTf o S) = 1) (br ((1 : Int32) = 0) (sq (nI j + 1) (fun x38 => f_X14_pass_L9 k z1 z2 n x38 w1)) (bd1 (f_X14_carry k (nI j) w1) (fun r39 w40 => br (r39 = 0) (sq (nI j + 1) (fun x41 => f_X14_pass_L9 k z1 z2 n x41 w40)) (sq (pI w40 55 k 1 ((gI w40 55 k 1) + 1)) (fun w42 => sq (nI j + 1) (fun x43 => f_X14_pass_L9 k z1 z2 n x43 w42)))))) (br ((0 : Int32) = 0) (sq (nI j + 1) (fun x32 => f_X14_pass_L9 k z1 z2 n x32 w1)) (bd1 (f_X14_carry k (nI j) w1) (fun r33 w34 => br (r33 = 0) (sq (nI j + 1) (fun x35 => f_X14_pass_L9 k z1 z2 n x35 w34)) (sq (pI w34 55 k 1 ((gI w34 55 k 1) + 1)) (fun w36 => sq (nI j + 1) (fun x37 => f_X14_pass_L9 k z1 z2 n x37 w36))))))) = x → f_X14_pass_L9 k z1 z2 (n + 1) (nI j) w = x := by
      intro n x hx
      rw [f_X14_pass_L9]
      refine gdT hvok (sqT (gdT s44 ?_))
      rw [h4]
      refine brF (by (simp (disch := omega) only [lit_nI, nI_leI, nI_ltI, nI_eq, nI_clamp, nI_add, nI_sub, vB_nI, Nat.add_sub_cancel, Nat.reduceSub, Nat.reduceLT, Nat.reduceLeDiff, Nat.reduceAdd, gI_pI, p2_pI, Nat.reduceEqDiff, false_and, and_false, true_and, and_true, if_false, if_true, and_self] <;> omega)) (gdT hvok (sqT (gdT s44 (gdT hv17 (gdT s51 (gdT hvok (sqT (gdT s44 (gdT hv17 (gdT s52 ?_))))))))))
      rw [hcl, p5, p6]
      refine brF hbc (gdT hvok (sqT (gdT s44 (gdT hv17 (gdT s51 (gdT hvok (sqT (gdT s44 (gdT hv17 (gdT s52 ?_))))))))))
      rw [p5, p6]
      exact bd1T b1 hx
    cases ht : oTf o S with
    | false =>
      simp only [ht] at hd
      have hs : sOrd S o = S := by unfold sOrd; rw [ht]; rfl
      rw [hs]
      refine ⟨w1, fun n => hd n _ (brF (by decide) (brT (by decide) (sqT ?_))), rb_m39 hB b2, ub_39 b2⟩
      rw [nI_1]
    | true =>
      simp only [ht] at hd
      have hp1 : PO (gR w1 32 0 11 - 1) j o w1 := by
        rw [eR]
        refine ⟨?_, fun q => ?_, ?_, a, b, c, ?_, ?_, ?_, fun q => ⟨(p7 q).1, mseg_m39 (p7 q).2 b2⟩, p8, pb8, p9, mseg_m39 p10 b2⟩
        · rw [b2.1 _ _ _ (by omega)]; exact p1
        · rw [b2.1 _ _ _ (by omega)]; exact p2 q
        · rw [b2.1 _ _ _ (by omega)]; exact p3
        · rw [b2.1 _ _ _ (by omega)]; exact p4
        · rw [b2.1 _ _ _ (by omega)]; exact p5
        · rw [b2.1 _ _ _ (by omega)]; exact p6
      have hsh1 : SHP w1 := fun c h1 h2 => by rw [shD_2 b2.2, eR]; exact hsh c h1 h2
      obtain ⟨w', r, c1, c2, c3⟩ := b_carry hB0 hO ho hl.1 (by omega) hp1 hsh1 (rb_m39 hB b2) ht
      rcases c3 with ⟨rfl, e, c3⟩ | ⟨rfl, S1, e, c3⟩
      · refine ⟨w', fun n => hd n _ (brT rfl (brF (by decide) (bd1T c1 (brT rfl (sqT ?_))))), by rw [e]; exact c3, UB_tr (ub_39 b2) c2⟩
        rw [nI_1]
      · refine ⟨_, fun n => hd n _ (brT rfl (brF (by decide) (bd1T c1 (brF (by decide) (sqT (sqT ?_)))))), by rw [e]; exact rb_dn c3, UB_p (UB_tr (ub_39 b2) c2) (by unfold ownB; omega)⟩
        rw [nI_1]
