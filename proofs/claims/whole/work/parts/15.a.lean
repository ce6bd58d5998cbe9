-- THE PURE PART: the orders that were read
section ODS
variable {T : List Nat} {tk st ln : Nat → Nat} {N : Nat}
theorem mv_ok {E j : Nat} {m8 m38 : Nat → Int32} (h0 : ∀ u, u < E → ec T tk st ln u = 0) (hj : j < E) (h8 : 4 ≤ rol tk j → m8 j = nI (mA T tk st ln j)) (h38 : 4 ≤ rol tk j → m38 j = nI (mB T tk st ln j)) : MVd (cN tk 1 E).length (cN tk 2 E).length tk m8 m38 j := by
  have hz := h0 j hj
  have some1 : ∀ i, fI T tk st ln 1 j = some i → i < (cN tk 1 E).length := fun i e => by
    obtain ⟨u, hu, _, _, _, hl, _⟩ := fI_some e
    obtain ⟨d, hd⟩ : ∃ d, E = j + d := ⟨E - j, by omega⟩
    have := cN_le (tk := tk) (r := 1) (u := j) d
    rw [← hd] at this
    omega
  have some2 : ∀ i, fI T tk st ln 2 j = some i → i < (cN tk 2 E).length := fun i e => by
    obtain ⟨u, hu, _, _, _, hl, _⟩ := fI_some e
    obtain ⟨d, hd⟩ : ∃ d, E = j + d := ⟨E - j, by omega⟩
    have := cN_le (tk := tk) (r := 2) (u := j) d
    rw [← hd] at this
    omega
  refine ⟨fun r => ?_, fun r => ?_, fun r => ?_⟩
  · unfold ec at hz
    rw [if_neg (by omega), if_neg (by omega), if_neg (by omega), if_pos r] at hz
    cases e : fI T tk st ln 1 j with
    | none => rw [if_pos e] at hz; cases hz
    | some i =>
      have em : mA T tk st ln j = i := by unfold mA; rw [e]
      refine ⟨i, some1 i e, by rw [h8 (by omega), em], ?_⟩
      rw [h38 (by omega), mB_n (by omega), em]
  · unfold ec at hz
    rw [if_neg (by omega), if_neg (by omega), if_neg (by omega), if_neg (by omega), if_pos r] at hz
    cases e : fI T tk st ln 2 j with
    | none => rw [if_pos e] at hz; cases hz
    | some i =>
      have e5 : fI T tk st ln 1 j = none := by
        cases e6 : fI T tk st ln 1 j with
        | none => rfl
        | some i' => exact (fI_un (fun u hu => h0 u (by omega)) e6 e).elim
      have em : mA T tk st ln j = 8 + i := by unfold mA; rw [e5, e]
      refine ⟨i, some2 i e, by rw [h8 (by omega), em], ?_⟩
      rw [h38 (by omega)]
      unfold mB
      rw [if_pos r, em, Nat.add_sub_cancel_left]
  · unfold ec at hz
    rw [if_neg (by omega), if_neg (by omega), if_pos r] at hz
    rw [h8 (by omega), h38 (by omega), mB_n (by omega)]
    cases e : fI T tk st ln 1 j with
    | some i =>
      have em : mA T tk st ln j = i := by unfold mA; rw [e]
      exact ⟨i, Or.inl (some1 i e), by rw [em], by rw [em]⟩
    | none =>
      cases e2 : fI T tk st ln 2 j with
      | none => rw [if_pos ⟨e, e2⟩] at hz; cases hz
      | some i =>
        have em : mA T tk st ln j = 8 + i := by unfold mA; rw [e, e2]
        have := some2 i e2
        exact ⟨8 + i, Or.inr ⟨by omega, by omega⟩, by rw [em], by rw [em]⟩
/-- one order -/
theorem one_od {H R E b c : Nat} {nv m8 m38 : Nat → Int32} {mf : Nat → Nat} {o : Oo} (hN : ∀ j, j + 1 ≤ N → (tk j = 1 ∨ tk j = 2) ∨ j + 2 ≤ N) (h4 : N ≤ 401) (hE : E + 1 = N) (hH : H ≤ 8 ∧ R ≤ 8) (hm : ∀ j, j < E → tk j = 3 → MVd H R tk m8 m38 j) (hn : ∀ j, j < E → tk j = 4 → m8 j = nv j) (hA : ∀ j, j < E → tk j = 3 → 4 ≤ rol tk j → m8 j = nI (mf j) ∧ mf j < 16) (hs : OSh tk b c o) (hc : c ≤ E) : ∃ od : Od, odC od = (oS tk b o).map (lnk m8) ∧ OdOK H R od ∧ oSm od = mcls nv m38 o.1 ∧ oTm od = mcls nv m38 (o.2.getD []) ∧ oK od = tk b ∧ (tk b ≠ 14 → oW od = mf (b + 1)) ∧ oT od = (if tk b = 14 then mf (b + 1) else mf (b + 3)) := by
  obtain ⟨hO, t1, a1, k1, k2, k14, kn, k3⟩ := hs
  have r1 := rol_o1 hO t1
  obtain ⟨a8, a16⟩ := hA (b + 1) (by omega) t1 (by rw [r1]; split <;> omega)
  have m1 := hm (b + 1) (by omega) t1
  have hf : ∀ {x y : Nat}, x < 16 → y < 16 → nI x = nI y → x = y := fun hx hy e => (nI_eq (by omega) (by omega)).mp e
  -- the test
  obtain ⟨Tc, Tm, Tf, e1, e2, e3⟩ : ∃ (Tc : List Ps) (Tm : List Int32) (Tf : Gs → Bool), Tc = (o.2.getD [sp 6]).map (lnk m8) ∧ Tm = mcls nv m38 (o.2.getD []) ∧ ((∃ a b, Tc = [(6, a, b)] ∧ Tm = [] ∧ Tf = fun _ => true) ∨ TX H R Tc Tm Tf) := by
    rcases k3 with k3 | ⟨o2, k3, k5, k4⟩
    · exact ⟨_, _, fun _ => true, rfl, rfl, Or.inl ⟨0, 0, by rw [k3]; show [lnk m8 (sp 6)] = _; rw [lnk_sp], by rw [k3]; rfl, rfl⟩⟩
    · have hlt : a1 + 2 ≤ N := by omega
      have hz := (zTst_eq hN h4 (by omega : a1 + 1 + 1 ≤ N)).1
      rw [k4] at hz
      have hg := gs_tst hN h4 (by omega : a1 + 1 + 1 ≤ N) k4
      obtain ⟨_, q⟩ := pz_ind (vq_all (H := H) (R := R) (nv := nv) (m8 := m8) (m38 := m38)) _ _ _ _ _ _ _ (by omega) hz
      obtain ⟨f, q⟩ := q (by omega) (fun j q1 q2 q3 => hm j (by omega) q3) fun j q1 q2 q3 => hn j (by omega) q3
      exact ⟨_, _, f, rfl, rfl, Or.inr (by rw [k3]; exact q)⟩
  have lk1 : lkv m8 (nI (b + 1)) = nI (mf (b + 1)) := by rw [lkv_nI (by omega), a8]
  by_cases q : tk b = 14
  · obtain ⟨u1, u2⟩ := k14 q
    rw [if_pos q] at r1
    obtain ⟨h, hh, eh, _⟩ := m1.1 (Or.inl r1)
    have hmf : mf (b + 1) < H := by
      have := hf a16 (by omega : h < 16) (a8.symm.trans eh)
      omega
    have hz := (zSum_eq hN h4 (by omega : b + 3 + 1 ≤ N)).1
    rw [u2] at hz
    obtain ⟨_, qs⟩ := pz_ind (vq_all (H := H) (R := R) (nv := nv) (m8 := m8) (m38 := m38)) _ _ _ _ _ _ _ (by omega) hz
    obtain ⟨f, qs⟩ := qs (by omega) (fun j q1 q2 q3 => hm j (by omega) q3) fun j q1 q2 q3 => hn j (by omega) q3
    refine ⟨((tk b, 0, mf (b + 1)), (o.1.map (lnk m8), mcls nv m38 o.1, f), (Tc, Tm, Tf)), ?_, ⟨Or.inr (Or.inr q), hmf, fun _ => qs, fun n => (n q).elim, e3⟩, rfl, e2, rfl, fun n => (n q).elim, ?_⟩
    · show o.1.map (lnk m8) ++ Tc ++ [(tk b, nI (if tk b = 14 then mf (b + 1) else 0), nI (mf (b + 1)))] = _
      unfold oS
      rw [List.map_append, List.map_append, e1, if_pos q, if_pos q, List.append_assoc]
      show _ = _ ++ (_ ++ [(tk b, lkv m8 (nI (b + 1)), lkv m8 (nI (b + 1)))])
      rw [lk1]
    · rw [if_pos q]; rfl
  · obtain ⟨u1, u2, u3, u4⟩ := kn q
    rw [if_neg q] at r1
    have r3 := rol_o3 u1 u2
    obtain ⟨b8, b16⟩ := hA (b + 3) (by omega) u2 (by omega)
    have m3 := hm (b + 3) (by omega) u2
    obtain ⟨h, hh, eh, _⟩ := m3.1 (Or.inl r3)
    have hmf : mf (b + 3) < H := by
      have := hf b16 (by omega : h < 16) (b8.symm.trans eh)
      omega
    obtain ⟨x, hx, ex, _⟩ := m1.2.2 (Or.inl r1)
    have hmx : mf (b + 1) < H ∨ (8 ≤ mf (b + 1) ∧ mf (b + 1) < 8 + R) := by
      have := hf a16 (by omega : x < 16) (a8.symm.trans ex)
      omega
    have lk3 : lkv m8 (nI (b + 3)) = nI (mf (b + 3)) := by rw [lkv_nI (by omega), b8]
    have hO' : tk b = 11 ∨ tk b = 12 ∨ tk b = 14 := hO
    refine ⟨((tk b, mf (b + 1), mf (b + 3)), ([], [], fun _ => 0), (Tc, Tm, Tf)), ?_, ⟨hO', hmf, fun e => (q e).elim, fun _ => ⟨rfl, hmx⟩, e3⟩, by rw [u3]; rfl, e2, rfl, fun _ => rfl, ?_⟩
    · show [] ++ Tc ++ [(tk b, nI (if tk b = 14 then mf (b + 3) else mf (b + 1)), nI (mf (b + 3)))] = _
      unfold oS
      rw [u3, List.map_append, List.map_append, e1, if_neg q, if_neg q]
      show _ = [] ++ (_ ++ [(tk b, lkv m8 (nI (b + 1)), lkv m8 (nI (b + 3)))])
      rw [lk1, lk3]; rfl
    · rw [if_neg q]; rfl
theorem cO_no : ∀ {a : Nat} (d : Nat), (∀ j, a ≤ j → j < a + d → ¬ isO (tk j)) → cO tk (a + d) = cO tk a
  | a, 0, _ => rfl
  | a, d + 1, h => by
    show cO tk ((a + d) + 1) = _
    rw [cO_s, if_neg (h (a + d) (by omega) (by omega))]
    exact cO_no d fun j h1 h2 => h j h1 (by omega)
theorem mK_mk {k : Nat} (h : isO k) : mk k = mK k := by
  rcases h with h | h | h <;> subst h <;> rfl
/-- all orders -/
theorem all_ods {H R E p : Nat} {nv m8 m38 : Nat → Int32} {mf : Nat → Nat} {w : Mm} (hN : ∀ j, j + 1 ≤ N → (tk j = 1 ∨ tk j = 2) ∨ j + 2 ≤ N) (h4 : N ≤ 401) (hE : E + 1 = N) (hH : H ≤ 8 ∧ R ≤ 8) (hm : ∀ j, j < E → tk j = 3 → MVd H R tk m8 m38 j) (hn : ∀ j, j < E → tk j = 4 → m8 j = nv j) (hA : ∀ j, j < E → tk j = 3 → 4 ≤ rol tk j → m8 j = nI (mf j) ∧ mf j < 16) (hR : ∀ b, b < E → isO (tk b) → gI w 47 p (cO tk b) = mk (tk b) ∧ (b + 1 < E → tk (b + 1) = 3 → gI w (if tk b = 14 then 49 else 48) p (cO tk b) = nI (mf (b + 1))) ∧ (b + 3 < E → tk b ≠ 14 → tk (b + 2) = 13 → tk (b + 3) = 3 → gI w 49 p (cO tk b) = nI (mf (b + 3)))) : ∀ (os : List (Nat × Oo)) (a m k : Nat), OPs tk a E os → ORc nv p m k os w → MSEG p m (mcls nv m38 (vOs os)) w → cO tk a = k → k + os.length ≤ 16 → m + (mcs nv (vOs os)).length ≤ 800 → ∃ ods : List Od, ods.length = os.length ∧ ods.flatMap odC = (os.flatMap fun x => oS tk x.1 x.2).map (lnk m8) ∧ (∀ od ∈ ods, OdOK H R od) ∧ ∀ j od, ods[j]? = some od → PO p (k + j) od w
  | [], a, m, k, _, _, _, _, _, _ => ⟨[], rfl, rfl, fun od h => (by cases h), fun j od h => (by simp at h)⟩
  | (b, o) :: os, a, m, k, hP, hC, hM, hk, hl, h8 => by
    obtain ⟨g1, g2, g3, ⟨c, g4, g5⟩, g6⟩ := hP
    obtain ⟨c1, c2⟩ := hC
    have ev : vOs ((b, o) :: os) = vO o ++ vOs os := by unfold vOs; rw [List.flatMap_cons]
    rw [ev, mcls_app] at hM
    rw [ev, mcs_app, List.length_append] at h8
    rw [List.length_cons] at hl
    have hkb : cO tk b = k := by
      obtain ⟨d, rfl⟩ : ∃ d, b = a + d := ⟨b - a, by omega⟩
      rw [cO_no d g3]; exact hk
    obtain ⟨od, q1, q2, q3, q4, q5, q6, q7⟩ := one_od (m38 := m38) hN h4 hE hH hm hn hA g5 g4
    have hM2 : MSEG p (m + (mcs nv (vO o)).length) (mcls nv m38 (vOs os)) w := fun j v e => by
      have := hM ((mcls nv m38 (vO o)).length + j) v (by rw [List.getElem?_append_right (by omega), Nat.add_sub_cancel_left]; exact e)
      rw [mcs_len] at this
      rwa [Nat.add_assoc]
    have hM1 : MSEG p m (mcls nv m38 (vO o)) w := fun j v e => hM j v (by rw [List.getElem?_append_left (List.getElem?_eq_some_iff.mp e).1]; exact e)
    obtain ⟨ods, s1, s2, s3, s4⟩ := all_ods hN h4 hE hH hm hn hA hR os (b + 1) _ (k + 1) g6 c2 hM2 (by rw [cO_s, if_pos g5.1, hkb]) (by omega) (by omega)
    refine ⟨od :: ods, by simp [s1], ?_, fun x hx => ?_, fun j x hx => ?_⟩
    · rw [List.flatMap_cons, List.flatMap_cons, List.map_append, q1, s2]
    · rcases List.mem_cons.mp hx with h | h
      · subst h; exact q2
      · exact s3 x h
    · cases j with
      | succ j =>
        have := s4 j x (by simpa using hx)
        rwa [show k + 1 + j = k + (j + 1) by omega] at this
      | zero =>
        cases hx
        rw [Nat.add_zero]
        obtain ⟨hO, t1, a1, k1, k2, k14, kn, k3⟩ := g5
        obtain ⟨u47, u48, u49⟩ := hR b g2 hO
        rw [hkb] at u47 u48 u49
        obtain ⟨r50, r51, r52⟩ := c1 (by omega)
        have eSm : (oSm od).length = (mcs nv o.1).length := by rw [q3, mcs_len]
        have eTm : (oTm od).length = (mcs nv (o.2.getD [])).length := by rw [q4, mcs_len]
        have eVm : (mcs nv (vO o)).length = (mcs nv o.1).length + (mcs nv (o.2.getD [])).length := by unfold vO; rw [mcs_app, List.length_append]
        have hVO : mcls nv m38 (vO o) = oSm od ++ oTm od := by unfold vO; rw [mcls_app, q3, q4]
        rw [hVO] at hM1
        refine ⟨by rw [q5, u47, mK_mk hO], fun n14 => ?_, ?_, m, m + (oSm od).length, m + (oSm od).length + (oTm od).length, r50, ?_, ?_, fun _ => ⟨rfl, fun j v e => hM1 j v (by rw [List.getElem?_append_left (List.getElem?_eq_some_iff.mp e).1]; exact e)⟩, rfl, by omega, by omega, fun j v e => ?_⟩
        · rw [q5] at n14
          have := u48 (by omega) t1
          rw [if_neg n14] at this
          rw [this, q6 n14]
        · rw [q7]
          by_cases q14 : tk b = 14
          · have := u48 (by omega) t1
            rw [if_pos q14] at this
            rw [this, if_pos q14]
          · obtain ⟨v1, v2, v3, v4⟩ := kn q14
            rw [u49 (by omega) q14 v1 v2, if_neg q14]
        · rw [r51, eSm]
        · rw [r52, eVm, eSm, eTm, Nat.add_assoc]
        · have := hM1 ((oSm od).length + j) v (by rw [List.getElem?_append_right (by omega), Nat.add_sub_cancel_left]; exact e)
          rwa [Nat.add_assoc]
end ODS
