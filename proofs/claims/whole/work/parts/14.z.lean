-- THE PURE PART: linking in the reference
theorem mc_len {nv m38 : Nat → Int32} {s : Ps} : (mcl nv m38 s).length = (mc nv s).length := by
  unfold mcl mc
  repeat' split
  all_goals rfl
theorem mcs_len {nv m38 : Nat → Int32} : ∀ o : List Ps, (mcls nv m38 o).length = (mcs nv o).length
  | [] => rfl
  | s :: o => by
    unfold mcls mcs
    rw [List.flatMap_cons, List.flatMap_cons, List.length_append, List.length_append, mc_len]
    have := mcs_len (nv := nv) (m38 := m38) o
    unfold mcls mcs at this
    rw [this]
theorem op1_r {nv : Nat → Int32} {m : Nat} {s : Ps} : ∀ y ∈ op1 m s, m < y ∧ y < m + (mc nv s).length := by
  intro y hy
  unfold op1 at hy
  by_cases q : s.1 = 20 ∨ s.1 = 21 ∨ s.1 = 22
  · rw [if_pos q] at hy
    rw [List.mem_singleton] at hy
    have : (mc nv s).length = 2 := by
      unfold mc
      rw [if_neg (by omega), if_neg (by omega), if_pos q]; rfl
    omega
  · rw [if_neg q] at hy
    by_cases q2 : s.1 = 24
    · rw [if_pos q2] at hy
      have : (mc nv s).length = 3 := by
        unfold mc
        rw [if_neg (by omega), if_neg (by omega), if_neg q, if_pos q2]; rfl
      rcases List.mem_cons.mp hy with h | h
      · omega
      · rw [List.mem_singleton] at h; omega
    · rw [if_neg q2] at hy; cases hy
theorem opn_ge {nv : Nat → Int32} : ∀ (o : List Ps) (m y : Nat), y ∈ opn nv m o → m ≤ y ∧ y < m + (mcs nv o).length
  | [], m, y, h => by cases h
  | s :: o, m, y, h => by
    have e : (mcs nv (s :: o)).length = (mc nv s).length + (mcs nv o).length := by unfold mcs; rw [List.flatMap_cons, List.length_append]
    rw [opn] at h
    rcases List.mem_append.mp h with h | h
    · have := op1_r (nv := nv) y h
      omega
    · have := opn_ge o _ y h
      omega
theorem opn_lt {nv : Nat → Int32} : ∀ (o : List Ps) (m : Nat), (opn nv m o).Pairwise (· < ·)
  | [], m => List.Pairwise.nil
  | s :: o, m => by
    rw [opn, List.pairwise_append]
    refine ⟨?_, opn_lt o _, fun a ha b hb => ?_⟩
    · unfold op1
      split
      · exact List.pairwise_singleton _ _
      · split
        · exact List.Pairwise.cons (fun x hx => by rw [List.mem_singleton] at hx; omega) (List.pairwise_singleton _ _)
        · exact List.Pairwise.nil
    · have h1 := op1_r (nv := nv) a ha
      have h2 := opn_ge o _ b hb
      show a < b
      omega
/-- what linking does to the code, cell by cell -/
theorem opn_c {nv m38 : Nat → Int32} {N : Nat} (hN : N ≤ 401) : ∀ (o : List Ps) (m x : Nat), (∀ s ∈ o, ARs N s) → (m + x ∈ opn nv m o → ∃ a, a < N ∧ (mcs nv o)[x]? = some (nI a) ∧ (mcls nv m38 o)[x]? = some (m38 a)) ∧ (m + x ∉ opn nv m o → (mcls nv m38 o)[x]? = (mcs nv o)[x]?)
  | [], m, x, _ => ⟨fun h => (by cases h), fun _ => rfl⟩
  | s :: o, m, x, hA => by
    have e1 : mcs nv (s :: o) = mc nv s ++ mcs nv o := by unfold mcs; rw [List.flatMap_cons]
    have e2 : mcls nv m38 (s :: o) = mcl nv m38 s ++ mcls nv m38 o := by unfold mcls; rw [List.flatMap_cons]
    rw [e1, e2, opn]
    by_cases q : x < (mc nv s).length
    · rw [List.getElem?_append_left q, List.getElem?_append_left (by rw [mc_len]; exact q)]
      have hno : ¬ m + x ∈ opn nv (m + (mc nv s).length) o := fun h => by have := opn_ge o _ _ h; omega
      have hmem : m + x ∈ op1 m s ++ opn nv (m + (mc nv s).length) o ↔ m + x ∈ op1 m s := by
        rw [List.mem_append]
        exact ⟨fun h => h.elim id fun h => (hno h).elim, Or.inl⟩
      rw [hmem]
      obtain ⟨a1, a2⟩ := hA s List.mem_cons_self
      unfold op1 mc mcl at *
      by_cases k4 : s.1 = 4
      · rw [if_neg (by omega), if_neg (by omega)]
        rw [if_pos k4, if_pos k4]
        exact ⟨fun h => (by cases h), fun _ => rfl⟩
      · rw [if_neg k4, if_neg k4]
        rw [if_neg k4] at q
        by_cases k17 : s.1 = 17 ∨ s.1 = 18 ∨ s.1 = 19 ∨ s.1 = 25 ∨ s.1 = 26 ∨ s.1 = 27
        · rw [if_pos k17, if_pos k17, if_neg (by omega), if_neg (by omega)]
          exact ⟨fun h => (by cases h), fun _ => rfl⟩
        · rw [if_neg k17, if_neg k17]
          rw [if_neg k17] at q
          by_cases k20 : s.1 = 20 ∨ s.1 = 21 ∨ s.1 = 22
          · rw [if_pos k20, if_pos k20, if_pos k20]
            rw [if_pos k20] at q
            obtain ⟨a, ha, ea⟩ := a1 k20
            have hx : x = 0 ∨ x = 1 := by simp only [List.length_cons, List.length_nil] at q; omega
            rcases hx with rfl | rfl
            · exact ⟨fun h => by rw [List.mem_singleton] at h; omega, fun _ => rfl⟩
            · refine ⟨fun _ => ⟨a, ha, ?_, ?_⟩, fun h => (h (by rw [List.mem_singleton])).elim⟩
              · show some s.2.1 = _
                rw [ea]
              · show some (m38 s.2.1.toNatClampNeg) = _
                rw [ea, nI_clamp (by omega)]
          · rw [if_neg k20, if_neg k20, if_neg k20]
            rw [if_neg k20] at q
            by_cases k24 : s.1 = 24
            · rw [if_pos k24, if_pos k24, if_pos k24]
              rw [if_pos k24] at q
              obtain ⟨a, b, ha, hb, ea, eb⟩ := a2 k24
              have hx : x = 0 ∨ x = 1 ∨ x = 2 := by simp only [List.length_cons, List.length_nil] at q; omega
              rcases hx with rfl | rfl | rfl
              · refine ⟨fun h => ?_, fun _ => rfl⟩
                rcases List.mem_cons.mp h with h | h
                · omega
                · rw [List.mem_singleton] at h; omega
              · refine ⟨fun _ => ⟨a, ha, ?_, ?_⟩, fun h => (h List.mem_cons_self).elim⟩
                · show some s.2.1 = _
                  rw [ea]
                · show some (m38 s.2.1.toNatClampNeg) = _
                  rw [ea, nI_clamp (by omega)]
              · refine ⟨fun _ => ⟨b, hb, ?_, ?_⟩, fun h => (h (List.mem_cons_of_mem _ (by rw [List.mem_singleton]))).elim⟩
                · show some s.2.2 = _
                  rw [eb]
                · show some (m38 s.2.2.toNatClampNeg) = _
                  rw [eb, nI_clamp (by omega)]
            · rw [if_neg k24, if_neg k24, if_neg k24]
              exact ⟨fun h => (by cases h), fun _ => by split <;> rfl⟩
    · obtain ⟨y, rfl⟩ : ∃ y, x = (mc nv s).length + y := ⟨x - (mc nv s).length, by omega⟩
      rw [List.getElem?_append_right (by omega), List.getElem?_append_right (by rw [mc_len]; omega), mc_len, Nat.add_sub_cancel_left]
      have hno : ¬ m + ((mc nv s).length + y) ∈ op1 m s := fun h => by have := op1_r (nv := nv) _ h; omega
      have hmem : m + ((mc nv s).length + y) ∈ op1 m s ++ opn nv (m + (mc nv s).length) o ↔ m + (mc nv s).length + y ∈ opn nv (m + (mc nv s).length) o := by
        rw [List.mem_append, Nat.add_assoc]
        exact ⟨fun h => h.elim (fun h => (hno h).elim) id, Or.inr⟩
      rw [hmem]
      exact opn_c hN o _ y fun t ht => hA t (List.mem_cons_of_mem _ ht)
/-- the reference's linking touches the code alone -/
def FB (p : Nat) (w w' : Mm) : Prop := (∀ c k i, ¬ (c = 53 ∧ k = p) → gI w' c k i = gI w c k i) ∧ w'.2 = w.2
theorem b_linkL {nv : Nat → Int32} {N p b : Nat} {o : List Ps} {w0 : Mm} (hN : N ≤ 401) (hA : ∀ s ∈ o, ARs N s) (hx : MFx p w0) (h15 : gI w0 44 p 15 = nI (opn nv 0 o).length) (hQ : (opn nv 0 o).length ≤ 400) (hL : (mcs nv o).length ≤ 800) (hO : OSEG p 0 (opn nv 0 o) w0) : ∀ (d u f : Nat) (w : Mm), u + d = (opn nv 0 o).length → d < f → FB p w0 w → (∀ x v, (if x ∈ (opn nv 0 o).take u then (mcls nv (fun a => gI w0 38 0 a) o)[x]? else (mcs nv o)[x]?) = some v → gI w 53 p x = v) → ∃ w', f_X15_read_L111 b f (nI u) w = some w' ∧ FB p w0 w' ∧ MSEG p 0 (mcls nv (fun a => gI w0 38 0 a) o) w'
  | 0, u, f + 1, w, e, hf, hF, hC => by
    have e : u = (opn nv 0 o).length := by omega
    subst e
    have s44 : shD w 44 p = true := by rw [shD_2 hF.2]; exact hx.2 44 (by omega) (by omega)
    have r12 : gR w 32 0 12 = p + 1 := by rw [gR_2 hF.2]; exact hx.1
    refine ⟨w, ?_, hF, fun x v hv => ?_⟩
    · rw [f_X15_read_L111, r12]
      refine gdT vok44 (sqT (gdT (by rw [Nat.add_sub_cancel]; exact s44) (brT ?_ rfl)))
      rw [Nat.add_sub_cancel, hF.1 _ _ _ (by omega), h15, nI_leI (by omega) (by omega)]
      omega
    · rw [Nat.zero_add]
      refine hC x v ?_
      rw [List.take_length]
      by_cases q : x ∈ opn nv 0 o
      · rw [if_pos q]; exact hv
      · rw [if_neg q]
        have := (opn_c (m38 := fun a => gI w0 38 0 a) hN o 0 x hA).2 (by rw [Nat.zero_add]; exact q)
        rw [← this]; exact hv
  | d + 1, u, f + 1, w, e, hf, hF, hC => by
    have hlt : u < (opn nv 0 o).length := by omega
    obtain ⟨x, hxu⟩ : ∃ x, (opn nv 0 o)[u]? = some x := ⟨_, List.getElem?_eq_getElem hlt⟩
    have hmem := List.mem_of_getElem? hxu
    have hxl := opn_ge o 0 x hmem
    obtain ⟨a, ha, ca, cl⟩ := (opn_c (m38 := fun a => gI w0 38 0 a) hN o 0 x hA).1 (by rw [Nat.zero_add]; exact hmem)
    have hni : x ∉ (opn nv 0 o).take u := fun h => by
      obtain ⟨i, hi⟩ := List.mem_iff_getElem?.mp h
      rw [List.getElem?_take] at hi
      by_cases q : i < u
      · rw [if_pos q] at hi
        obtain ⟨b1, e1⟩ := List.getElem?_eq_some_iff.mp hi
        obtain ⟨b2, e2⟩ := List.getElem?_eq_some_iff.mp hxu
        have := List.pairwise_iff_getElem.mp (opn_lt (nv := nv) o 0) i u b1 b2 q
        omega
      · rw [if_neg q] at hi; cases hi
    have c53 : gI w 53 p x = nI a := hC x _ (by rw [if_neg hni]; exact ca)
    have c54 : gI w 54 p u = nI x := by
      have := hO u x hxu
      rw [Nat.zero_add] at this
      rw [hF.1 _ _ _ (by omega)]; exact this
    have c38 : gI w 38 0 a = gI w0 38 0 a := hF.1 _ _ _ (by omega)
    have s44 : shD w 44 p = true := by rw [shD_2 hF.2]; exact hx.2 44 (by omega) (by omega)
    have s53 : shD w 53 p = true := by rw [shD_2 hF.2]; exact hx.2 53 (by omega) (by omega)
    have s54 : shD w 54 p = true := by rw [shD_2 hF.2]; exact hx.2 54 (by omega) (by omega)
    have r12 : gR w 32 0 12 = p + 1 := by rw [gR_2 hF.2]; exact hx.1
    have hF2 : FB p w0 (pI w 53 p x (gI w0 38 0 a)) := ⟨fun c k i q => by rw [gI_pI, if_neg (by omega)]; exact hF.1 c k i q, hF.2⟩
    obtain ⟨w', k1, k2, k3⟩ := b_linkL (b := b) hN hA hx h15 hQ hL hO d (u + 1) f _ (by omega) (by omega) hF2 fun y v hv => by
      by_cases qy : y = x
      · subst qy
        have hin : y ∈ (opn nv 0 o).take (u + 1) := by
          refine List.mem_iff_getElem?.mpr ⟨u, ?_⟩
          rw [List.getElem?_take, if_pos (by omega)]; exact hxu
        rw [if_pos hin] at hv
        rw [gI_pI, if_pos ⟨rfl, rfl, rfl⟩]
        rw [cl] at hv
        exact Option.some.inj hv
      · have hiff : y ∈ (opn nv 0 o).take (u + 1) ↔ y ∈ (opn nv 0 o).take u := by
          have et : (opn nv 0 o).take (u + 1) = (opn nv 0 o).take u ++ [x] := by
            rw [List.take_add_one, hxu]; rfl
          rw [et, List.mem_append, List.mem_singleton]
          exact ⟨fun h => h.elim id fun h => (qy h).elim, Or.inl⟩
        rw [gI_pI, if_neg (by omega)]
        refine hC y v ?_
        by_cases q : y ∈ (opn nv 0 o).take u
        · rw [if_pos q]; rw [if_pos (hiff.mpr q)] at hv; exact hv
        · rw [if_neg q]; rw [if_neg (fun h => q (hiff.mp h))] at hv; exact hv
    refine ⟨w', ?_, k2, k3⟩
    have hv400 : vB (nI u) 400 = true := (vB_nI (by omega)).mpr (by omega)
    have hv800 : vB (nI x) 800 = true := (vB_nI (by omega)).mpr (by omega)
    have hv401 : vB (nI a) 401 = true := (vB_nI (by omega)).mpr (by omega)
    rw [f_X15_read_L111, r12]
    refine gdT vok44 (sqT (gdT (by rw [Nat.add_sub_cancel]; exact s44) ?_))
    rw [Nat.add_sub_cancel, hF.1 44 p 15 (by omega), h15]
    refine brF (by rw [nI_leI (by omega) (by omega)]; omega) (gdT vok44 (sqT (gdT s44 (gdT vok44 (sqT (gdT s44 (gdT hv400 ?_)))))))
    rw [nI_clamp (by omega)]
    refine gdT s54 (gdT vok44 (sqT (gdT s44 (gdT vok44 (sqT (gdT s44 (gdT hv400 (gdT s54 ?_))))))))
    rw [c54]
    refine gdT hv800 (gdT s53 ?_)
    rw [nI_clamp (by omega), c53]
    refine gdT hv401 (gdT hv800 (gdT s53 ?_))
    rw [nI_clamp (by omega), c38, nI_1]
    exact sqT (sqT k1)
theorem b_link {nv : Nat → Int32} {N p b : Nat} {o : List Ps} {w : Mm} (hN : N ≤ 401) (hA : ∀ s ∈ o, ARs N s) (hx : MFx p w) (h15 : gI w 44 p 15 = nI (opn nv 0 o).length) (hQ : (opn nv 0 o).length ≤ 400) (hL : (mcs nv o).length ≤ 800) (hO : OSEG p 0 (opn nv 0 o) w) (hM : MSEG p 0 (mcs nv o) w) : ∃ w', f_X15_read_L111 b LF 0 w = some w' ∧ FB p w w' ∧ MSEG p 0 (mcls nv (fun a => gI w 38 0 a) o) w' := by
  have := b_linkL (b := b) hN hA hx h15 hQ hL hO (opn nv 0 o).length 0 LF w (by omega) (by unfold LF; omega) ⟨fun _ _ _ _ => rfl, rfl⟩ fun x v hv => by
    rw [List.take_zero, if_neg (by simp)] at hv
    have := hM x v hv
    rwa [Nat.zero_add] at this
  exact this
