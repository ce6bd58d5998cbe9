-- AT THE LAW'S ENTRY: all that the walk needs (made by genstart.py)
section START
variable {s : State} {b : Nat}
theorem st_msgs (hts : ∀ w ∈ lw_tbl, w.before #[Value.ref b] s = true) (hn : narrow_1.before #[Value.ref b] s = true) : ∃ f : Nat → Nat, ∀ j q, MSG[j]? = some q → vk_R q.1 q.2.1 q.2.2 (f j) s := by
  have h0 : ∀ j : Nat, ∃ a : Nat, ∀ q, MSG[j]? = some q → vk_R q.1 q.2.1 q.2.2 a s := by
    intro j
    cases e : MSG[j]? with
    | none => exact ⟨0, fun q h => by cases h⟩
    | some q =>
      have hm := List.mem_of_getElem? e
      obtain ⟨a, c, cell, k, q1, _⟩ := Cond.exactly_spec (e_msg hn q hm)
      exact ⟨a, fun q' h => by cases h; exact vk_R.of (A := #[Value.ref b]) (st_msg hts q hm) (by
        first
          | exact q1
          | (have := q1; simpa [Term.eval] using this))⟩
  exact Classical.axiomOfChoice h0
theorem ke_start (hts : ∀ w ∈ lw_tbl, w.before #[Value.ref b] s = true) (hn : narrow_1.before #[Value.ref b] s = true) : ∃ G : GG, gB G = s.heap.size ∧ gF G = false ∧ KE G s := by
  obtain ⟨D, hD⟩ := st_kn hts
  obtain ⟨ty, hty⟩ := st_ty hts
  have hA : ∀ a : Nat, a < s.heap.size → ¬ (fun q : Nat => s.heap.size ≤ q) a := fun a h => Nat.not_le.mpr h
  obtain ⟨ad, ad1, ad2, ad3⟩ := st_enum hts hn hA
  obtain ⟨ak, av, ks1, ks2⟩ := st_text hts hn hA
  obtain ⟨mg, hmg⟩ := st_msgs hts hn
  obtain ⟨t0, z0, T0⟩ := va_Tof (N := 44) (f := fun i => .int (swT.getD i 0)) (by decide) (e_a3 hn) (va_eqt (e_a4 hn)) (fun j hj => va_eqt (e_swi hn j hj)) hA
  obtain ⟨t1, z1, T1⟩ := va_Tof (N := 44) (f := fun i => .ref (ad i)) (by decide) (e_a1 hn) (va_eqt (e_a2 hn)) (fun j hj => va_eqv (e_kal hn j hj) (ad1 j hj).1) hA
  obtain ⟨t2, z2, T2⟩ := va_Tof (N := 23) (f := fun i => .ref (ak i)) (by decide) (e_a5 hn) (va_eqt (e_a6 hn)) (fun j hj => va_eqv (e_wor hn j hj) (ks2 j (by omega))) hA
  -- the addresses of the kinds, one for one; all other addresses by number
  obtain ⟨gA', hgA⟩ : ∃ gA' : Nat → Nat, gA' = fun i => if i < 44 then ad i else s.heap.size + i := ⟨_, rfl⟩
  obtain ⟨gM', hgM⟩ : ∃ gM' : Nat → Nat, gM' = fun k => if k = 0 then t0 else if k = 1 then t1 else if k = 2 then t2 else if k < 100 then mg (k - 10) else if k < 200 then ak (k - 100) else av (k - 200) := ⟨_, rfl⟩
  have eA : ∀ i, i < 44 → gA' i = ad i := fun i hi => by rw [hgA]; exact if_pos hi
  have inj : ∀ i j, gA' i = gA' j → i = j := fun i j e => by
    rw [hgA] at e
    simp only at e
    by_cases qi : i < 44
    · by_cases qj : j < 44
      · rw [if_pos qi, if_pos qj] at e
        exact ad2.2 i j qi qj e
      · rw [if_pos qi, if_neg qj] at e
        have := (ad1 i qi).2
        omega
    · by_cases qj : j < 44
      · rw [if_neg qi, if_pos qj] at e
        have := (ad1 j qj).2
        omega
      · rw [if_neg qi, if_neg qj] at e
        omega
  have m0 : gM' 0 = t0 := by rw [hgM]; rfl
  have m1 : gM' 1 = t1 := by rw [hgM]; rfl
  have m2 : gM' 2 = t2 := by rw [hgM]; rfl
  have mm : ∀ j, j < 90 → gM' (10 + j) = mg j := fun j hj => by
    rw [hgM]
    simp only
    rw [if_neg (by omega), if_neg (by omega), if_neg (by omega), if_pos (by omega), Nat.add_sub_cancel_left]
  have mk' : ∀ j, j < 100 → gM' (100 + j) = ak j := fun j hj => by
    rw [hgM]
    simp only
    rw [if_neg (by omega), if_neg (by omega), if_neg (by omega), if_neg (by omega), if_pos (by omega), Nat.add_sub_cancel_left]
  have mv : ∀ j, gM' (200 + j) = av j := fun j => by
    rw [hgM]
    simp only
    rw [if_neg (by omega), if_neg (by omega), if_neg (by omega), if_neg (by omega), if_neg (by omega), Nat.add_sub_cancel_left]
  have h44 : kNm.length = 44 := rfl
  refine ⟨(D, ty, gA', gM', s.heap.size, false), rfl, rfl, ⟨hD, fun k q hq => ?_⟩, st_nwf hts, st_nwm hts, ?_, inj, ?_, ⟨?_, ?_⟩, ⟨?_, ?_⟩, st_nwd hts, st_nwc hts, ⟨?_, ?_⟩, ?_, st_nwa hts, ?_, ⟨?_, ?_⟩, ?_, ?_, ?_, e_nwx hn⟩
  · have hk : k < 7 := by
      have := (List.getElem?_eq_some_iff.mp hq).1
      exact this
    have e : ∃ t, tyL[k]? = some t ∧ q = (ty k, t) := by
      match k, hk, hq with
      | 0, _, hq => cases hq; exact ⟨_, rfl, rfl⟩
      | 1, _, hq => cases hq; exact ⟨_, rfl, rfl⟩
      | 2, _, hq => cases hq; exact ⟨_, rfl, rfl⟩
      | 3, _, hq => cases hq; exact ⟨_, rfl, rfl⟩
      | 4, _, hq => cases hq; exact ⟨_, rfl, rfl⟩
      | 5, _, hq => cases hq; exact ⟨_, rfl, rfl⟩
      | 6, _, hq => cases hq; exact ⟨_, rfl, rfl⟩
      | k + 7, h, _ => omega
    obtain ⟨t, e1, rfl⟩ := e
    exact hty k t e1
  · refine ⟨fun i hi => ?_, fun i j hi hj e => inj i j e⟩
    have := ad2.1 i hi
    show va_Z _ _ _ (.ref (gA' i)) _ _ _ ∧ va_O _ (gA' i) _ _ _ ∧ ∀ q ∈ _, va_OF _ _ _ _ (gA' i) _ _ _
    rw [eA i (by rw [← h44]; exact hi)]
    exact this
  · intro i hi
    show va_OF _ _ _ _ (gA' i) _ _ _
    rw [eA i hi]; exact ad3 i hi
  · show va_Z _ _ _ (.ref (gM' 0)) _ _ _
    rw [m0]; exact va_Zref (hts _ (w2_220)) (hts _ (tb_of w1_22)) z0 hA
  · show va_T _ (gM' 0) _ _ _ _ _
    rw [m0]; exact T0
  · show va_Z _ _ _ (.ref (gM' 1)) _ _ _
    rw [m1]; exact va_Zref (hts _ (w2_160)) (hts _ (tb_of w1_5)) z1 hA
  · show va_T _ (gM' 1) 44 (fun i => .ref (gA' i)) _ _ _
    rw [m1]
    obtain ⟨cell, x1, x2, x3, x4, x5, x6, x7⟩ := T1
    exact ⟨cell, x1, x2, x3, x4, x5, fun j hj => by
      show cell.slots[j]? = some (.ref (gA' j))
      rw [eA j hj]; exact x6 j hj, x7⟩
  · exact vx_Zqof (hts _ (w4_30)) (hts _ (tb_of w1_17)) (e_r1 hn) hA
  · exact vx_Zqof (hts _ (w4_32)) (hts _ (tb_of w1_17)) (e_r2 hn) hA
  · intro j q hq
    have hj := (List.getElem?_eq_some_iff.mp hq).1
    have h8 : MSG.length = 8 := rfl
    show vk_R _ _ _ (gM' (10 + j)) _
    rw [mm j (by omega)]; exact hmg j q hq
  · refine ⟨fun i hi => ?_, fun i j hi hj e => ?_⟩
    · have := ks1.1 i hi
      show va_O _ (gM' (100 + i)) _ _ _ ∧ va_OF _ _ _ _ (gM' (100 + i)) _ _ _ ∧ va_OF _ _ _ (.ref (gM' (200 + i))) (gM' (100 + i)) _ _ _ ∧ va_T _ (gM' (200 + i)) _ _ _ _ _
      rw [mk' i (by omega), mv i]; exact this
    · have e : gM' (100 + i) = gM' (100 + j) := e
      rw [mk' i (by omega), mk' j (by omega)] at e
      exact ks1.2 i j hi hj e
  · show va_Z _ _ _ (.ref (gM' 2)) _ _ _
    rw [m2]; exact va_Zref (hts _ (w7_1)) (hts _ (tb_of w1_14)) z2 hA
  · show va_T _ (gM' 2) 23 (fun i => .ref (gM' (100 + i))) _ _ _
    rw [m2]
    obtain ⟨cell, x1, x2, x3, x4, x5, x6, x7⟩ := T2
    exact ⟨cell, x1, x2, x3, x4, x5, fun j hj => by
      show cell.slots[j]? = some (.ref (gM' (100 + j)))
      rw [mk' j (by omega)]; exact x6 j hj, x7⟩
  · show vk_R _ _ _ (gM' (100 + 23)) _
    rw [mk' 23 (by omega)]
    have e := ks2 23 (by omega)
    exact vk_R.of (A := #[Value.ref b]) (hts _ (w7_50)) (by
      first
        | exact e
        | (have := e; simpa [Term.eval] using this))
  · exact va_Zof (hts _ (w7_11)) (hts _ (tb_of w1_23)) (va_eqt (e_r4 hn)) hA
  · exact va_Zqof (hts _ (w7_27)) (hts _ (tb_of w1_25)) (e_r3 hn) hA
end START
