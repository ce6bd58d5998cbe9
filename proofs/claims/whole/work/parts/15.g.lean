-- THE PURE PART: the law's loop
theorem lw_tail {r r2 : Int32} {w2 : Mm} {P : Mm → Prop} (h1 : gI w2 32 0 0 = r) (h2 : r = 0 → gL w2 63 0 0 = r2.toInt64) (hP : P w2) : bd1P (f_X15_thrown w2) (fun r17 w18 => brP (r17 = r) (brP (r = 0) (gdP (vB 0 1) (brP ((lg_cmp (gL w18 63 0 (0 : Int32).toNatClampNeg) r2.toInt64) = 0) (P w18) (False))) (P w18)) (False)) := by
  refine ⟨gI w2 32 0 0, w2, rfl, fun _ => ⟨fun h0 => ⟨by decide, fun _ => hP, fun n => ?_⟩, fun _ => hP⟩, fun n => (n h1).elim⟩
  exact n (lg_cmp_0.mpr (h2 h0))
theorem lw_back {r r2 : Int32} {w2 : Mm} {P : Mm → Prop} (h1 : gI w2 32 0 0 = r) (h2 : r = 0 → gL w2 63 0 0 = r2.toInt64) (hr : r2 = 0 ∨ r2 = 1) (hP : P w2) : bd1P (f_X15_thrown w2) (fun r17 w18 => brP (r17 = r) (brP (r = 0) (gdP (vB 0 1) (brP (r2 = 0) (brP ((lg_cmp (gL w18 63 0 (0 : Int32).toNatClampNeg) 0) = 0) (P w18) (False)) (brP ((lg_cmp (gL w18 63 0 (0 : Int32).toNatClampNeg) 1) = 0) (P w18) (False)))) (P w18)) (False)) := by
  refine ⟨gI w2 32 0 0, w2, rfl, fun _ => ⟨fun h0 => ⟨by decide, fun e => ⟨fun _ => hP, fun n => ?_⟩, fun e => ⟨fun _ => hP, fun n => ?_⟩⟩, fun _ => hP⟩, fun n => (n h1).elim⟩
  · refine n (lg_cmp_0.mpr ?_)
    have := h2 h0
    rw [e] at this
    exact this
  · refine n (lg_cmp_0.mpr ?_)
    have := h2 h0
    rw [hr.resolve_left e] at this
    exact this
theorem lw_n {eL : Option (Int32 × Mm)} {eM : Mm → Option (Int32 × Mm)} {I P : Mm → Prop} (h : CN eL eM I) (hP : ∀ w, I w → P w) : bd1P eL (fun r w1 => bd1P (eM w1) (fun r2 w2 => brP (r = r2) (P w2) (False))) := by
  obtain ⟨r, w1, w2, e1, e2, h⟩ := h
  exact ⟨r, w1, e1, r, w2, e2, fun _ => hP _ h, fun n => (n rfl).elim⟩
theorem bd1_e {α ω : Type} {e : Option (α × Mm)} {k : α → Mm → Option ω} {r : ω} (h : bd1 e k = some r) : ∃ x w, e = some (x, w) ∧ k x w = some r := by
  match e, h with
  | some (x, w), h => exact ⟨x, w, rfl, h⟩
theorem gd_e {β : Type} {c : Bool} {a : Option β} {r : β} (h : gd c a = some r) : c = true ∧ a = some r := by
  unfold gd at h
  by_cases q : c = true
  · rw [if_pos q] at h; exact ⟨q, h⟩
  · rw [if_neg q] at h; cases h
theorem and1 {x : Int32} (h : x &&& 1 = x) : x = 0 ∨ x = 1 := by
  have h1 : x.toBitVec.toNat ≤ 1 := by
    have e := congrArg (fun y : Int32 => y.toBitVec.toNat) h
    simp only [Int32.toBitVec_and, BitVec.toNat_and] at e
    rw [← e]
    exact Nat.and_le_right
  have : x.toBitVec.toNat = 0 ∨ x.toBitVec.toNat = 1 := by omega
  rcases this with q | q
  · left
    apply Int32.toBitVec_inj.mp
    exact BitVec.eq_of_toNat_eq q
  · right
    apply Int32.toBitVec_inj.mp
    exact BitVec.eq_of_toNat_eq q
theorem back01 {b : Nat} {a r : Int32} {w w' : Mm} (h : f_X15_comesBack b a w = some (r, w')) : r = 0 ∨ r = 1 := by
  unfold f_X15_comesBack at h
  obtain ⟨r1, w2, _, h⟩ := bd1_e h
  unfold br at h
  by_cases q : r1 = 0
  · rw [if_pos q] at h
    obtain ⟨r10, w11, _, h⟩ := bd1_e h
    obtain ⟨h1, h⟩ := gd_e h
    cases h
    exact and1 (of_decide_eq_true h1)
  · rw [if_neg q] at h
    obtain ⟨r4, w5, _, h⟩ := bd1_e h
    match r4, h with
    | some k6, h =>
      obtain ⟨_, h⟩ := gd_e h
      obtain ⟨r8, w9, _, h⟩ := bd1_e h
      obtain ⟨h1, h⟩ := gd_e h
      cases h
      exact and1 (of_decide_eq_true h1)
set_option maxRecDepth 100000 in
theorem law_L {b N : Nat} {sc : Nat → Int32} (hN : N ≤ 3072) : ∀ (n t : Nat) (w : Mm), n + t = 513 → Iv Pp b t w → f_L_law_L b N sc n (nI (6 * t)) w
  | 0, t, w, e, hI => by
    obtain ⟨_, _, _, _, _, _, ht, _⟩ := hI
    omega
  | n + 1, t, w, e, hI => by
    rw [f_L_law_L]
    refine ⟨fun _ => trivial, fun hlt => ?_⟩
    have h6 : 6 * t + 6 ≤ N := by
      by_cases q : N < 6
      · exfalso
        apply hlt
        rw [Int32.lt_iff_toInt_lt]
        have e1 : (nI (6 * t)).toInt = 6 * t := by
          obtain ⟨_, _, _, _, _, _, ht, _⟩ := hI
          unfold nI
          rw [Int32.toInt_ofNat_of_lt (by omega)]; omega
        have hN6 : N = 0 ∨ N = 1 ∨ N = 2 ∨ N = 3 ∨ N = 4 ∨ N = 5 := by omega
        rw [e1]
        rcases hN6 with rfl | rfl | rfl | rfl | rfl | rfl
        · have : (Int32.ofNat 0 - 6).toInt = -6 := by decide
          omega
        · have : (Int32.ofNat 1 - 6).toInt = -5 := by decide
          omega
        · have : (Int32.ofNat 2 - 6).toInt = -4 := by decide
          omega
        · have : (Int32.ofNat 3 - 6).toInt = -3 := by decide
          omega
        · have : (Int32.ofNat 4 - 6).toInt = -2 := by decide
          omega
        · have : (Int32.ofNat 5 - 6).toInt = -1 := by decide
          omega
      · have e1 : Int32.ofNat N - 6 = nI (N - 6) := by
          rw [show Int32.ofNat N = nI N from rfl, show (6 : Int32) = nI 6 from rfl, nI_sub (by omega)]
        obtain ⟨_, _, _, _, _, _, ht, _⟩ := hI
        rw [e1, nI_ltI (by omega) (by omega)] at hlt
        omega
    have ht : t + 1 ≤ 512 := by omega
    have v0 : vB (nI (6 * t)) N = true := (vB_nI (by omega)).mpr (by omega)
    have v : ∀ j : Nat, j < 6 → vB (nI (6 * t) + nI j) N = true := fun j hj => by rw [nI_add]; exact (vB_nI (by omega)).mpr (by omega)
    have v1 : vB (nI (6 * t) + 1) N = true := v 1 (by omega)
    have v2 : vB (nI (6 * t) + 2) N = true := v 2 (by omega)
    have v3 : vB (nI (6 * t) + 3) N = true := v 3 (by omega)
    have v4 : vB (nI (6 * t) + 4) N = true := v 4 (by omega)
    have v5 : vB (nI (6 * t) + 5) N = true := v 5 (by omega)
    have next : ∀ w', Iv Pp b (t + 1) w' → sqP (nI (6 * t) + 6) (fun x => f_L_law_L b N sc n x w') := fun w' h => by
      show f_L_law_L b N sc n (nI (6 * t) + 6) w'
      rw [show (6 : Int32) = nI 6 from rfl, nI_add, show 6 * t + 6 = 6 * (t + 1) by omega]
      exact law_L hN n (t + 1) w' (by omega) h
    refine ⟨v0, ?_⟩
    refine ⟨fun _ => ?_, fun _ => ?_⟩
    · obtain ⟨r, w1, e1, k⟩ := z_feed hI ht
      refine ⟨v1, v2, v3, v4, v5, r, w1, e1, fun z hz => ?_⟩
      obtain ⟨r2, w2, e2, h1, h2, h3⟩ := k z hz
      exact ⟨v1, v2, v3, v4, v5, r2, w2, e2, lw_tail (P := fun w' => sqP (nI (6 * t) + 6) (fun x => f_L_law_L b N sc n x w')) h1 h2 (next w2 h3)⟩
    refine ⟨fun _ => ?_, fun _ => ?_⟩
    · obtain ⟨r, w1, e1, k⟩ := z_trim hI ht
      refine ⟨v1, r, w1, e1, fun z hz => ?_⟩
      obtain ⟨r2, w2, e2, h1, h2, h3⟩ := k z hz
      exact ⟨v1, r2, w2, e2, lw_tail (P := fun w' => sqP (nI (6 * t) + 6) (fun x => f_L_law_L b N sc n x w')) h1 h2 (next w2 h3)⟩
    refine ⟨fun _ => ?_, fun _ => ?_⟩
    · exact lw_n (P := fun w' => sqP (nI (6 * t) + 6) (fun x => f_L_law_L b N sc n x w')) (z_teach hI ht) next
    refine ⟨fun _ => ?_, fun _ => ?_⟩
    · exact lw_n (P := fun w' => sqP (nI (6 * t) + 6) (fun x => f_L_law_L b N sc n x w')) (z_errorAt stb_Pp hI ht (fun _ _ _ h => h.2.1)) next
    refine ⟨fun _ => ?_, fun _ => ?_⟩
    · exact lw_n (P := fun w' => sqP (nI (6 * t) + 6) (fun x => f_L_law_L b N sc n x w')) (z_hedges stb_Pp hI ht) next
    refine ⟨fun _ => ?_, fun _ => ?_⟩
    · exact lw_n (P := fun w' => sqP (nI (6 * t) + 6) (fun x => f_L_law_L b N sc n x w')) (z_roses stb_Pp hI ht) next
    refine ⟨fun _ => ?_, fun _ => ?_⟩
    · exact lw_n (P := fun w' => sqP (nI (6 * t) + 6) (fun x => f_L_law_L b N sc n x w')) (z_day stb_Pp hI ht) next
    refine ⟨fun _ => ?_, fun _ => ?_⟩
    · exact lw_n (P := fun w' => sqP (nI (6 * t) + 6) (fun x => f_L_law_L b N sc n x w')) (z_ordersCarriedOut stb_Pp hI ht) next
    refine ⟨fun _ => ?_, fun _ => ?_⟩
    · exact lw_n (P := fun w' => sqP (nI (6 * t) + 6) (fun x => f_L_law_L b N sc n x w')) (z_whispers stb_Pp hI ht) next
    refine ⟨fun _ => ?_, fun _ => ?_⟩
    · exact lw_n (P := fun w' => sqP (nI (6 * t) + 6) (fun x => f_L_law_L b N sc n x w')) (z_cycles stb_Pp hI ht) next
    refine ⟨fun _ => ?_, fun _ => ?_⟩
    · exact lw_n (P := fun w' => sqP (nI (6 * t) + 6) (fun x => f_L_law_L b N sc n x w')) (z_departures stb_Pp hI ht) next
    refine ⟨fun _ => ?_, fun _ => ?_⟩
    · obtain ⟨r, w1, e1, k⟩ := z_hushOf stb_Pp hI ht
      refine ⟨v1, r, w1, e1, fun z hz => ?_⟩
      obtain ⟨r2, w2, e2, h1, h2, h3⟩ := k z hz
      exact ⟨v1, r2, w2, e2, lw_tail (P := fun w' => sqP (nI (6 * t) + 6) (fun x => f_L_law_L b N sc n x w')) h1 h2 (next w2 h3)⟩
    refine ⟨fun _ => ?_, fun _ => ?_⟩
    · obtain ⟨r, w1, e1, k⟩ := z_heardBy stb_Pp hI ht
      refine ⟨v1, r, w1, e1, fun z hz => ?_⟩
      obtain ⟨r2, w2, e2, h1, h2, h3⟩ := k z hz
      exact ⟨v1, r2, w2, e2, lw_tail (P := fun w' => sqP (nI (6 * t) + 6) (fun x => f_L_law_L b N sc n x w')) h1 h2 (next w2 h3)⟩
    refine ⟨fun _ => ?_, fun _ => ?_⟩
    · obtain ⟨r, w1, e1, k⟩ := z_latestOf stb_Pp hI ht
      refine ⟨v1, r, w1, e1, fun z hz => ?_⟩
      obtain ⟨r2, w2, e2, h1, h2, h3⟩ := k z hz
      exact ⟨v1, r2, w2, e2, lw_tail (P := fun w' => sqP (nI (6 * t) + 6) (fun x => f_L_law_L b N sc n x w')) h1 h2 (next w2 h3)⟩
    refine ⟨fun _ => ?_, fun _ => ?_⟩
    · obtain ⟨r, w1, e1, k⟩ := z_listenersOf stb_Pp hI ht
      refine ⟨v1, r, w1, e1, fun z hz => ?_⟩
      obtain ⟨r2, w2, e2, h1, h2, h3⟩ := k z hz
      exact ⟨v1, r2, w2, e2, lw_tail (P := fun w' => sqP (nI (6 * t) + 6) (fun x => f_L_law_L b N sc n x w')) h1 h2 (next w2 h3)⟩
    refine ⟨fun _ => ?_, fun _ => ?_⟩
    · obtain ⟨r, w1, e1, k⟩ := z_hedgeInRow stb_Pp hI ht
      refine ⟨v1, v2, r, w1, e1, fun z hz => ?_⟩
      obtain ⟨r2, w2, e2, h1, h2, h3⟩ := k z hz
      exact ⟨v1, v2, r2, w2, e2, lw_tail (P := fun w' => sqP (nI (6 * t) + 6) (fun x => f_L_law_L b N sc n x w')) h1 h2 (next w2 h3)⟩
    refine ⟨fun _ => ?_, fun _ => ?_⟩
    · obtain ⟨r, w1, e1, k⟩ := z_roseInRow stb_Pp hI ht
      refine ⟨v1, v2, r, w1, e1, fun z hz => ?_⟩
      obtain ⟨r2, w2, e2, h1, h2, h3⟩ := k z hz
      exact ⟨v1, v2, r2, w2, e2, lw_tail (P := fun w' => sqP (nI (6 * t) + 6) (fun x => f_L_law_L b N sc n x w')) h1 h2 (next w2 h3)⟩
    refine ⟨fun _ => ?_, fun _ => ?_⟩
    · obtain ⟨r, w1, e1, k⟩ := z_patienceOf stb_Pp hI ht
      refine ⟨v1, r, w1, e1, fun z hz => ?_⟩
      obtain ⟨r2, w2, e2, h1, h2, h3⟩ := k z hz
      exact ⟨v1, r2, w2, e2, lw_tail (P := fun w' => sqP (nI (6 * t) + 6) (fun x => f_L_law_L b N sc n x w')) h1 h2 (next w2 h3)⟩
    refine ⟨fun _ => ?_, fun _ => ?_⟩
    · obtain ⟨r, w1, e1, k⟩ := z_petalsOf stb_Pp hI ht
      refine ⟨v1, r, w1, e1, fun z hz => ?_⟩
      obtain ⟨r2, w2, e2, h1, h2, h3⟩ := k z hz
      exact ⟨v1, r2, w2, e2, lw_tail (P := fun w' => sqP (nI (6 * t) + 6) (fun x => f_L_law_L b N sc n x w')) h1 h2 (next w2 h3)⟩
    refine ⟨fun _ => ?_, fun _ => ?_⟩
    · obtain ⟨r, w1, e1, k⟩ := z_countOf stb_Pp hI ht
      refine ⟨v1, r, w1, e1, fun z hz => ?_⟩
      obtain ⟨r2, w2, e2, h1, h2, h3⟩ := k z hz
      exact ⟨v1, r2, w2, e2, lw_tail (P := fun w' => sqP (nI (6 * t) + 6) (fun x => f_L_law_L b N sc n x w')) h1 h2 (next w2 h3)⟩
    refine ⟨fun _ => ?_, fun _ => ?_⟩
    · obtain ⟨r, w1, e1, k⟩ := z_hedgesOf stb_Pp hI ht
      refine ⟨v1, r, w1, e1, fun z hz => ?_⟩
      obtain ⟨r2, w2, e2, h1, h2, h3⟩ := k z hz
      exact ⟨v1, r2, w2, e2, lw_tail (P := fun w' => sqP (nI (6 * t) + 6) (fun x => f_L_law_L b N sc n x w')) h1 h2 (next w2 h3)⟩
    refine ⟨fun _ => ?_, fun _ => ?_⟩
    · exact lw_n (P := fun w' => sqP (nI (6 * t) + 6) (fun x => f_L_law_L b N sc n x w')) (z_fullest stb_Pp hI ht) next
    refine ⟨fun _ => ?_, fun _ => ?_⟩
    · obtain ⟨r, w1, e1, k⟩ := z_hedgeListens stb_Pp hI ht
      refine ⟨v1, v2, r, w1, e1, fun z hz => ?_⟩
      obtain ⟨r2, w2, e2, h1, h2, h3⟩ := k z hz
      exact ⟨v1, v2, r2, w2, e2, lw_tail (P := fun w' => sqP (nI (6 * t) + 6) (fun x => f_L_law_L b N sc n x w')) h1 h2 (next w2 h3)⟩
    refine ⟨fun _ => ?_, fun _ => ?_⟩
    · obtain ⟨r, w1, e1, k⟩ := z_roseListens stb_Pp hI ht
      refine ⟨v1, v2, r, w1, e1, fun z hz => ?_⟩
      obtain ⟨r2, w2, e2, h1, h2, h3⟩ := k z hz
      exact ⟨v1, v2, r2, w2, e2, lw_tail (P := fun w' => sqP (nI (6 * t) + 6) (fun x => f_L_law_L b N sc n x w')) h1 h2 (next w2 h3)⟩
    refine ⟨fun _ => ?_, fun _ => ?_⟩
    · obtain ⟨r, w1, e1, k⟩ := z_hedgeLeaves stb_Pp hI ht
      refine ⟨v1, v2, r, w1, e1, fun z hz => ?_⟩
      obtain ⟨r2, w2, e2, h1, h2, h3⟩ := k z hz
      exact ⟨v1, v2, r2, w2, e2, lw_tail (P := fun w' => sqP (nI (6 * t) + 6) (fun x => f_L_law_L b N sc n x w')) h1 h2 (next w2 h3)⟩
    refine ⟨fun _ => ?_, fun _ => ?_⟩
    · obtain ⟨r, w1, e1, k⟩ := z_roseLeaves stb_Pp hI ht
      refine ⟨v1, v2, r, w1, e1, fun z hz => ?_⟩
      obtain ⟨r2, w2, e2, h1, h2, h3⟩ := k z hz
      exact ⟨v1, v2, r2, w2, e2, lw_tail (P := fun w' => sqP (nI (6 * t) + 6) (fun x => f_L_law_L b N sc n x w')) h1 h2 (next w2 h3)⟩
    refine ⟨fun _ => ?_, fun _ => ?_⟩
    · obtain ⟨r, w1, e1, k⟩ := z_tell stb_Pp hI ht
      refine ⟨v1, v2, r, w1, e1, fun z hz => ?_⟩
      obtain ⟨r2, w2, e2, h1, h2, h3⟩ := k z hz
      exact ⟨v1, v2, r2, w2, e2, lw_tail (P := fun w' => sqP (nI (6 * t) + 6) (fun x => f_L_law_L b N sc n x w')) h1 h2 (next w2 h3)⟩
    refine ⟨fun _ => ?_, fun _ => ?_⟩
    · obtain ⟨r, w1, e1, k⟩ := z_passDays stb_Pp (fun _ _ _ h => h.1) hI ht
      refine ⟨v1, r, w1, e1, fun z hz => ?_⟩
      obtain ⟨r2, w2, e2, h1, h2, h3⟩ := k z hz
      exact ⟨v1, r2, w2, e2, lw_tail (P := fun w' => sqP (nI (6 * t) + 6) (fun x => f_L_law_L b N sc n x w')) h1 h2 (next w2 h3)⟩
    refine ⟨fun _ => ?_, fun _ => ?_⟩
    · obtain ⟨r, w1, e1, k⟩ := z_reach stb_Pp hI ht
      refine ⟨v1, v2, r, w1, e1, fun z hz => ?_⟩
      obtain ⟨r2, w2, e2, h1, h2, h3⟩ := k z hz
      exact ⟨v1, v2, r2, w2, e2, lw_tail (P := fun w' => sqP (nI (6 * t) + 6) (fun x => f_L_law_L b N sc n x w')) h1 h2 (next w2 h3)⟩
    refine ⟨fun _ => ?_, fun _ => ?_⟩
    · obtain ⟨r, w1, e1, k⟩ := z_loudnessAt stb_Pp hI ht
      refine ⟨v1, v2, r, w1, e1, fun z hz => ?_⟩
      obtain ⟨r2, w2, e2, h1, h2, h3⟩ := k z hz
      exact ⟨v1, v2, r2, w2, e2, lw_tail (P := fun w' => sqP (nI (6 * t) + 6) (fun x => f_L_law_L b N sc n x w')) h1 h2 (next w2 h3)⟩
    refine ⟨fun _ => ?_, fun _ => ?_⟩
    · obtain ⟨r, w1, e1, k⟩ := z_comesBack stb_Pp hI ht
      refine ⟨v1, r, w1, e1, fun z hz => ?_⟩
      obtain ⟨r2, w2, e2, h1, h2, h3⟩ := k z hz
      exact ⟨v1, r2, w2, e2, lw_back (P := fun w' => sqP (nI (6 * t) + 6) (fun x => f_L_law_L b N sc n x w')) h1 h2 (back01 e2) (next w2 h3)⟩
    refine ⟨fun _ => ?_, fun _ => ?_⟩
    · obtain ⟨r, w1, e1, k⟩ := z_petalsAfter stb_Pp (fun _ _ _ h => h.1) hI ht
      refine ⟨v1, v2, r, w1, e1, fun z hz => ?_⟩
      obtain ⟨r2, w2, e2, h1, h2, h3⟩ := k z hz
      exact ⟨v1, v2, r2, w2, e2, lw_tail (P := fun w' => sqP (nI (6 * t) + 6) (fun x => f_L_law_L b N sc n x w')) h1 h2 (next w2 h3)⟩
    refine ⟨fun _ => ?_, fun _ => ?_⟩
    · obtain ⟨r, w1, e1, k⟩ := z_daysUntilLeft stb_Pp (fun _ _ _ h => h.1) hI ht
      refine ⟨v1, r, w1, e1, fun z hz => ?_⟩
      obtain ⟨r2, w2, e2, h1, h2, h3⟩ := k z hz
      exact ⟨v1, r2, w2, e2, lw_tail (P := fun w' => sqP (nI (6 * t) + 6) (fun x => f_L_law_L b N sc n x w')) h1 h2 (next w2 h3)⟩
    refine ⟨fun _ => ?_, fun _ => ?_⟩
    · obtain ⟨r, w1, e1, k⟩ := z_bestToTell stb_Pp hI ht
      refine ⟨v1, r, w1, e1, fun z hz => ?_⟩
      obtain ⟨r2, w2, e2, h1, h2, h3⟩ := k z hz
      exact ⟨v1, r2, w2, e2, lw_tail (P := fun w' => sqP (nI (6 * t) + 6) (fun x => f_L_law_L b N sc n x w')) h1 h2 (next w2 h3)⟩
    refine ⟨fun _ => ?_, fun _ => ?_⟩
    · obtain ⟨r, w1, w2, e1, e2, h⟩ := z_meanPetals stb_Pp hI ht
      exact ⟨r, w1, e1, r, w2, e2, fun _ => next _ h, fun c => ⟨c, fun _ => ⟨c, fun _ => next _ h⟩⟩⟩
    refine ⟨fun _ => ?_, fun _ => ?_⟩
    · obtain ⟨r, w1, w2, e1, e2, h⟩ := z_digest stb_Pp hI ht
      exact ⟨r, w1, e1, r, w2, e2, fun _ => next _ h, fun c => c (lg_cmp_0.mpr rfl)⟩
    obtain ⟨H, R, S, g1, g2, g3, g4, g5, g6⟩ := hI
    exact next w ⟨H, R, S, g1, g2, ok_mono g3 (by omega), ht, g5, g6⟩
