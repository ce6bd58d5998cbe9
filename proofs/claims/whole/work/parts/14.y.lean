-- THE PURE PART: linking
/-- what a token means to the class -/
def m8w (N : Nat) (w : Mm) (a : Nat) : Int32 := if a < N then gI w 8 0 a else 0
section LINK
variable {T : List Nat} {tk st ln : Nat → Nat} {N z : Nat}
theorem c_mng {v : Int32} {w : Mm} (h4 : gI w 4 0 4 = nI (N - 1)) (hN : 1 ≤ N ∧ N ≤ 401) : f_X11_meaning v w = some (lkv (m8w N w) v, w) := by
  unfold lkv f_X11_meaning
  by_cases q : v < 0
  · rw [if_pos q]
    refine bd1T (x := 0) (w := w) ?_ (brT rfl rfl)
    unfold f_X11_has
    exact brT q rfl
  · rw [if_neg q]
    have hv : v.toNatClampNeg < 2 ^ 31 ∧ v = nI v.toNatClampNeg := by
      have q' : ¬ v.toInt < 0 := fun h => q (Int32.lt_iff_toInt_lt.mpr (by simpa using h))
      have hu := Int32.toInt_lt v
      have e : v.toNatClampNeg = v.toInt.toNat := rfl
      refine ⟨by omega, ?_⟩
      apply Int32.toInt_inj.mp
      unfold nI
      rw [Int32.toInt_ofNat_of_lt (by omega), e]
      omega
    obtain ⟨hv1, hv2⟩ := hv
    generalize v.toNatClampNeg = a at hv1 hv2
    subst hv2
    unfold m8w
    by_cases qa : a < N
    · rw [if_pos qa]
      exact bd1T (c_has h4 hN.2 qa) (brF (by decide) (gdT ((vB_nI (by omega)).mpr (by omega)) rfl))
    · rw [if_neg qa]
      refine bd1T (x := 0) (w := w) ?_ (brT rfl rfl)
      unfold f_X11_has
      rw [h4]
      exact brF (nI_pos (by omega)) (brT (by rw [nI_ltI (by omega) (by omega)]; omega) rfl)
/-- the class's linking touches the steps' arguments alone -/
def FL (z : Nat) (w w' : Mm) : Prop := (∀ c k i, ¬ ((c = 29 ∨ c = 30) ∧ k = z) → gI w' c k i = gI w c k i) ∧ w'.2 = w.2
theorem c_linkL {os : List Ps} {w0 : Mm} (hN : 1 ≤ N ∧ N ≤ 401) (h4 : gI w0 4 0 4 = nI (N - 1)) (h7 : gI w0 25 z 7 = nI os.length) (hM : os.length ≤ 400) : ∀ (d u f : Nat) (w : Mm), u + d = os.length → d < f → FL z w0 w → CSEG z 0 ((os.take u).map (lnk (m8w N w0)) ++ os.drop u) w → ∃ w', f_X8_link_L2 z f (nI u) w = some w' ∧ FL z w0 w' ∧ CSEG z 0 (os.map (lnk (m8w N w0))) w'
  | 0, u, f + 1, w, e, hf, hF, hC => by
    have e : u = os.length := by omega
    subst e
    rw [List.take_length, List.drop_length, List.append_nil] at hC
    refine ⟨w, ?_, hF, hC⟩
    rw [f_X8_link_L2, hF.1 _ _ _ (by omega), h7]
    exact brT (by rw [nI_leI (by omega) (by omega)]; omega) rfl
  | d + 1, u, f + 1, w, e, hf, hF, hC => by
    have hlt : u < os.length := by omega
    obtain ⟨⟨k, a, b⟩, hs⟩ : ∃ s, os[u]? = some s := ⟨_, List.getElem?_eq_getElem hlt⟩
    have hlen : ((os.take u).map (lnk (m8w N w0))).length = u := by rw [List.length_map, List.length_take]; omega
    have hcell := hC u k a b (by rw [List.getElem?_append_right (by omega), hlen, Nat.sub_self, List.getElem?_drop]; exact hs)
    rw [Nat.zero_add] at hcell
    obtain ⟨c1, c2, c3⟩ := hcell
    have em : ∀ w1, FL z w0 w1 → m8w N w1 = m8w N w0 := fun w1 hF1 => by
      funext x
      unfold m8w
      rw [hF1.1 _ _ _ (by omega)]
    have h4w : ∀ w1, FL z w0 w1 → gI w1 4 0 4 = nI (N - 1) := fun w1 hF1 => by rw [hF1.1 _ _ _ (by omega)]; exact h4
    have hF1 : FL z w0 (pI w 29 z u (lkv (m8w N w0) a)) := ⟨fun c k i q => by rw [gI_pI, if_neg (by omega)]; exact hF.1 c k i q, hF.2⟩
    have hF2 : FL z w0 (pI (pI w 29 z u (lkv (m8w N w0) a)) 30 z u (lkv (m8w N w0) b)) := ⟨fun c k i q => by rw [gI_pI, if_neg (by omega), gI_pI, if_neg (by omega)]; exact hF.1 c k i q, hF.2⟩
    have hC2 : CSEG z 0 ((os.take (u + 1)).map (lnk (m8w N w0)) ++ os.drop (u + 1)) (pI (pI w 29 z u (lkv (m8w N w0) a)) 30 z u (lkv (m8w N w0) b)) := fun j k' a' b' e' => by
      rw [Nat.zero_add]
      have hlen2 : ((os.take (u + 1)).map (lnk (m8w N w0))).length = u + 1 := by rw [List.length_map, List.length_take]; omega
      by_cases qj : j = u
      · subst qj
        rw [List.getElem?_append_left (by omega), List.getElem?_map, List.getElem?_take, if_pos (by omega), hs] at e'
        cases e'
        refine ⟨c1, ?_, ?_⟩
        · rw [gI_pI, if_neg (by omega), gI_pI, if_pos ⟨rfl, rfl, rfl⟩]
        · rw [gI_pI, if_pos ⟨rfl, rfl, rfl⟩]
      · have old : ((os.take u).map (lnk (m8w N w0)) ++ os.drop u)[j]? = some (k', a', b') := by
          by_cases qlt : j < u
          · rw [List.getElem?_append_left (by omega), List.getElem?_map, List.getElem?_take, if_pos (by omega)] at e' ⊢
            exact e'
          · rw [List.getElem?_append_right (by omega), List.getElem?_drop, hlen2] at e'
            rw [List.getElem?_append_right (by omega), List.getElem?_drop, hlen]
            rw [show u + (j - u) = u + 1 + (j - (u + 1)) by omega]; exact e'
        obtain ⟨g1, g2, g3⟩ := hC j k' a' b' old
        rw [Nat.zero_add] at g1 g2 g3
        refine ⟨g1, ?_, ?_⟩
        · rw [gI_pI, if_neg (by omega), gI_pI, if_neg (by omega)]; exact g2
        · rw [gI_pI, if_neg (by omega), gI_pI, if_neg (by omega)]; exact g3
    obtain ⟨w', k1, k2, k3⟩ := c_linkL (w0 := w0) hN h4 h7 hM d (u + 1) f _ (by omega) (by omega) hF2 hC2
    refine ⟨w', ?_, k2, k3⟩
    have hv : vB (nI u) 400 = true := (vB_nI (by omega)).mpr (by omega)
    have m1 := c_mng (N := N) (v := a) (h4w w hF) hN
    rw [em w hF] at m1
    have m2 := c_mng (N := N) (v := b) (h4w _ hF1) hN
    rw [em _ hF1] at m2
    rw [f_X8_link_L2, hF.1 _ _ _ (by omega), h7]
    refine brF (by rw [nI_leI (by omega) (by omega)]; omega) (brF (by rw [show (400 : Int32) = nI 400 from rfl, nI_leI (by omega) (by omega)]; omega) (gdT hv ?_))
    rw [nI_clamp (by omega), c2]
    refine bd1T m1 (gdT hv (sqT (gdT hv ?_)))
    rw [gI_pI, if_neg (by omega), c3]
    refine bd1T m2 (gdT hv (sqT ?_))
    rw [nI_1]
    exact k1
theorem c_link {os : List Ps} {w : Mm} (hN : 1 ≤ N ∧ N ≤ 401) (h4 : gI w 4 0 4 = nI (N - 1)) (h7 : gI w 25 z 7 = nI os.length) (hM : os.length ≤ 400) (hC : CSEG z 0 os w) : ∃ w', f_X8_link z w = some w' ∧ FL z w w' ∧ CSEG z 0 (os.map (lnk (m8w N w))) w' := by
  obtain ⟨w', h1, h2, h3⟩ := c_linkL (w0 := w) hN h4 h7 hM os.length 0 LF w (by omega) (by unfold LF; omega) ⟨fun _ _ _ _ => rfl, rfl⟩ (by simpa using hC)
  refine ⟨w', ?_, h2, h3⟩
  unfold f_X8_link
  exact bd0T h1 rfl
end LINK
/-- the names in a step are tokens -/
def ARs (N : Nat) (s : Ps) : Prop := (s.1 = 20 ∨ s.1 = 21 ∨ s.1 = 22 → ∃ a, a < N ∧ s.2.1 = nI a) ∧ (s.1 = 24 → ∃ a b, a < N ∧ b < N ∧ s.2.1 = nI a ∧ s.2.2 = nI b)
theorem ar_sp {N k : Nat} (h : k ≤ 19 ∨ 25 ≤ k) : ARs N (sp k) := by
  refine ⟨fun q => ?_, fun q => ?_⟩
  · have q : k = 20 ∨ k = 21 ∨ k = 22 := q
    omega
  · have q : k = 24 := q
    omega
theorem ar_all {tk : Nat → Nat} {N : Nat} : GRc tk (fun _ w a a' o => a ≤ a' ∧ (a' ≤ N → w ≤ 19 ∨ 25 ≤ w → ∀ s ∈ o, ARs N s)) := by
  have ap : ∀ {l l' : List Ps}, (∀ s ∈ l, ARs N s) → (∀ s ∈ l', ARs N s) → ∀ s ∈ l ++ l', ARs N s := fun h h' s hs => by
    rcases List.mem_append.mp hs with q | q
    · exact h s q
    · exact h' s q
  have one : ∀ {k : Nat}, (k ≤ 19 ∨ 25 ≤ k) → ∀ s ∈ [sp k], ARs N s := fun h s hs => by
    rw [List.mem_singleton] at hs
    subst hs; exact ar_sp h
  refine ⟨?_, ?_, ?_, ?_, ?_, ?_, ?_, ?_, ?_, ?_, ?_, ?_, ?_, ?_, ?_, ?_, ?_⟩
  · intro w a a1 a2 o1 o2 ⟨h1, h1'⟩ ⟨h2, h2'⟩
    exact ⟨by omega, fun q r => ap (h1' (by omega) (by omega)) (h2' q (by omega))⟩
  · intro w a a1 a2 o1 o2 _ ⟨h1, h1'⟩ ⟨h2, h2'⟩
    exact ⟨by omega, fun q r => ap (ap (h1' (by omega) (by omega)) (one (by omega))) (h2' q r)⟩
  · intro w a a1 a2 o1 o2 _ ⟨h1, h1'⟩ ⟨h2, h2'⟩
    refine ⟨by omega, fun q r => ap (ap ?_ (h1' (by omega) (by omega))) (h2' q (by omega))⟩
    split
    · exact one (by omega)
    · intro s hs; cases hs
  · intro w a
    refine ⟨Nat.le_refl _, fun q r => ?_⟩
    split
    · exact one (by omega)
    · intro s hs; cases hs
  · intro w a a1 o _ ⟨h1, h1'⟩
    exact ⟨by omega, fun q r => ap (h1' q (by omega)) (one (by omega))⟩
  · intro w a a1 o _ ⟨h1, h1'⟩ _
    exact ⟨by omega, fun q r => h1' (by omega) (by omega)⟩
  · intro w a _ _ _ _
    refine ⟨by omega, fun q r s hs => ?_⟩
    rw [List.mem_singleton] at hs
    subst hs
    exact ⟨fun q => by have q : (24 = 20 ∨ 24 = 21 ∨ 24 = 22) := q; omega, fun _ => ⟨a + 1, a + 3, by omega, by omega, rfl, rfl⟩⟩
  · intro w a a1 a2 o1 o2 ⟨h1, h1'⟩ q40 ⟨h2, h2'⟩
    exact ⟨by omega, fun q r => ap (ap (h1' (by omega) (by omega)) (h2' q (by omega))) (one (by omega))⟩
  · intro w a a1 a2 o1 o2 ⟨h1, h1'⟩ ⟨h2, h2'⟩
    exact ⟨by omega, fun q r => ap (h1' (by omega) (by omega)) (h2' q (by omega))⟩
  · intro w a a1 a2 o1 o2 qk ⟨h1, h1'⟩ ⟨h2, h2'⟩
    exact ⟨by omega, fun q r => ap (ap (h1' (by omega) (by omega)) (one (by omega))) (h2' q r)⟩
  · intro w a a1 a2 o1 o2 qk ⟨h1, h1'⟩ ⟨h2, h2'⟩
    refine ⟨by omega, fun q r => ap (ap ?_ (h1' (by omega) (by omega))) (h2' q (by omega))⟩
    split
    · intro s hs; cases hs
    · exact one r
  · intro w a
    refine ⟨Nat.le_refl _, fun q r => ?_⟩
    split
    · intro s hs; cases hs
    · exact one r
  · intro w a qk
    refine ⟨by omega, fun q r s hs => ?_⟩
    rw [List.mem_singleton] at hs
    subst hs
    exact ⟨fun q => by have q : (tk a = 20 ∨ tk a = 21 ∨ tk a = 22) := q; omega, fun q => by have q : tk a = 24 := q; omega⟩
  · intro w a qk _ _
    refine ⟨by omega, fun q r s hs => ?_⟩
    rw [List.mem_singleton] at hs
    subst hs
    exact ⟨fun _ => ⟨a + 2, by omega, rfl⟩, fun q => by have q : tk a = 24 := q; omega⟩
  · intro w a a1 o _ ⟨h1, h1'⟩
    exact ⟨by omega, fun q r => ap (h1' q (by omega)) (one (by omega))⟩
  · intro w a a1 o _ ⟨h1, h1'⟩ _
    exact ⟨by omega, fun q r => h1' (by omega) (by omega)⟩
  · intro w a a1 a2 o1 o2 qk _ ⟨h1, h1'⟩ _ ⟨h2, h2'⟩ _
    exact ⟨by omega, fun q r => ap (ap (h1' (by omega) (by omega)) (h2' (by omega) (by omega))) (one (by omega))⟩
