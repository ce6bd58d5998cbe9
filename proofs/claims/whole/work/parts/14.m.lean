-- THE PURE PART: what was read, after linking: sums and tests
theorem ex_c {H R : Nat} : EXc H R (EX H R) :=
  ⟨fun v b Q h => h.1 v b, fun a b Q h => h.2.1 a b, fun a b Q h => h.2.2.1 a b, fun a b Q h => h.2.2.2.1 a b, fun x b hx Q h => h.2.2.2.2.1 x b hx, fun x b hx Q h => h.2.2.2.2.2.1 x b hx, fun x b hx Q h => h.2.2.2.2.2.2.1 x b hx, fun c m f a b e Q h => h.2.2.2.2.2.2.2.1 c m f a b (e Q h), fun op c m f c' m' f' a b ho e e' Q h => h.2.2.2.2.2.2.2.2 op c m f c' m' f' a b ho (e Q h) (e' Q h)⟩
theorem tx_c {H R : Nat} : TXc H R (TX H R) :=
  ⟨fun x y h1 h2 Q h => h.1 x y h1 h2, fun c m f a b e Q h => h.2.1 c m f a b (e Q h), fun c m f c' m' f' a b e e' Q h => h.2.2.1 c m f c' m' f' a b (e Q h) (e' Q h), fun c m f c' m' f' a b e e' Q h => h.2.2.2.1 c m f c' m' f' a b (e Q h) (e' Q h), fun op c m f c' m' f' a b ho e e' Q h => h.2.2.2.2 op c m f c' m' f' a b ho e e'⟩
/-- a step after linking -/
def lkv (m8 : Nat → Int32) (x : Int32) : Int32 := if x < 0 then 0 else m8 x.toNatClampNeg
def lnk (m8 : Nat → Int32) (s : Ps) : Ps := (s.1, lkv m8 s.2.1, lkv m8 s.2.2)
def mcl (nv m38 : Nat → Int32) (s : Ps) : List Int32 := if s.1 = 4 then [32, nv s.2.1.toNatClampNeg] else if s.1 = 17 ∨ s.1 = 18 ∨ s.1 = 19 ∨ s.1 = 25 ∨ s.1 = 26 ∨ s.1 = 27 then [mk s.1] else if s.1 = 20 ∨ s.1 = 21 ∨ s.1 = 22 then [mk s.1, m38 s.2.1.toNatClampNeg] else if s.1 = 24 then [17, m38 s.2.1.toNatClampNeg, m38 s.2.2.toNatClampNeg] else if s.1 = 5 then [33] else [mop s.1]
def mcls (nv m38 : Nat → Int32) (o : List Ps) : List Int32 := o.flatMap (mcl nv m38)
theorem mcls_app {nv m38 : Nat → Int32} {o o' : List Ps} : mcls nv m38 (o ++ o') = mcls nv m38 o ++ mcls nv m38 o' := by unfold mcls; rw [List.flatMap_append]
theorem lnk_sp {m8 : Nat → Int32} {k : Nat} : lnk m8 (sp k) = (k, 0, 0) := by
  show (k, lkv m8 (-1), lkv m8 (-1)) = _
  unfold lkv
  rw [if_pos (by decide)]
theorem lkv_nI {m8 : Nat → Int32} {a : Nat} (h : a < 2 ^ 31) : lkv m8 (nI a) = m8 a := by
  unfold lkv
  rw [if_neg (nI_pos h), nI_clamp h]
theorem mcl_sq {nv m38 : Nat → Int32} {k : Nat} (h : k = 28 ∨ k = 29 ∨ (36 ≤ k ∧ k ≤ 44)) : mcl nv m38 (sp k) = [mop k] := by
  show mcl nv m38 (k, -1, -1) = _
  unfold mcl
  simp only
  rw [if_neg (by omega), if_neg (by omega), if_neg (by omega), if_neg (by omega), if_neg (by omega)]
/-- the meanings of a name's token are what its role asks -/
def MVd (H R : Nat) (tk : Nat → Nat) (m8 m38 : Nat → Int32) (j : Nat) : Prop := (rol tk j = 5 ∨ rol tk j = 7 → ∃ h, h < H ∧ m8 j = nI h ∧ m38 j = nI h) ∧ (rol tk j = 8 → ∃ r, r < R ∧ m8 j = nI (8 + r) ∧ m38 j = nI r) ∧ (rol tk j = 4 ∨ rol tk j = 6 → ∃ x, (x < H ∨ (8 ≤ x ∧ x < 8 + R)) ∧ m8 j = nI x ∧ m38 j = nI x)
def VP (H R : Nat) (nv m8 m38 : Nat → Int32) (v w : Nat) (o : List Ps) : Prop :=
  if v = 2 ∨ v = 3 then ∃ f, EX H R (o.map (lnk m8)) (mcls nv m38 o) f
  else if v = 0 ∨ v = 1 then ∃ f, TX H R (o.map (lnk m8)) (mcls nv m38 o) f
  else if v = 4 then (if w = 1 then ∀ c m f c' m' f', TX H R c m f → TX H R c' m' f' → ∃ f2, TX H R (c ++ c' ++ o.map (lnk m8)) (m ++ m' ++ mcls nv m38 o) f2 else ∀ c m f, TX H R c m f → ∃ f2, TX H R (c ++ o.map (lnk m8)) (m ++ mcls nv m38 o) f2)
  else (if w = 1 then ∀ c m f, EX H R c m f → ∃ f2, EX H R (c ++ o.map (lnk m8)) (m ++ mcls nv m38 o) f2 else (w = 36 ∨ w = 37) → ∀ c m f c' m' f', EX H R c m f → EX H R c' m' f' → ∃ f2, EX H R (c ++ c' ++ o.map (lnk m8)) (m ++ m' ++ mcls nv m38 o) f2)
def VQ (H R : Nat) (tk : Nat → Nat) (nv m8 m38 : Nat → Int32) (v w a a' : Nat) (o : List Ps) : Prop := a ≤ a' ∧ (a' ≤ 401 → (∀ j, a ≤ j → j < a' → tk j = 3 → MVd H R tk m8 m38 j) → (∀ j, a ≤ j → j < a' → tk j = 4 → m8 j = nv j) → VP H R nv m8 m38 v w o)
section VPS
variable {H R : Nat} {tk : Nat → Nat} {nv m8 m38 : Nat → Int32}
theorem vq_2 {v w v1 w1 v2 w2 a b a1 b1 a2 : Nat} {o o1 o2 : List Ps} (h1 : VQ H R tk nv m8 m38 v1 w1 b a1 o1) (h2 : VQ H R tk nv m8 m38 v2 w2 b1 a2 o2) (hb : a ≤ b) (hb1 : a1 ≤ b1) (e : VP H R nv m8 m38 v1 w1 o1 → VP H R nv m8 m38 v2 w2 o2 → VP H R nv m8 m38 v w o) {a' : Nat} (ha' : a2 ≤ a') : VQ H R tk nv m8 m38 v w a a' o := by
  obtain ⟨g1, k1⟩ := h1
  obtain ⟨g2, k2⟩ := h2
  exact ⟨by omega, fun h hm hn => e (k1 (by omega) (fun j q1 q2 => hm j (by omega) (by omega)) fun j q1 q2 => hn j (by omega) (by omega)) (k2 (by omega) (fun j q1 q2 => hm j (by omega) (by omega)) fun j q1 q2 => hn j (by omega) (by omega))⟩
theorem vq_1 {v w v1 w1 a b a1 : Nat} {o o1 : List Ps} (h1 : VQ H R tk nv m8 m38 v1 w1 b a1 o1) (hb : a ≤ b) (e : VP H R nv m8 m38 v1 w1 o1 → VP H R nv m8 m38 v w o) {a' : Nat} (ha' : a1 ≤ a') : VQ H R tk nv m8 m38 v w a a' o := by
  obtain ⟨g1, k1⟩ := h1
  exact ⟨by omega, fun h hm hn => e (k1 (by omega) (fun j q1 q2 => hm j (by omega) (by omega)) fun j q1 q2 => hn j (by omega) (by omega))⟩
theorem mcls_26 : mcls nv m38 [sp 26] = [19] := rfl
theorem mcls_27 : mcls nv m38 [sp 27] = [20] := rfl
theorem mcls_nil : mcls nv m38 [] = [] := rfl
theorem vq_all : GRc tk (VQ H R tk nv m8 m38) := by
  refine ⟨?_, ?_, ?_, ?_, ?_, ?_, ?_, ?_, ?_, ?_, ?_, ?_, ?_, ?_, ?_, ?_, ?_⟩
  · intro w a a1 a2 o1 o2 h1 h2
    refine vq_2 h1 h2 (Nat.le_refl _) (Nat.le_refl _) (fun g1 g2 => ?_) (Nat.le_refl _)
    obtain ⟨f, g1⟩ := g1
    show ∃ f, TX H R ((o1 ++ o2).map (lnk m8)) (mcls nv m38 (o1 ++ o2)) f
    rw [List.map_append, mcls_app]
    exact g2 _ _ _ g1
  · intro w a a1 a2 o1 o2 _ h1 h2
    refine vq_2 h1 h2 (Nat.le_succ _) (Nat.le_refl _) (fun g1 g2 => ?_) (Nat.le_refl _)
    obtain ⟨f1, g1⟩ := g1
    unfold VP at g2 ⊢
    rw [if_neg (by decide), if_neg (by decide), if_pos rfl] at g2 ⊢
    rw [List.map_append, List.map_append, mcls_app, mcls_app]
    by_cases q : w = 1
    · rw [if_pos q] at g2 ⊢
      intro c m f c' m' f' e e'
      obtain ⟨f2, g3⟩ := g2 _ _ _ _ _ _ e (tx_c.2.2.1 _ _ _ _ _ _ 0 0 e' g1)
      exact ⟨f2, by simpa [List.append_assoc, lnk_sp, mcls_26, mcls_27, mcls_nil] using g3⟩
    · rw [if_neg q] at g2 ⊢
      intro c m f e
      obtain ⟨f2, g3⟩ := g2 _ _ _ (tx_c.2.2.1 _ _ _ _ _ _ 0 0 e g1)
      exact ⟨f2, by simpa [List.append_assoc, lnk_sp, mcls_26, mcls_27, mcls_nil] using g3⟩
  · intro w a a1 a2 o1 o2 _ h1 h2
    refine vq_2 h1 h2 (Nat.le_succ _) (Nat.le_refl _) (fun g1 g2 => ?_) (Nat.le_refl _)
    obtain ⟨f1, g1⟩ := g1
    unfold VP at g2 ⊢
    rw [if_neg (by decide), if_neg (by decide), if_pos rfl] at g2 ⊢
    rw [if_pos rfl] at g2
    rw [List.map_append, List.map_append, mcls_app, mcls_app]
    by_cases q : w = 1
    · rw [if_pos q, if_pos q]
      intro c m f c' m' f' e e'
      obtain ⟨f2, g3⟩ := g2 _ _ _ _ _ _ (tx_c.2.2.2.1 _ _ _ _ _ _ 0 0 e e') g1
      exact ⟨f2, by simpa [List.append_assoc, lnk_sp, mcls_26, mcls_27, mcls_nil] using g3⟩
    · rw [if_neg q, if_neg q]
      intro c m f e
      obtain ⟨f2, g3⟩ := g2 _ _ _ _ _ _ e g1
      exact ⟨f2, by simpa [List.append_assoc, lnk_sp, mcls_26, mcls_27, mcls_nil] using g3⟩
  · intro w a
    refine ⟨Nat.le_refl _, fun _ _ _ => ?_⟩
    unfold VP
    rw [if_neg (by decide), if_neg (by decide), if_pos rfl]
    by_cases q : w = 1
    · rw [if_pos q, if_pos q]
      intro c m f c' m' f' e e'
      exact ⟨_, tx_c.2.2.2.1 _ _ _ _ _ _ 0 0 e e'⟩
    · rw [if_neg q, if_neg q]
      intro c m f e
      exact ⟨f, by simpa [mcls] using e⟩
  · intro w a a1 o _ h1
    refine vq_1 h1 (Nat.le_succ _) (fun g1 => ?_) (Nat.le_refl _)
    obtain ⟨f, g1⟩ := g1
    show ∃ f, TX H R ((o ++ [sp 25]).map (lnk m8)) (mcls nv m38 (o ++ [sp 25])) f
    rw [List.map_append, mcls_app]
    exact ⟨_, tx_c.2.1 _ _ _ 0 0 g1⟩
  · intro w a a1 o _ h1 _
    exact vq_1 h1 (Nat.le_succ _) (fun g1 => g1) (Nat.le_succ _)
  · intro w a q q1 q2 q3
    refine ⟨by omega, fun h hm _ => ?_⟩
    have h1 := hm (a + 1) (by omega) (by omega) q1
    have h2 := hm (a + 3) (by omega) (by omega) q3
    have r1 : rol tk (a + 1) = 6 := by
      unfold rol
      rw [if_pos q1, if_neg (by omega), Nat.add_sub_cancel, if_neg (by omega), if_neg (by omega), if_neg (by omega), if_neg (by omega), if_pos q]
    have r2 : rol tk (a + 3) = 7 := by
      unfold rol
      rw [if_pos q3, if_neg (by omega), show a + 3 - 1 = a + 2 by omega, show a + 3 - 2 = a + 1 by omega, if_neg (by omega), if_neg (by omega), if_neg (by omega), if_neg (by omega), if_neg (by omega), if_pos q2, if_neg (by omega)]
    obtain ⟨x, hx, e1, e2⟩ := h1.2.2 (Or.inr r1)
    obtain ⟨y, hy, e3, e4⟩ := h2.1 (Or.inr r2)
    show ∃ f, TX H R [(24, lkv m8 (nI (a + 1)), lkv m8 (nI (a + 3)))] [17, m38 (nI (a + 1)).toNatClampNeg, m38 (nI (a + 3)).toNatClampNeg] f
    rw [lkv_nI (by omega), lkv_nI (by omega), nI_clamp (by omega), nI_clamp (by omega), e1, e2, e3, e4]
    exact ⟨_, tx_c.1 x y hy hx⟩
  · intro w a a1 a2 o1 o2 h1 q h2
    refine vq_2 h1 h2 (Nat.le_refl _) (Nat.le_succ _) (fun g1 g2 => ?_) (Nat.le_refl _)
    obtain ⟨f1, g1⟩ := g1
    obtain ⟨f2, g2⟩ := g2
    show ∃ f, TX H R ((o1 ++ o2 ++ [sp (tk a1)]).map (lnk m8)) (mcls nv m38 (o1 ++ o2 ++ [sp (tk a1)])) f
    rw [List.map_append, List.map_append, mcls_app, mcls_app]
    have e : mcls nv m38 [sp (tk a1)] = [mop (tk a1)] := by
      show mcl nv m38 (sp (tk a1)) ++ [] = _
      rw [mcl_sq (by omega)]; rfl
    rw [e]
    exact ⟨_, tx_c.2.2.2.2 (tk a1) _ _ _ _ _ _ 0 0 (by unfold isCm; omega) g1 g2⟩
  · intro w a a1 a2 o1 o2 h1 h2
    refine vq_2 h1 h2 (Nat.le_refl _) (Nat.le_refl _) (fun g1 g2 => ?_) (Nat.le_refl _)
    obtain ⟨f, g1⟩ := g1
    show ∃ f, EX H R ((o1 ++ o2).map (lnk m8)) (mcls nv m38 (o1 ++ o2)) f
    rw [List.map_append, mcls_app]
    exact g2 _ _ _ g1
  · intro w a a1 a2 o1 o2 q h1 h2
    refine vq_2 h1 h2 (Nat.le_succ _) (Nat.le_refl _) (fun g1 g2 => ?_) (Nat.le_refl _)
    obtain ⟨f1, g1⟩ := g1
    unfold VP at g2 ⊢
    rw [if_neg (by decide), if_neg (by decide), if_neg (by decide)] at g2 ⊢
    rw [List.map_append, List.map_append, mcls_app, mcls_app]
    have e : mcls nv m38 [sp (tk a)] = [mop (tk a)] := by
      show mcl nv m38 (sp (tk a)) ++ [] = _
      rw [mcl_sq (by omega)]; rfl
    rw [e]
    by_cases r : w = 1
    · rw [if_pos r] at g2 ⊢
      intro c m f e
      obtain ⟨f2, g3⟩ := g2 _ _ _ (ex_c.2.2.2.2.2.2.2.2 (tk a) _ _ _ _ _ _ 0 0 (by unfold isAr; omega) e g1)
      exact ⟨f2, by simpa [List.append_assoc, lnk_sp] using g3⟩
    · rw [if_neg r] at g2 ⊢
      intro hw c m f c' m' f' e e'
      obtain ⟨f2, g3⟩ := g2 hw _ _ _ _ _ _ e (ex_c.2.2.2.2.2.2.2.2 (tk a) _ _ _ _ _ _ 0 0 (by unfold isAr; omega) e' g1)
      exact ⟨f2, by simpa [List.append_assoc, lnk_sp] using g3⟩
  · intro w a a1 a2 o1 o2 q h1 h2
    refine vq_2 h1 h2 (Nat.le_succ _) (Nat.le_refl _) (fun g1 g2 => ?_) (Nat.le_refl _)
    obtain ⟨f1, g1⟩ := g1
    unfold VP at g2 ⊢
    rw [if_neg (by decide), if_neg (by decide), if_neg (by decide)] at g2 ⊢
    rw [if_neg (by omega)] at g2
    rw [List.map_append, List.map_append, mcls_app, mcls_app]
    by_cases r : w = 1
    · rw [if_pos r, if_pos r]
      intro c m f e
      obtain ⟨f2, g3⟩ := g2 q _ _ _ _ _ _ e g1
      exact ⟨f2, by simpa [List.append_assoc, mcls] using g3⟩
    · rw [if_neg r, if_neg r]
      intro hw c m f c' m' f' e e'
      have e2 : mcls nv m38 [sp w] = [mop w] := by
        show mcl nv m38 (sp w) ++ [] = _
        rw [mcl_sq (by omega)]; rfl
      rw [e2]
      obtain ⟨f2, g3⟩ := g2 q _ _ _ _ _ _ (ex_c.2.2.2.2.2.2.2.2 w _ _ _ _ _ _ 0 0 (by unfold isAr; omega) e e') g1
      exact ⟨f2, by simpa [List.append_assoc, lnk_sp] using g3⟩
  · intro w a
    refine ⟨Nat.le_refl _, fun _ _ _ => ?_⟩
    unfold VP
    rw [if_neg (by decide), if_neg (by decide), if_neg (by decide)]
    by_cases q : w = 1
    · rw [if_pos q, if_pos q]
      intro c m f e
      exact ⟨f, by simpa [mcls] using e⟩
    · rw [if_neg q, if_neg q]
      intro hw c m f c' m' f' e e'
      have e2 : mcls nv m38 [sp w] = [mop w] := by
        show mcl nv m38 (sp w) ++ [] = _
        rw [mcl_sq (by omega)]; rfl
      rw [e2]
      exact ⟨_, ex_c.2.2.2.2.2.2.2.2 w _ _ _ _ _ _ 0 0 (by unfold isAr; omega) e e'⟩
  · intro w a q
    refine ⟨by omega, fun h _ hn => ?_⟩
    show ∃ f, EX H R [(tk a, lkv m8 (nI a), 0)] (mcl nv m38 (tk a, nI a, -1) ++ []) f
    rw [lkv_nI (by omega), List.append_nil]
    rcases q with q | q | q | q
    · rw [hn a (by omega) (by omega) q, q]
      show ∃ f, EX H R [(4, nv a, 0)] [32, nv (nI a).toNatClampNeg] f
      rw [nI_clamp (by omega)]
      exact ⟨_, ex_c.1 (nv a) 0⟩
    · rw [q]; exact ⟨_, ex_c.2.1 (m8 a) 0⟩
    · rw [q]; exact ⟨_, ex_c.2.2.1 (m8 a) 0⟩
    · rw [q]; exact ⟨_, ex_c.2.2.2.1 (m8 a) 0⟩
  · intro w a q q1 q2
    refine ⟨by omega, fun h hm _ => ?_⟩
    have h1 := hm (a + 2) (by omega) (by omega) q2
    have r1 : rol tk (a + 2) = if tk a = 22 then 8 else 7 := by
      unfold rol
      rw [if_pos q2, if_neg (by omega), show a + 2 - 1 = a + 1 by omega, show a + 2 - 2 = a by omega, if_neg (by omega), if_neg (by omega), if_neg (by omega), if_neg (by omega), if_neg (by omega), if_pos q1]
    have ee : ∀ x y : Int32, m8 (a + 2) = x → m38 (a + 2) = y → (∃ f, EX H R [(tk a, x, 0)] [mk (tk a), y] f) → ∃ f, EX H R ([(tk a, nI (a + 2), (-1 : Int32))].map (lnk m8)) (mcls nv m38 [(tk a, nI (a + 2), -1)]) f := fun x y ex ey k => by
      show ∃ f, EX H R [(tk a, lkv m8 (nI (a + 2)), 0)] (mcl nv m38 (tk a, nI (a + 2), -1) ++ []) f
      have e2 : mcl nv m38 (tk a, nI (a + 2), -1) = [mk (tk a), m38 (a + 2)] := by
        unfold mcl
        simp only
        rw [if_neg (by omega), if_neg (by omega), if_pos q, nI_clamp (by omega)]
      rw [lkv_nI (by omega), e2, ex, ey]
      exact k
    rcases q with q | q | q
    · rw [if_neg (by omega)] at r1
      obtain ⟨x, hx, e1, e2⟩ := h1.1 (Or.inr r1)
      exact ee _ _ e1 e2 (by rw [q]; exact ⟨_, ex_c.2.2.2.2.1 x 0 hx⟩)
    · rw [if_neg (by omega)] at r1
      obtain ⟨x, hx, e1, e2⟩ := h1.1 (Or.inr r1)
      exact ee _ _ e1 e2 (by rw [q]; exact ⟨_, ex_c.2.2.2.2.2.1 x 0 hx⟩)
    · rw [if_pos q] at r1
      obtain ⟨x, hx, e1, e2⟩ := h1.2.1 r1
      exact ee _ _ e1 e2 (by rw [q]; exact ⟨_, ex_c.2.2.2.2.2.2.1 x 0 hx⟩)
  · intro w a a1 o _ h1
    refine vq_1 h1 (Nat.le_succ _) (fun g1 => ?_) (Nat.le_refl _)
    obtain ⟨f, g1⟩ := g1
    show ∃ f, EX H R ((o ++ [sp 5]).map (lnk m8)) (mcls nv m38 (o ++ [sp 5])) f
    rw [List.map_append, mcls_app]
    exact ⟨_, ex_c.2.2.2.2.2.2.2.1 _ _ _ 0 0 g1⟩
  · intro w a a1 o _ h1 _
    exact vq_1 h1 (Nat.le_succ _) (fun g1 => g1) (Nat.le_succ _)
  · intro w a a1 a2 o1 o2 q _ h1 _ h2 _
    refine vq_2 h1 h2 (by omega) (Nat.le_succ _) (fun g1 g2 => ?_) (Nat.le_succ _)
    obtain ⟨f1, g1⟩ := g1
    obtain ⟨f2, g2⟩ := g2
    show ∃ f, EX H R ((o1 ++ o2 ++ [sp (tk a)]).map (lnk m8)) (mcls nv m38 (o1 ++ o2 ++ [sp (tk a)])) f
    rw [List.map_append, List.map_append, mcls_app, mcls_app]
    have e : mcls nv m38 [sp (tk a)] = [mop (tk a)] := by
      show mcl nv m38 (sp (tk a)) ++ [] = _
      rw [mcl_sq (by omega)]; rfl
    rw [e]
    exact ⟨_, ex_c.2.2.2.2.2.2.2.2 (tk a) _ _ _ _ _ _ 0 0 (by unfold isAr; omega) g1 g2⟩
end VPS
