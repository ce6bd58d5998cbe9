-- THE PURE PART: the memory at the law's first turn (made by genini.py)
def Tc (i : Nat) : Nat := ([1, 2, 3, 4, 5, 6, 7, 8, 9, 10, 11, 12, 13, 14, 15, 16, 17, 18, 19, 20, 21, 22, 23, 22, 23, 22, 23, 22, 23, 22, 23, 22, 23, 22, 23, 22, 23, 24, 24, 24, 24, 24, 24, 24, 24, 19, 20, 21, 22, 23, 22, 23, 22, 23, 22, 23, 22, 23, 22, 23, 22, 23, 22, 23, 24, 24, 24, 24, 24, 24, 24, 24, 25, 26, 27, 28, 29, 30, 25, 26, 27, 28, 29, 30, 31, 32, 33, 34, 35, 36, 37, 38, 44, 45, 46, 47, 48, 49, 50, 51, 52, 53, 54, 39, 40, 41, 42, 43, 55, 56, 57, 58, 59, 60, 61, 62, 55, 56, 57, 58, 59, 60, 61, 62, 63] : List Nat).getD i 0
def Tq (i : Nat) : Nat := ([0, 0, 0, 0, 0, 0, 0, 0, 0, 0, 0, 0, 0, 0, 0, 0, 0, 0, 0, 0, 0, 0, 0, 1, 1, 2, 2, 3, 3, 4, 4, 5, 5, 6, 6, 7, 7, 0, 1, 2, 3, 4, 5, 6, 7, 1, 1, 1, 8, 8, 9, 9, 10, 10, 11, 11, 12, 12, 13, 13, 14, 14, 15, 15, 8, 9, 10, 11, 12, 13, 14, 15, 0, 0, 0, 0, 0, 0, 1, 1, 1, 1, 1, 1, 0, 0, 0, 0, 0, 0, 0, 0, 0, 0, 0, 0, 0, 0, 0, 0, 0, 0, 0, 0, 0, 0, 0, 0, 0, 0, 0, 0, 0, 0, 0, 0, 1, 1, 1, 1, 1, 1, 1, 1, 0] : List Nat).getD i 0
def Tk (b i : Nat) : Nat := if 44 ≤ Tc i ∧ Tc i ≤ 54 then b + 92 else Tq i
def sg1 : List (Nat × Nat) → Nat → Nat
  | [], i => full (Tc i)
  | (j, s) :: t, i => if i = j then s else sg1 t i
set_option maxRecDepth 100000 in
theorem Tcq_inj : ∀ i, i < 125 → ∀ j, j < 125 → Tc i = Tc j → Tq i = Tq j → i = j := by decide +kernel
set_option maxRecDepth 100000 in
theorem Tq_0 : ∀ i, i < 125 → (44 ≤ Tc i ∧ Tc i ≤ 54) ∨ Tc i = 1 ∨ Tc i = 32 → Tq i = 0 := by decide +kernel
theorem Tk_inj {b i j : Nat} (hi : i < 125) (hj : j < 125) (h1 : Tc i = Tc j) (h2 : Tk b i = Tk b j) : i = j := by
  refine Tcq_inj i hi j hj h1 ?_
  unfold Tk at h2
  by_cases q : 44 ≤ Tc i ∧ Tc i ≤ 54
  · rw [Tq_0 i hi (Or.inl q), Tq_0 j hj (Or.inl (by rw [← h1]; exact q))]
  · rw [if_neg q, if_neg (by rw [← h1]; exact q)] at h2; exact h2
/-- the first n addresses are made -/
def Mst (b n : Nat) (ex : List (Nat × Nat)) (E : Nat → Nat → Int32) (R : Nat → Nat → Nat) (w : Mm) : Prop := gZ w = b + n ∧ n ≤ 125 ∧ (∀ i, i < n → gS w (b + i) = (Tc i, Tk b i, sg1 ex i)) ∧ (∀ i, i < n → ∀ j, gI w (Tc i) (Tk b i) j = E (Tc i) j) ∧ (∀ i, i < n → Tc i = 1 ∨ Tc i = 32 → ∀ j, gR w (Tc i) (Tk b i) j = R (Tc i) j)
def iE0 : Nat → Nat → Int32 := fun _ _ => 0
def iE1 : Nat → Nat → Int32 := fun c' j' => if c' = 1 ∧ j' = 10 then -1 else iE0 c' j'
def iE2 : Nat → Nat → Int32 := fun c' j' => if c' = 32 ∧ j' = 3 then -1 else iE1 c' j'
def iR0 (b : Nat) : Nat → Nat → Nat := fun _ _ => 0
def iR1 (b : Nat) : Nat → Nat → Nat := fun c' j' => if c' = 1 ∧ j' = 7 then 1 else iR0 b c' j'
def iR2 (b : Nat) : Nat → Nat → Nat := fun c' j' => if c' = 1 ∧ j' = 8 then 2 else iR1 b c' j'
def iR3 (b : Nat) : Nat → Nat → Nat := fun c' j' => if c' = 32 ∧ j' = 11 then b + 92 + 1 else iR2 b c' j'
def iR4 (b : Nat) : Nat → Nat → Nat := fun c' j' => if c' = 32 ∧ j' = 12 then b + 92 + 1 else iR3 b c' j'
theorem iE_pl : ∀ d, d < 11 → ∀ j, iE2 (44 + d) j = 0 := fun d hd j => by
  show (if 44 + d = 32 ∧ j = 3 then _ else if 44 + d = 1 ∧ j = 10 then _ else (0 : Int32)) = 0
  rw [if_neg (by omega), if_neg (by omega)]
section INI
variable {b n : Nat} {ex : List (Nat × Nat)} {E : Nat → Nat → Int32} {R : Nat → Nat → Nat} {w : Mm} {Q : Mm → Prop} {X : Option Mm} {K : Mm → Option Mm}
theorem s_gd {c : Bool} (h : c = true) (k : ∃ r, X = some r ∧ Q r) : ∃ r, gd c X = some r ∧ Q r := by
  obtain ⟨r, e, q⟩ := k
  exact ⟨r, gdT h e, q⟩
theorem s_sq {α : Type} {e : α} {K : α → Option Mm} (k : ∃ r, K e = some r ∧ Q r) : ∃ r, sq e K = some r ∧ Q r := k
theorem s_bd0 {e : Option Mm} {Q1 : Mm → Prop} (h : ∃ r, e = some r ∧ Q1 r) (k : ∀ r, Q1 r → ∃ r', K r = some r' ∧ Q r') : ∃ r', bd0 e K = some r' ∧ Q r' := by
  obtain ⟨r, e1, q⟩ := h
  obtain ⟨r', e2, q2⟩ := k r q
  exact ⟨r', bd0T e1 e2, q2⟩
theorem s_A {a : Nat} (h : Mst b n ex E R w) (ha : a = b + n) (k : ∃ r, X = some r ∧ Q r) : ∃ r, gd (decide (a = gZ w)) X = some r ∧ Q r := s_gd (decide_eq_true (by rw [h.1, ha])) k
theorem s_S {c q st i : Nat} (h : Mst b n ex E R w) (ha : adr b c q = b + i) (hi : i < n) (h1 : Tc i = c) (h2 : Tk b i = q) (h3 : sg1 ex i = st) (k : ∃ r, X = some r ∧ Q r) : ∃ r, gd (shS w b c q st) X = some r ∧ Q r := s_gd (by
  unfold shS
  rw [ha, h.2.2.1 i hi, h1, h2, h3]
  exact decide_eq_true rfl) k
theorem st_nw {c q s : Nat} {ex2 : List (Nat × Nat)} (h : Mst b n ex E R w) (h1 : Tc n = c) (h2 : Tk b n = q) (hn : n < 125) (hE : ∀ j, E c j = 0) (hR : c = 1 ∨ c = 32 → ∀ j, R c j = 0) (he : ∀ i, i < n → sg1 ex2 i = sg1 ex i) (hs : sg1 ex2 n = s) : Mst b (n + 1) ex2 E R (nw w c q s) := by
  obtain ⟨g1, g2, g3, g4, g5⟩ := h
  refine ⟨by rw [gZ_nw, g1]; rfl, by omega, fun i hi => ?_, fun i hi j => ?_, fun i hi hc j => ?_⟩
  · rw [gS_nw]
    by_cases qi : i = n
    · subst qi; rw [if_pos g1.symm, h1, h2, hs]
    · rw [if_neg (by omega), he i (by omega)]; exact g3 i (by omega)
  · rw [gI_nw]
    by_cases qi : i = n
    · subst qi; rw [if_pos ⟨h1, h2⟩, h1, hE]
    · rw [if_neg (fun z => qi (Tk_inj (b := b) (by omega) hn (z.1.trans h1.symm) (z.2.trans h2.symm)))]; exact g4 i (by omega) j
  · rw [gR_nw]
    by_cases qi : i = n
    · subst qi; rw [if_pos ⟨h1, h2⟩, h1, hR (by rw [← h1]; exact hc)]
    · rw [if_neg (fun z => qi (Tk_inj (b := b) (by omega) hn (z.1.trans h1.symm) (z.2.trans h2.symm)))]; exact g5 i (by omega) hc j
theorem s_nw {c q : Nat} (h : Mst b n ex E R w) (h1 : Tc n = c) (h2 : Tk b n = q) (hn : n < 125) (hE : ∀ j, E c j = 0) (hc : ¬ (c = 1 ∨ c = 32)) (k : ∀ w', Mst b (n + 1) ((n, 0) :: ex) E R w' → ∃ r, K w' = some r ∧ Q r) : ∃ r, sq (nw w c q 0) K = some r ∧ Q r :=
  k _ (st_nw h h1 h2 hn hE (fun z => (hc z).elim) (fun i hi => by rw [sg1, if_neg (by omega)]) (by rw [sg1, if_pos rfl]))
theorem s_nw0 {c q : Nat} (h : Mst b n ex E R w) (h1 : Tc n = c) (h2 : Tk b n = q) (hs : sg1 ex n = 0) (hn : n < 125) (hE : ∀ j, E c j = 0) (hc : ¬ (c = 1 ∨ c = 32)) (k : ∀ w', Mst b (n + 1) ex E R w' → ∃ r, K w' = some r ∧ Q r) : ∃ r, sq (nw w c q 0) K = some r ∧ Q r :=
  k _ (st_nw h h1 h2 hn hE (fun z => (hc z).elim) (fun i hi => rfl) hs)
theorem s_pS {c q st i a : Nat} {ex2 : List (Nat × Nat)} (h : Mst b n ex E R w) (ha : a = b + i) (hi : i < n) (h1 : Tc i = c) (h2 : Tk b i = q) (he : ∀ j, j < n → sg1 ex2 j = if j = i then st else sg1 ex j) (k : ∀ w', Mst b n ex2 E R w' → ∃ r, K w' = some r ∧ Q r) : ∃ r, sq (pS w a c q st) K = some r ∧ Q r := by
  obtain ⟨g1, g2, g3, g4, g5⟩ := h
  refine k _ ⟨g1, g2, fun j hj => ?_, g4, g5⟩
  rw [gS_pS2, ha, he j hj]
  by_cases qi : j = i
  · subst qi; rw [if_pos rfl, if_pos rfl, h1, h2]
  · rw [if_neg (by omega), if_neg qi]; exact g3 j hj
theorem s_pI1 {i : Nat} {v : Int32} (h : Mst b n ex E R w) (k : ∀ w', Mst b n ex (fun c' j' => if c' = 1 ∧ j' = i then v else E c' j') R w' → ∃ r, K w' = some r ∧ Q r) : ∃ r, sq (pI w 1 0 i v) K = some r ∧ Q r := by
  obtain ⟨g1, g2, g3, g4, g5⟩ := h
  refine k _ ⟨g1, g2, g3, fun j hj x => ?_, g5⟩
  rw [gI_pI]
  show _ = if Tc j = 1 ∧ x = i then v else E (Tc j) x
  by_cases q : Tc j = 1 ∧ x = i
  · have : Tk b j = 0 := by unfold Tk; rw [if_neg (by omega)]; exact Tq_0 j (by omega) (Or.inr (Or.inl q.1))
    rw [if_pos ⟨q.1, this, q.2⟩, if_pos q]
  · rw [if_neg (fun z => q ⟨z.1, z.2.2⟩), if_neg q]; exact g4 j hj x
theorem s_pI32 {i : Nat} {v : Int32} (h : Mst b n ex E R w) (k : ∀ w', Mst b n ex (fun c' j' => if c' = 32 ∧ j' = i then v else E c' j') R w' → ∃ r, K w' = some r ∧ Q r) : ∃ r, sq (pI w 32 0 i v) K = some r ∧ Q r := by
  obtain ⟨g1, g2, g3, g4, g5⟩ := h
  refine k _ ⟨g1, g2, g3, fun j hj x => ?_, g5⟩
  rw [gI_pI]
  show _ = if Tc j = 32 ∧ x = i then v else E (Tc j) x
  by_cases q : Tc j = 32 ∧ x = i
  · have : Tk b j = 0 := by unfold Tk; rw [if_neg (by omega)]; exact Tq_0 j (by omega) (Or.inr (Or.inr q.1))
    rw [if_pos ⟨q.1, this, q.2⟩, if_pos q]
  · rw [if_neg (fun z => q ⟨z.1, z.2.2⟩), if_neg q]; exact g4 j hj x
theorem s_pR1 {i v : Nat} (h : Mst b n ex E R w) (k : ∀ w', Mst b n ex E (fun c' j' => if c' = 1 ∧ j' = i then v else R c' j') w' → ∃ r, K w' = some r ∧ Q r) : ∃ r, sq (pR w 1 0 i v) K = some r ∧ Q r := by
  obtain ⟨g1, g2, g3, g4, g5⟩ := h
  refine k _ ⟨g1, g2, g3, g4, fun j hj hc x => ?_⟩
  rw [gR_pR]
  show _ = if Tc j = 1 ∧ x = i then v else R (Tc j) x
  by_cases q : Tc j = 1 ∧ x = i
  · have : Tk b j = 0 := by unfold Tk; rw [if_neg (by omega)]; exact Tq_0 j (by omega) (Or.inr (Or.inl q.1))
    rw [if_pos ⟨q.1, this, q.2⟩, if_pos q]
  · rw [if_neg (fun z => q ⟨z.1, z.2.2⟩), if_neg q]; exact g5 j hj hc x
theorem s_pR32 {i v : Nat} (h : Mst b n ex E R w) (k : ∀ w', Mst b n ex E (fun c' j' => if c' = 32 ∧ j' = i then v else R c' j') w' → ∃ r, K w' = some r ∧ Q r) : ∃ r, sq (pR w 32 0 i v) K = some r ∧ Q r := by
  obtain ⟨g1, g2, g3, g4, g5⟩ := h
  refine k _ ⟨g1, g2, g3, g4, fun j hj hc x => ?_⟩
  rw [gR_pR]
  show _ = if Tc j = 32 ∧ x = i then v else R (Tc j) x
  by_cases q : Tc j = 32 ∧ x = i
  · have : Tk b j = 0 := by unfold Tk; rw [if_neg (by omega)]; exact Tq_0 j (by omega) (Or.inr (Or.inr q.1))
    rw [if_pos ⟨q.1, this, q.2⟩, if_pos q]
  · rw [if_neg (fun z => q ⟨z.1, z.2.2⟩), if_neg q]; exact g5 j hj hc x
theorem st_pRo {c q i v : Nat} (h : Mst b n ex E R w) (h1 : c ≠ 1) (h2 : c ≠ 32) : Mst b n ex E R (pR w c q i v) := by
  obtain ⟨g1, g2, g3, g4, g5⟩ := h
  refine ⟨g1, g2, g3, g4, fun j hj hc x => ?_⟩
  rw [gR_pR, if_neg (by omega)]; exact g5 j hj hc x
theorem s_pRo {c q i v : Nat} (h : Mst b n ex E R w) (h1 : c ≠ 1) (h2 : c ≠ 32) (k : ∀ w', Mst b n ex E R w' → ∃ r, K w' = some r ∧ Q r) : ∃ r, sq (pR w c q i v) K = some r ∧ Q r := k _ (st_pRo h h1 h2)
theorem st_R1 (h : Mst b n ex E R w) (hn : 0 < n) (j : Nat) : gR w 1 0 j = R 1 j := h.2.2.2.2 0 hn (Or.inl rfl) j
theorem st_R32 (h : Mst b n ex E R w) (hn : 85 < n) (j : Nat) : gR w 32 0 j = R 32 j := h.2.2.2.2 85 hn (Or.inr rfl) j
theorem i_L43 (h : Mst b n ex E R w) (hn : 4 < n) (h3 : sg1 ex 3 = 4) (h4 : sg1 ex 4 = 0) : ∀ d u f, u + d = 401 → d < f → ∃ r, f_X11_init_L43 b f (nI u) w = some r ∧ Mst b n ex E R r := by
  have : ∀ (d u f : Nat) (w : Mm), Mst b n ex E R w → u + d = 401 → d < f → ∃ r, f_X11_init_L43 b f (nI u) w = some r ∧ Mst b n ex E R r := by
    intro d
    induction d with
    | zero =>
      intro u f w h e hf
      obtain ⟨f, rfl⟩ : ∃ f', f = f' + 1 := ⟨f - 1, by omega⟩
      have e : u = 401 := by omega
      subst e
      rw [f_X11_init_L43]
      exact s_S (i := 3) h rfl (by omega) rfl rfl h3 (s_S (i := 4) h rfl (by omega) rfl rfl h4 ⟨w, brT (by decide) rfl, h⟩)
    | succ d ih =>
      intro u f w h e hf
      obtain ⟨f, rfl⟩ : ∃ f', f = f' + 1 := ⟨f - 1, by omega⟩
      rw [f_X11_init_L43]
      refine s_S (i := 3) h rfl (by omega) rfl rfl h3 (s_S (i := 4) h rfl (by omega) rfl rfl h4 ?_)
      obtain ⟨r, e1, e2⟩ := ih (u + 1) f (pR w 5 0 u 1) (st_pRo h (by decide) (by decide)) (by omega) (by omega)
      obtain ⟨r', k1, k2⟩ : ∃ r, (gd (shS w b 4 0 4) (gd (vB (nI u) 401) (gd (kok 1) (gd (shS w b 5 0 0) (sq (pR w 5 0 (nI u).toNatClampNeg 1) (fun w21 => sq (nI u + 1) (fun x23 => f_X11_init_L43 b f x23 w21))))))) = some r ∧ Mst b n ex E R r := by
        refine s_S (i := 3) h rfl (by omega) rfl rfl h3 (s_gd ((vB_nI (by omega)).mpr (by omega)) (s_gd (by decide) (s_S (i := 4) h rfl (by omega) rfl rfl h4 ?_)))
        rw [nI_clamp (by omega), nI_1]
        exact ⟨r, e1, e2⟩
      exact ⟨r', brF (by rw [show (401 : Int32) = nI 401 from rfl, nI_leI (by omega) (by omega)]; omega) k1, k2⟩
  exact fun d u f => this d u f w h
theorem i_L50 {k : Nat} (h : Mst b n ex E R w) (hk : k < 2) (hn : 75 + 6 * k < n) (h3 : sg1 ex (72 + 6 * k) = 5) (h4 : sg1 ex (75 + 6 * k) = 0) : ∀ d u f, u + d = 400 → d < f → ∃ r, f_X8_init_L50 b k f (nI u) w = some r ∧ Mst b n ex E R r := by
  have a25 : adr b 25 k = b + (72 + 6 * k) := by simp only [adr]; omega
  have a28 : adr b 28 k = b + (75 + 6 * k) := by simp only [adr]; omega
  have t1 : Tc (72 + 6 * k) = 25 ∧ Tk b (72 + 6 * k) = k ∧ Tc (75 + 6 * k) = 28 ∧ Tk b (75 + 6 * k) = k := by
    have : k = 0 ∨ k = 1 := by omega
    rcases this with rfl | rfl <;> exact ⟨rfl, rfl, rfl, rfl⟩
  obtain ⟨t1, t2, t3, t4⟩ := t1
  have : ∀ (d u f : Nat) (w : Mm), Mst b n ex E R w → u + d = 400 → d < f → ∃ r, f_X8_init_L50 b k f (nI u) w = some r ∧ Mst b n ex E R r := by
    intro d
    induction d with
    | zero =>
      intro u f w h e hf
      obtain ⟨f, rfl⟩ : ∃ f', f = f' + 1 := ⟨f - 1, by omega⟩
      have e : u = 400 := by omega
      subst e
      rw [f_X8_init_L50]
      exact s_S h a25 (by omega) t1 t2 h3 (s_S h a28 (by omega) t3 t4 h4 ⟨w, brT (by decide) rfl, h⟩)
    | succ d ih =>
      intro u f w h e hf
      obtain ⟨f, rfl⟩ : ∃ f', f = f' + 1 := ⟨f - 1, by omega⟩
      rw [f_X8_init_L50]
      refine s_S h a25 (by omega) t1 t2 h3 (s_S h a28 (by omega) t3 t4 h4 ?_)
      obtain ⟨r, e1, e2⟩ := ih (u + 1) f (pR w 28 k u 1) (st_pRo h (by decide) (by decide)) (by omega) (by omega)
      obtain ⟨r', k1, k2⟩ : ∃ r, (gd (shS w b 25 k 5) (gd (vB (nI u) 400) (gd (kok 1) (gd (shS w b 28 k 0) (sq (pR w 28 k (nI u).toNatClampNeg 1) (fun w21 => sq (nI u + 1) (fun x23 => f_X8_init_L50 b k f x23 w21))))))) = some r ∧ Mst b n ex E R r := by
        refine s_S h a25 (by omega) t1 t2 h3 (s_gd ((vB_nI (by omega)).mpr (by omega)) (s_gd (by decide) (s_S h a28 (by omega) t3 t4 h4 ?_)))
        rw [nI_clamp (by omega), nI_1]
        exact ⟨r, e1, e2⟩
      exact ⟨r', brF (by rw [show (400 : Int32) = nI 400 from rfl, nI_leI (by omega) (by omega)]; omega) k1, k2⟩
  exact fun d u f => this d u f w h
/-- the reference's first plan -/
theorem i_plan (h : Mst b 92 ex E R w) (h10 : sg1 ex 92 = 10) (h0 : ∀ i, i < 11 → 1 ≤ i → sg1 ex (92 + i) = 0) (hT : ∀ i, i < 11 → Tc (92 + i) = 44 + i) (hnT : ∀ i, i < 92 → ¬ (44 ≤ Tc i ∧ Tc i ≤ 54)) (hE : ∀ d, d < 11 → ∀ j, E (44 + d) j = 0) : ∃ w', f_X13_init b (b + 92) (nw w 44 (b + 92) 0) = some w' ∧ Mst b 103 ex E R w' := by
  obtain ⟨g1, g2, g3, g4, g5⟩ := h
  obtain ⟨w', e, k1, k2, k3, k4, k5, k6⟩ := k_plan (b := b) (w := w)
  rw [g1] at e k1 k2 k3 k4 k5 k6
  refine ⟨w', e, by rw [k6], by omega, fun i hi => ?_, fun i hi j => ?_, fun i hi hc j => ?_⟩
  · by_cases q : i < 92
    · rw [k5 _ (by omega)]; exact g3 i q
    · obtain ⟨d, rfl⟩ : ∃ d, i = 92 + d := ⟨i - 92, by omega⟩
      have ht := hT d (by omega)
      have htk : Tk b (92 + d) = b + 92 := by unfold Tk; rw [if_pos (by omega)]
      rw [ht, htk]
      by_cases q0 : d = 0
      · subst q0
        rw [h10]; exact k3
      · rw [h0 d (by omega) (by omega), ← Nat.add_assoc]
        exact k4 d (by omega) (by omega)
  · by_cases q : i < 92
    · have := hnT i q
      rw [(k1 _ _ _ (by omega)).1]; exact g4 i q j
    · obtain ⟨d, rfl⟩ : ∃ d, i = 92 + d := ⟨i - 92, by omega⟩
      have ht := hT d (by omega)
      have htk : Tk b (92 + d) = b + 92 := by unfold Tk; rw [if_pos (by omega)]
      rw [ht, htk, k2 _ _ (by omega) (by omega)]
      exact (hE d (by omega) j).symm
  · by_cases q : i < 92
    · have := hnT i q
      rw [(k1 _ _ _ (by omega)).2.2]; exact g5 i q hc j
    · obtain ⟨d, rfl⟩ : ∃ d, i = 92 + d := ⟨i - 92, by omega⟩
      have ht := hT d (by omega)
      omega
end INI
set_option maxRecDepth 100000 in
theorem i_X10_init_2 {b : Nat} {w : Mm} (h : Mst b 2 [(1, 0), (0, 0)] iE0 (iR0 b) w) : ∃ w', f_X10_init b w = some w' ∧ Mst b 3 [(0, 0)] iE0 (iR0 b) w' := by
  unfold f_X10_init
  refine s_A h (by first | rfl | (simp only [adr]; omega)) ?_
  refine s_nw0 h rfl rfl rfl (by decide) (fun _ => rfl) (by decide) fun w h => ?_
  replace h : Mst b 3 [(1, 0), (0, 0)] iE0 (iR0 b) w := h
  refine s_S (i := 1) h (by first | rfl | (simp only [adr]; omega)) (by decide) rfl rfl rfl ?_
  refine s_pS (i := 1) (ex2 := [(0, 0)]) h (by first | rfl | (simp only [adr]; omega)) (by decide) rfl rfl (by decide) fun w h => ?_
  replace h : Mst b 3 [(0, 0)] iE0 (iR0 b) w := h
  exact ⟨_, rfl, h⟩
set_option maxRecDepth 100000 in
theorem i_X11_init_4 {b : Nat} {w : Mm} (h : Mst b 4 [(3, 0), (0, 1)] iE0 (iR0 b) w) : ∃ w', f_X11_init b w = some w' ∧ Mst b 8 [(0, 1)] iE0 (iR0 b) w' := by
  unfold f_X11_init
  refine s_A h (by first | rfl | (simp only [adr]; omega)) ?_
  refine s_nw0 h rfl rfl rfl (by decide) (fun _ => rfl) (by decide) fun w h => ?_
  replace h : Mst b 5 [(3, 0), (0, 1)] iE0 (iR0 b) w := h
  refine s_S (i := 3) h (by first | rfl | (simp only [adr]; omega)) (by decide) rfl rfl rfl ?_
  refine s_pS (i := 3) (ex2 := [(3, 1), (0, 1)]) h (by first | rfl | (simp only [adr]; omega)) (by decide) rfl rfl (by decide) fun w h => ?_
  replace h : Mst b 5 [(3, 1), (0, 1)] iE0 (iR0 b) w := h
  refine s_A h (by first | rfl | (simp only [adr]; omega)) ?_
  refine s_nw0 h rfl rfl rfl (by decide) (fun _ => rfl) (by decide) fun w h => ?_
  replace h : Mst b 6 [(3, 1), (0, 1)] iE0 (iR0 b) w := h
  refine s_S (i := 3) h (by first | rfl | (simp only [adr]; omega)) (by decide) rfl rfl rfl ?_
  refine s_pS (i := 3) (ex2 := [(3, 2), (0, 1)]) h (by first | rfl | (simp only [adr]; omega)) (by decide) rfl rfl (by decide) fun w h => ?_
  replace h : Mst b 6 [(3, 2), (0, 1)] iE0 (iR0 b) w := h
  refine s_A h (by first | rfl | (simp only [adr]; omega)) ?_
  refine s_nw0 h rfl rfl rfl (by decide) (fun _ => rfl) (by decide) fun w h => ?_
  replace h : Mst b 7 [(3, 2), (0, 1)] iE0 (iR0 b) w := h
  refine s_S (i := 3) h (by first | rfl | (simp only [adr]; omega)) (by decide) rfl rfl rfl ?_
  refine s_pS (i := 3) (ex2 := [(3, 3), (0, 1)]) h (by first | rfl | (simp only [adr]; omega)) (by decide) rfl rfl (by decide) fun w h => ?_
  replace h : Mst b 7 [(3, 3), (0, 1)] iE0 (iR0 b) w := h
  refine s_A h (by first | rfl | (simp only [adr]; omega)) ?_
  refine s_nw0 h rfl rfl rfl (by decide) (fun _ => rfl) (by decide) fun w h => ?_
  replace h : Mst b 8 [(3, 3), (0, 1)] iE0 (iR0 b) w := h
  refine s_S (i := 3) h (by first | rfl | (simp only [adr]; omega)) (by decide) rfl rfl rfl ?_
  refine s_pS (i := 3) (ex2 := [(0, 1)]) h (by first | rfl | (simp only [adr]; omega)) (by decide) rfl rfl (by decide) fun w h => ?_
  replace h : Mst b 8 [(0, 1)] iE0 (iR0 b) w := h
  refine s_bd0 (i_L43 h (by decide) rfl rfl 401 0 LF (by omega) (by unfold LF; omega)) fun w h => ?_
  exact ⟨_, rfl, h⟩
set_option maxRecDepth 100000 in
theorem i_X5_init_9 {b : Nat} {w : Mm} (h : Mst b 9 [(8, 0), (0, 2)] iE0 (iR0 b) w) : ∃ w', f_X5_init b w = some w' ∧ Mst b 10 [(0, 2)] iE0 (iR0 b) w' := by
  unfold f_X5_init
  refine s_A h (by first | rfl | (simp only [adr]; omega)) ?_
  refine s_nw0 h rfl rfl rfl (by decide) (fun _ => rfl) (by decide) fun w h => ?_
  replace h : Mst b 10 [(8, 0), (0, 2)] iE0 (iR0 b) w := h
  refine s_S (i := 8) h (by first | rfl | (simp only [adr]; omega)) (by decide) rfl rfl rfl ?_
  refine s_pS (i := 8) (ex2 := [(0, 2)]) h (by first | rfl | (simp only [adr]; omega)) (by decide) rfl rfl (by decide) fun w h => ?_
  replace h : Mst b 10 [(0, 2)] iE0 (iR0 b) w := h
  exact ⟨_, rfl, h⟩
set_option maxRecDepth 100000 in
theorem i_X6_init_11 {b : Nat} {w : Mm} (h : Mst b 11 [(10, 0), (0, 3)] iE0 (iR0 b) w) : ∃ w', f_X6_init b w = some w' ∧ Mst b 16 [(0, 3)] iE0 (iR0 b) w' := by
  unfold f_X6_init
  refine s_A h (by first | rfl | (simp only [adr]; omega)) ?_
  refine s_nw0 h rfl rfl rfl (by decide) (fun _ => rfl) (by decide) fun w h => ?_
  replace h : Mst b 12 [(10, 0), (0, 3)] iE0 (iR0 b) w := h
  refine s_S (i := 10) h (by first | rfl | (simp only [adr]; omega)) (by decide) rfl rfl rfl ?_
  refine s_pS (i := 10) (ex2 := [(10, 1), (0, 3)]) h (by first | rfl | (simp only [adr]; omega)) (by decide) rfl rfl (by decide) fun w h => ?_
  replace h : Mst b 12 [(10, 1), (0, 3)] iE0 (iR0 b) w := h
  refine s_A h (by first | rfl | (simp only [adr]; omega)) ?_
  refine s_nw0 h rfl rfl rfl (by decide) (fun _ => rfl) (by decide) fun w h => ?_
  replace h : Mst b 13 [(10, 1), (0, 3)] iE0 (iR0 b) w := h
  refine s_S (i := 10) h (by first | rfl | (simp only [adr]; omega)) (by decide) rfl rfl rfl ?_
  refine s_pS (i := 10) (ex2 := [(10, 2), (0, 3)]) h (by first | rfl | (simp only [adr]; omega)) (by decide) rfl rfl (by decide) fun w h => ?_
  replace h : Mst b 13 [(10, 2), (0, 3)] iE0 (iR0 b) w := h
  refine s_A h (by first | rfl | (simp only [adr]; omega)) ?_
  refine s_nw0 h rfl rfl rfl (by decide) (fun _ => rfl) (by decide) fun w h => ?_
  replace h : Mst b 14 [(10, 2), (0, 3)] iE0 (iR0 b) w := h
  refine s_S (i := 10) h (by first | rfl | (simp only [adr]; omega)) (by decide) rfl rfl rfl ?_
  refine s_pS (i := 10) (ex2 := [(10, 3), (0, 3)]) h (by first | rfl | (simp only [adr]; omega)) (by decide) rfl rfl (by decide) fun w h => ?_
  replace h : Mst b 14 [(10, 3), (0, 3)] iE0 (iR0 b) w := h
  refine s_A h (by first | rfl | (simp only [adr]; omega)) ?_
  refine s_nw0 h rfl rfl rfl (by decide) (fun _ => rfl) (by decide) fun w h => ?_
  replace h : Mst b 15 [(10, 3), (0, 3)] iE0 (iR0 b) w := h
  refine s_S (i := 10) h (by first | rfl | (simp only [adr]; omega)) (by decide) rfl rfl rfl ?_
  refine s_pS (i := 10) (ex2 := [(10, 4), (0, 3)]) h (by first | rfl | (simp only [adr]; omega)) (by decide) rfl rfl (by decide) fun w h => ?_
  replace h : Mst b 15 [(10, 4), (0, 3)] iE0 (iR0 b) w := h
  refine s_A h (by first | rfl | (simp only [adr]; omega)) ?_
  refine s_nw0 h rfl rfl rfl (by decide) (fun _ => rfl) (by decide) fun w h => ?_
  replace h : Mst b 16 [(10, 4), (0, 3)] iE0 (iR0 b) w := h
  refine s_S (i := 10) h (by first | rfl | (simp only [adr]; omega)) (by decide) rfl rfl rfl ?_
  refine s_pS (i := 10) (ex2 := [(0, 3)]) h (by first | rfl | (simp only [adr]; omega)) (by decide) rfl rfl (by decide) fun w h => ?_
  replace h : Mst b 16 [(0, 3)] iE0 (iR0 b) w := h
  exact ⟨_, rfl, h⟩
set_option maxRecDepth 100000 in
theorem i_X2_init_17 {b : Nat} {w : Mm} (h : Mst b 17 [(16, 0), (0, 4)] iE0 (iR0 b) w) : ∃ w', f_X2_init b w = some w' ∧ Mst b 18 [(0, 4)] iE0 (iR0 b) w' := by
  unfold f_X2_init
  refine s_A h (by first | rfl | (simp only [adr]; omega)) ?_
  refine s_nw0 h rfl rfl rfl (by decide) (fun _ => rfl) (by decide) fun w h => ?_
  replace h : Mst b 18 [(16, 0), (0, 4)] iE0 (iR0 b) w := h
  refine s_S (i := 16) h (by first | rfl | (simp only [adr]; omega)) (by decide) rfl rfl rfl ?_
  refine s_pS (i := 16) (ex2 := [(16, 1), (0, 4)]) h (by first | rfl | (simp only [adr]; omega)) (by decide) rfl rfl (by decide) fun w h => ?_
  replace h : Mst b 18 [(16, 1), (0, 4)] iE0 (iR0 b) w := h
  refine s_S (i := 16) h (by first | rfl | (simp only [adr]; omega)) (by decide) rfl rfl rfl ?_
  refine s_pS (i := 16) (ex2 := [(0, 4)]) h (by first | rfl | (simp only [adr]; omega)) (by decide) rfl rfl (by decide) fun w h => ?_
  replace h : Mst b 18 [(0, 4)] iE0 (iR0 b) w := h
  exact ⟨_, rfl, h⟩
set_option maxRecDepth 100000 in
theorem i_X3_init_22 {b : Nat} {w : Mm} (h : Mst b 22 [(21, 0), (20, 0), (19, 0), (0, 5)] iE0 (iR0 b) w) : ∃ w', f_X3_init b 0 w = some w' ∧ Mst b 23 [(20, 0), (19, 0), (0, 5)] iE0 (iR0 b) w' := by
  unfold f_X3_init
  refine s_A h (by first | rfl | (simp only [adr]; omega)) ?_
  refine s_nw0 h rfl rfl rfl (by decide) (fun _ => rfl) (by decide) fun w h => ?_
  replace h : Mst b 23 [(21, 0), (20, 0), (19, 0), (0, 5)] iE0 (iR0 b) w := h
  refine s_S (i := 21) h (by first | rfl | (simp only [adr]; omega)) (by decide) rfl rfl rfl ?_
  refine s_pS (i := 21) (ex2 := [(20, 0), (19, 0), (0, 5)]) h (by first | rfl | (simp only [adr]; omega)) (by decide) rfl rfl (by decide) fun w h => ?_
  replace h : Mst b 23 [(20, 0), (19, 0), (0, 5)] iE0 (iR0 b) w := h
  exact ⟨_, rfl, h⟩
set_option maxRecDepth 100000 in
theorem i_X3_init_24 {b : Nat} {w : Mm} (h : Mst b 24 [(23, 0), (20, 0), (19, 1), (0, 5)] iE0 (iR0 b) w) : ∃ w', f_X3_init b 1 w = some w' ∧ Mst b 25 [(20, 0), (19, 1), (0, 5)] iE0 (iR0 b) w' := by
  unfold f_X3_init
  refine s_A h (by first | rfl | (simp only [adr]; omega)) ?_
  refine s_nw0 h rfl rfl rfl (by decide) (fun _ => rfl) (by decide) fun w h => ?_
  replace h : Mst b 25 [(23, 0), (20, 0), (19, 1), (0, 5)] iE0 (iR0 b) w := h
  refine s_S (i := 23) h (by first | rfl | (simp only [adr]; omega)) (by decide) rfl rfl rfl ?_
  refine s_pS (i := 23) (ex2 := [(20, 0), (19, 1), (0, 5)]) h (by first | rfl | (simp only [adr]; omega)) (by decide) rfl rfl (by decide) fun w h => ?_
  replace h : Mst b 25 [(20, 0), (19, 1), (0, 5)] iE0 (iR0 b) w := h
  exact ⟨_, rfl, h⟩
set_option maxRecDepth 100000 in
theorem i_X3_init_26 {b : Nat} {w : Mm} (h : Mst b 26 [(25, 0), (20, 0), (19, 2), (0, 5)] iE0 (iR0 b) w) : ∃ w', f_X3_init b 2 w = some w' ∧ Mst b 27 [(20, 0), (19, 2), (0, 5)] iE0 (iR0 b) w' := by
  unfold f_X3_init
  refine s_A h (by first | rfl | (simp only [adr]; omega)) ?_
  refine s_nw0 h rfl rfl rfl (by decide) (fun _ => rfl) (by decide) fun w h => ?_
  replace h : Mst b 27 [(25, 0), (20, 0), (19, 2), (0, 5)] iE0 (iR0 b) w := h
  refine s_S (i := 25) h (by first | rfl | (simp only [adr]; omega)) (by decide) rfl rfl rfl ?_
  refine s_pS (i := 25) (ex2 := [(20, 0), (19, 2), (0, 5)]) h (by first | rfl | (simp only [adr]; omega)) (by decide) rfl rfl (by decide) fun w h => ?_
  replace h : Mst b 27 [(20, 0), (19, 2), (0, 5)] iE0 (iR0 b) w := h
  exact ⟨_, rfl, h⟩
set_option maxRecDepth 100000 in
theorem i_X3_init_28 {b : Nat} {w : Mm} (h : Mst b 28 [(27, 0), (20, 0), (19, 3), (0, 5)] iE0 (iR0 b) w) : ∃ w', f_X3_init b 3 w = some w' ∧ Mst b 29 [(20, 0), (19, 3), (0, 5)] iE0 (iR0 b) w' := by
  unfold f_X3_init
  refine s_A h (by first | rfl | (simp only [adr]; omega)) ?_
  refine s_nw0 h rfl rfl rfl (by decide) (fun _ => rfl) (by decide) fun w h => ?_
  replace h : Mst b 29 [(27, 0), (20, 0), (19, 3), (0, 5)] iE0 (iR0 b) w := h
  refine s_S (i := 27) h (by first | rfl | (simp only [adr]; omega)) (by decide) rfl rfl rfl ?_
  refine s_pS (i := 27) (ex2 := [(20, 0), (19, 3), (0, 5)]) h (by first | rfl | (simp only [adr]; omega)) (by decide) rfl rfl (by decide) fun w h => ?_
  replace h : Mst b 29 [(20, 0), (19, 3), (0, 5)] iE0 (iR0 b) w := h
  exact ⟨_, rfl, h⟩
set_option maxRecDepth 100000 in
theorem i_X3_init_30 {b : Nat} {w : Mm} (h : Mst b 30 [(29, 0), (20, 0), (19, 4), (0, 5)] iE0 (iR0 b) w) : ∃ w', f_X3_init b 4 w = some w' ∧ Mst b 31 [(20, 0), (19, 4), (0, 5)] iE0 (iR0 b) w' := by
  unfold f_X3_init
  refine s_A h (by first | rfl | (simp only [adr]; omega)) ?_
  refine s_nw0 h rfl rfl rfl (by decide) (fun _ => rfl) (by decide) fun w h => ?_
  replace h : Mst b 31 [(29, 0), (20, 0), (19, 4), (0, 5)] iE0 (iR0 b) w := h
  refine s_S (i := 29) h (by first | rfl | (simp only [adr]; omega)) (by decide) rfl rfl rfl ?_
  refine s_pS (i := 29) (ex2 := [(20, 0), (19, 4), (0, 5)]) h (by first | rfl | (simp only [adr]; omega)) (by decide) rfl rfl (by decide) fun w h => ?_
  replace h : Mst b 31 [(20, 0), (19, 4), (0, 5)] iE0 (iR0 b) w := h
  exact ⟨_, rfl, h⟩
set_option maxRecDepth 100000 in
theorem i_X3_init_32 {b : Nat} {w : Mm} (h : Mst b 32 [(31, 0), (20, 0), (19, 5), (0, 5)] iE0 (iR0 b) w) : ∃ w', f_X3_init b 5 w = some w' ∧ Mst b 33 [(20, 0), (19, 5), (0, 5)] iE0 (iR0 b) w' := by
  unfold f_X3_init
  refine s_A h (by first | rfl | (simp only [adr]; omega)) ?_
  refine s_nw0 h rfl rfl rfl (by decide) (fun _ => rfl) (by decide) fun w h => ?_
  replace h : Mst b 33 [(31, 0), (20, 0), (19, 5), (0, 5)] iE0 (iR0 b) w := h
  refine s_S (i := 31) h (by first | rfl | (simp only [adr]; omega)) (by decide) rfl rfl rfl ?_
  refine s_pS (i := 31) (ex2 := [(20, 0), (19, 5), (0, 5)]) h (by first | rfl | (simp only [adr]; omega)) (by decide) rfl rfl (by decide) fun w h => ?_
  replace h : Mst b 33 [(20, 0), (19, 5), (0, 5)] iE0 (iR0 b) w := h
  exact ⟨_, rfl, h⟩
set_option maxRecDepth 100000 in
theorem i_X3_init_34 {b : Nat} {w : Mm} (h : Mst b 34 [(33, 0), (20, 0), (19, 6), (0, 5)] iE0 (iR0 b) w) : ∃ w', f_X3_init b 6 w = some w' ∧ Mst b 35 [(20, 0), (19, 6), (0, 5)] iE0 (iR0 b) w' := by
  unfold f_X3_init
  refine s_A h (by first | rfl | (simp only [adr]; omega)) ?_
  refine s_nw0 h rfl rfl rfl (by decide) (fun _ => rfl) (by decide) fun w h => ?_
  replace h : Mst b 35 [(33, 0), (20, 0), (19, 6), (0, 5)] iE0 (iR0 b) w := h
  refine s_S (i := 33) h (by first | rfl | (simp only [adr]; omega)) (by decide) rfl rfl rfl ?_
  refine s_pS (i := 33) (ex2 := [(20, 0), (19, 6), (0, 5)]) h (by first | rfl | (simp only [adr]; omega)) (by decide) rfl rfl (by decide) fun w h => ?_
  replace h : Mst b 35 [(20, 0), (19, 6), (0, 5)] iE0 (iR0 b) w := h
  exact ⟨_, rfl, h⟩
set_option maxRecDepth 100000 in
theorem i_X3_init_36 {b : Nat} {w : Mm} (h : Mst b 36 [(35, 0), (20, 0), (19, 7), (0, 5)] iE0 (iR0 b) w) : ∃ w', f_X3_init b 7 w = some w' ∧ Mst b 37 [(20, 0), (19, 7), (0, 5)] iE0 (iR0 b) w' := by
  unfold f_X3_init
  refine s_A h (by first | rfl | (simp only [adr]; omega)) ?_
  refine s_nw0 h rfl rfl rfl (by decide) (fun _ => rfl) (by decide) fun w h => ?_
  replace h : Mst b 37 [(35, 0), (20, 0), (19, 7), (0, 5)] iE0 (iR0 b) w := h
  refine s_S (i := 35) h (by first | rfl | (simp only [adr]; omega)) (by decide) rfl rfl rfl ?_
  refine s_pS (i := 35) (ex2 := [(20, 0), (19, 7), (0, 5)]) h (by first | rfl | (simp only [adr]; omega)) (by decide) rfl rfl (by decide) fun w h => ?_
  replace h : Mst b 37 [(20, 0), (19, 7), (0, 5)] iE0 (iR0 b) w := h
  exact ⟨_, rfl, h⟩
set_option maxRecDepth 100000 in
theorem i_X9_init_38 {b : Nat} {w : Mm} (h : Mst b 38 [(20, 0), (0, 5)] iE0 (iR0 b) w) : ∃ w', f_X9_init b 0 w = some w' ∧ Mst b 38 [(20, 0), (0, 5)] iE0 (iR0 b) w' := by
  unfold f_X9_init
  exact ⟨_, rfl, h⟩
set_option maxRecDepth 100000 in
theorem i_X9_init_39 {b : Nat} {w : Mm} (h : Mst b 39 [(20, 1), (0, 5)] iE0 (iR0 b) w) : ∃ w', f_X9_init b 1 w = some w' ∧ Mst b 39 [(20, 1), (0, 5)] iE0 (iR0 b) w' := by
  unfold f_X9_init
  exact ⟨_, rfl, h⟩
set_option maxRecDepth 100000 in
theorem i_X9_init_40 {b : Nat} {w : Mm} (h : Mst b 40 [(20, 2), (0, 5)] iE0 (iR0 b) w) : ∃ w', f_X9_init b 2 w = some w' ∧ Mst b 40 [(20, 2), (0, 5)] iE0 (iR0 b) w' := by
  unfold f_X9_init
  exact ⟨_, rfl, h⟩
set_option maxRecDepth 100000 in
theorem i_X9_init_41 {b : Nat} {w : Mm} (h : Mst b 41 [(20, 3), (0, 5)] iE0 (iR0 b) w) : ∃ w', f_X9_init b 3 w = some w' ∧ Mst b 41 [(20, 3), (0, 5)] iE0 (iR0 b) w' := by
  unfold f_X9_init
  exact ⟨_, rfl, h⟩
set_option maxRecDepth 100000 in
theorem i_X9_init_42 {b : Nat} {w : Mm} (h : Mst b 42 [(20, 4), (0, 5)] iE0 (iR0 b) w) : ∃ w', f_X9_init b 4 w = some w' ∧ Mst b 42 [(20, 4), (0, 5)] iE0 (iR0 b) w' := by
  unfold f_X9_init
  exact ⟨_, rfl, h⟩
set_option maxRecDepth 100000 in
theorem i_X9_init_43 {b : Nat} {w : Mm} (h : Mst b 43 [(20, 5), (0, 5)] iE0 (iR0 b) w) : ∃ w', f_X9_init b 5 w = some w' ∧ Mst b 43 [(20, 5), (0, 5)] iE0 (iR0 b) w' := by
  unfold f_X9_init
  exact ⟨_, rfl, h⟩
set_option maxRecDepth 100000 in
theorem i_X9_init_44 {b : Nat} {w : Mm} (h : Mst b 44 [(20, 6), (0, 5)] iE0 (iR0 b) w) : ∃ w', f_X9_init b 6 w = some w' ∧ Mst b 44 [(20, 6), (0, 5)] iE0 (iR0 b) w' := by
  unfold f_X9_init
  exact ⟨_, rfl, h⟩
set_option maxRecDepth 100000 in
theorem i_X9_init_45 {b : Nat} {w : Mm} (h : Mst b 45 [(20, 7), (0, 5)] iE0 (iR0 b) w) : ∃ w', f_X9_init b 7 w = some w' ∧ Mst b 45 [(20, 7), (0, 5)] iE0 (iR0 b) w' := by
  unfold f_X9_init
  exact ⟨_, rfl, h⟩
set_option maxRecDepth 100000 in
theorem i_X1_init_19 {b : Nat} {w : Mm} (h : Mst b 19 [(18, 0), (0, 5)] iE0 (iR0 b) w) : ∃ w', f_X1_init b 0 w = some w' ∧ Mst b 45 [(0, 5)] iE0 (iR0 b) w' := by
  unfold f_X1_init
  refine s_A h (by first | rfl | (simp only [adr]; omega)) ?_
  refine s_nw h rfl rfl (by decide) (fun _ => rfl) (by decide) fun w h => ?_
  replace h : Mst b 20 [(19, 0), (18, 0), (0, 5)] iE0 (iR0 b) w := h
  refine s_S (i := 18) h (by first | rfl | (simp only [adr]; omega)) (by decide) rfl rfl rfl ?_
  refine s_pS (i := 18) (ex2 := [(19, 0), (18, 1), (0, 5)]) h (by first | rfl | (simp only [adr]; omega)) (by decide) rfl rfl (by decide) fun w h => ?_
  replace h : Mst b 20 [(19, 0), (18, 1), (0, 5)] iE0 (iR0 b) w := h
  refine s_A h (by first | rfl | (simp only [adr]; omega)) ?_
  refine s_nw h rfl rfl (by decide) (fun _ => rfl) (by decide) fun w h => ?_
  replace h : Mst b 21 [(20, 0), (19, 0), (18, 1), (0, 5)] iE0 (iR0 b) w := h
  refine s_S (i := 18) h (by first | rfl | (simp only [adr]; omega)) (by decide) rfl rfl rfl ?_
  refine s_pS (i := 18) (ex2 := [(20, 0), (19, 0), (0, 5)]) h (by first | rfl | (simp only [adr]; omega)) (by decide) rfl rfl (by decide) fun w h => ?_
  replace h : Mst b 21 [(20, 0), (19, 0), (0, 5)] iE0 (iR0 b) w := h
  refine s_S (i := 18) h (by first | rfl | (simp only [adr]; omega)) (by decide) rfl rfl rfl ?_
  refine s_S (i := 19) h (by first | rfl | (simp only [adr]; omega)) (by decide) rfl rfl rfl ?_
  refine s_S (i := 18) h (by first | rfl | (simp only [adr]; omega)) (by decide) rfl rfl rfl ?_
  refine s_A h (by first | rfl | (simp only [adr]; omega)) ?_
  refine s_nw h rfl rfl (by decide) (fun _ => rfl) (by decide) fun w h => ?_
  replace h : Mst b 22 [(21, 0), (20, 0), (19, 0), (0, 5)] iE0 (iR0 b) w := h
  refine s_bd0 (i_X3_init_22 h) fun w h => ?_
  refine s_gd (by decide) ?_
  refine s_S (i := 19) h (by first | rfl | (simp only [adr]; omega)) (by decide) rfl rfl rfl ?_
  refine s_S (i := 21) h (by first | rfl | (simp only [adr]; omega)) (by decide) rfl rfl rfl ?_
  refine s_pS (i := 19) (ex2 := [(20, 0), (19, 1), (0, 5)]) h (by first | rfl | (simp only [adr]; omega)) (by decide) rfl rfl (by decide) fun w h => ?_
  replace h : Mst b 23 [(20, 0), (19, 1), (0, 5)] iE0 (iR0 b) w := h
  refine s_S (i := 18) h (by first | rfl | (simp only [adr]; omega)) (by decide) rfl rfl rfl ?_
  refine s_S (i := 19) h (by first | rfl | (simp only [adr]; omega)) (by decide) rfl rfl rfl ?_
  refine s_S (i := 18) h (by first | rfl | (simp only [adr]; omega)) (by decide) rfl rfl rfl ?_
  refine s_A h (by first | rfl | (simp only [adr]; omega)) ?_
  refine s_nw h rfl rfl (by decide) (fun _ => rfl) (by decide) fun w h => ?_
  replace h : Mst b 24 [(23, 0), (20, 0), (19, 1), (0, 5)] iE0 (iR0 b) w := h
  refine s_bd0 (i_X3_init_24 h) fun w h => ?_
  refine s_gd (by decide) ?_
  refine s_S (i := 19) h (by first | rfl | (simp only [adr]; omega)) (by decide) rfl rfl rfl ?_
  refine s_S (i := 23) h (by first | rfl | (simp only [adr]; omega)) (by decide) rfl rfl rfl ?_
  refine s_pS (i := 19) (ex2 := [(20, 0), (19, 2), (0, 5)]) h (by first | rfl | (simp only [adr]; omega)) (by decide) rfl rfl (by decide) fun w h => ?_
  replace h : Mst b 25 [(20, 0), (19, 2), (0, 5)] iE0 (iR0 b) w := h
  refine s_S (i := 18) h (by first | rfl | (simp only [adr]; omega)) (by decide) rfl rfl rfl ?_
  refine s_S (i := 19) h (by first | rfl | (simp only [adr]; omega)) (by decide) rfl rfl rfl ?_
  refine s_S (i := 18) h (by first | rfl | (simp only [adr]; omega)) (by decide) rfl rfl rfl ?_
  refine s_A h (by first | rfl | (simp only [adr]; omega)) ?_
  refine s_nw h rfl rfl (by decide) (fun _ => rfl) (by decide) fun w h => ?_
  replace h : Mst b 26 [(25, 0), (20, 0), (19, 2), (0, 5)] iE0 (iR0 b) w := h
  refine s_bd0 (i_X3_init_26 h) fun w h => ?_
  refine s_gd (by decide) ?_
  refine s_S (i := 19) h (by first | rfl | (simp only [adr]; omega)) (by decide) rfl rfl rfl ?_
  refine s_S (i := 25) h (by first | rfl | (simp only [adr]; omega)) (by decide) rfl rfl rfl ?_
  refine s_pS (i := 19) (ex2 := [(20, 0), (19, 3), (0, 5)]) h (by first | rfl | (simp only [adr]; omega)) (by decide) rfl rfl (by decide) fun w h => ?_
  replace h : Mst b 27 [(20, 0), (19, 3), (0, 5)] iE0 (iR0 b) w := h
  refine s_S (i := 18) h (by first | rfl | (simp only [adr]; omega)) (by decide) rfl rfl rfl ?_
  refine s_S (i := 19) h (by first | rfl | (simp only [adr]; omega)) (by decide) rfl rfl rfl ?_
  refine s_S (i := 18) h (by first | rfl | (simp only [adr]; omega)) (by decide) rfl rfl rfl ?_
  refine s_A h (by first | rfl | (simp only [adr]; omega)) ?_
  refine s_nw h rfl rfl (by decide) (fun _ => rfl) (by decide) fun w h => ?_
  replace h : Mst b 28 [(27, 0), (20, 0), (19, 3), (0, 5)] iE0 (iR0 b) w := h
  refine s_bd0 (i_X3_init_28 h) fun w h => ?_
  refine s_gd (by decide) ?_
  refine s_S (i := 19) h (by first | rfl | (simp only [adr]; omega)) (by decide) rfl rfl rfl ?_
  refine s_S (i := 27) h (by first | rfl | (simp only [adr]; omega)) (by decide) rfl rfl rfl ?_
  refine s_pS (i := 19) (ex2 := [(20, 0), (19, 4), (0, 5)]) h (by first | rfl | (simp only [adr]; omega)) (by decide) rfl rfl (by decide) fun w h => ?_
  replace h : Mst b 29 [(20, 0), (19, 4), (0, 5)] iE0 (iR0 b) w := h
  refine s_S (i := 18) h (by first | rfl | (simp only [adr]; omega)) (by decide) rfl rfl rfl ?_
  refine s_S (i := 19) h (by first | rfl | (simp only [adr]; omega)) (by decide) rfl rfl rfl ?_
  refine s_S (i := 18) h (by first | rfl | (simp only [adr]; omega)) (by decide) rfl rfl rfl ?_
  refine s_A h (by first | rfl | (simp only [adr]; omega)) ?_
  refine s_nw h rfl rfl (by decide) (fun _ => rfl) (by decide) fun w h => ?_
  replace h : Mst b 30 [(29, 0), (20, 0), (19, 4), (0, 5)] iE0 (iR0 b) w := h
  refine s_bd0 (i_X3_init_30 h) fun w h => ?_
  refine s_gd (by decide) ?_
  refine s_S (i := 19) h (by first | rfl | (simp only [adr]; omega)) (by decide) rfl rfl rfl ?_
  refine s_S (i := 29) h (by first | rfl | (simp only [adr]; omega)) (by decide) rfl rfl rfl ?_
  refine s_pS (i := 19) (ex2 := [(20, 0), (19, 5), (0, 5)]) h (by first | rfl | (simp only [adr]; omega)) (by decide) rfl rfl (by decide) fun w h => ?_
  replace h : Mst b 31 [(20, 0), (19, 5), (0, 5)] iE0 (iR0 b) w := h
  refine s_S (i := 18) h (by first | rfl | (simp only [adr]; omega)) (by decide) rfl rfl rfl ?_
  refine s_S (i := 19) h (by first | rfl | (simp only [adr]; omega)) (by decide) rfl rfl rfl ?_
  refine s_S (i := 18) h (by first | rfl | (simp only [adr]; omega)) (by decide) rfl rfl rfl ?_
  refine s_A h (by first | rfl | (simp only [adr]; omega)) ?_
  refine s_nw h rfl rfl (by decide) (fun _ => rfl) (by decide) fun w h => ?_
  replace h : Mst b 32 [(31, 0), (20, 0), (19, 5), (0, 5)] iE0 (iR0 b) w := h
  refine s_bd0 (i_X3_init_32 h) fun w h => ?_
  refine s_gd (by decide) ?_
  refine s_S (i := 19) h (by first | rfl | (simp only [adr]; omega)) (by decide) rfl rfl rfl ?_
  refine s_S (i := 31) h (by first | rfl | (simp only [adr]; omega)) (by decide) rfl rfl rfl ?_
  refine s_pS (i := 19) (ex2 := [(20, 0), (19, 6), (0, 5)]) h (by first | rfl | (simp only [adr]; omega)) (by decide) rfl rfl (by decide) fun w h => ?_
  replace h : Mst b 33 [(20, 0), (19, 6), (0, 5)] iE0 (iR0 b) w := h
  refine s_S (i := 18) h (by first | rfl | (simp only [adr]; omega)) (by decide) rfl rfl rfl ?_
  refine s_S (i := 19) h (by first | rfl | (simp only [adr]; omega)) (by decide) rfl rfl rfl ?_
  refine s_S (i := 18) h (by first | rfl | (simp only [adr]; omega)) (by decide) rfl rfl rfl ?_
  refine s_A h (by first | rfl | (simp only [adr]; omega)) ?_
  refine s_nw h rfl rfl (by decide) (fun _ => rfl) (by decide) fun w h => ?_
  replace h : Mst b 34 [(33, 0), (20, 0), (19, 6), (0, 5)] iE0 (iR0 b) w := h
  refine s_bd0 (i_X3_init_34 h) fun w h => ?_
  refine s_gd (by decide) ?_
  refine s_S (i := 19) h (by first | rfl | (simp only [adr]; omega)) (by decide) rfl rfl rfl ?_
  refine s_S (i := 33) h (by first | rfl | (simp only [adr]; omega)) (by decide) rfl rfl rfl ?_
  refine s_pS (i := 19) (ex2 := [(20, 0), (19, 7), (0, 5)]) h (by first | rfl | (simp only [adr]; omega)) (by decide) rfl rfl (by decide) fun w h => ?_
  replace h : Mst b 35 [(20, 0), (19, 7), (0, 5)] iE0 (iR0 b) w := h
  refine s_S (i := 18) h (by first | rfl | (simp only [adr]; omega)) (by decide) rfl rfl rfl ?_
  refine s_S (i := 19) h (by first | rfl | (simp only [adr]; omega)) (by decide) rfl rfl rfl ?_
  refine s_S (i := 18) h (by first | rfl | (simp only [adr]; omega)) (by decide) rfl rfl rfl ?_
  refine s_A h (by first | rfl | (simp only [adr]; omega)) ?_
  refine s_nw h rfl rfl (by decide) (fun _ => rfl) (by decide) fun w h => ?_
  replace h : Mst b 36 [(35, 0), (20, 0), (19, 7), (0, 5)] iE0 (iR0 b) w := h
  refine s_bd0 (i_X3_init_36 h) fun w h => ?_
  refine s_gd (by decide) ?_
  refine s_S (i := 19) h (by first | rfl | (simp only [adr]; omega)) (by decide) rfl rfl rfl ?_
  refine s_S (i := 35) h (by first | rfl | (simp only [adr]; omega)) (by decide) rfl rfl rfl ?_
  refine s_pS (i := 19) (ex2 := [(20, 0), (0, 5)]) h (by first | rfl | (simp only [adr]; omega)) (by decide) rfl rfl (by decide) fun w h => ?_
  replace h : Mst b 37 [(20, 0), (0, 5)] iE0 (iR0 b) w := h
  refine s_S (i := 18) h (by first | rfl | (simp only [adr]; omega)) (by decide) rfl rfl rfl ?_
  refine s_S (i := 19) h (by first | rfl | (simp only [adr]; omega)) (by decide) rfl rfl rfl ?_
  refine s_S (i := 18) h (by first | rfl | (simp only [adr]; omega)) (by decide) rfl rfl rfl ?_
  refine s_S (i := 20) h (by first | rfl | (simp only [adr]; omega)) (by decide) rfl rfl rfl ?_
  refine s_S (i := 18) h (by first | rfl | (simp only [adr]; omega)) (by decide) rfl rfl rfl ?_
  refine s_A h (by first | rfl | (simp only [adr]; omega)) ?_
  refine s_nw0 h rfl rfl rfl (by decide) (fun _ => rfl) (by decide) fun w h => ?_
  replace h : Mst b 38 [(20, 0), (0, 5)] iE0 (iR0 b) w := h
  refine s_bd0 (i_X9_init_38 h) fun w h => ?_
  refine s_gd (by decide) ?_
  refine s_S (i := 20) h (by first | rfl | (simp only [adr]; omega)) (by decide) rfl rfl rfl ?_
  refine s_S (i := 37) h (by first | rfl | (simp only [adr]; omega)) (by decide) rfl rfl rfl ?_
  refine s_pS (i := 20) (ex2 := [(20, 1), (0, 5)]) h (by first | rfl | (simp only [adr]; omega)) (by decide) rfl rfl (by decide) fun w h => ?_
  replace h : Mst b 38 [(20, 1), (0, 5)] iE0 (iR0 b) w := h
  refine s_S (i := 18) h (by first | rfl | (simp only [adr]; omega)) (by decide) rfl rfl rfl ?_
  refine s_S (i := 20) h (by first | rfl | (simp only [adr]; omega)) (by decide) rfl rfl rfl ?_
  refine s_S (i := 18) h (by first | rfl | (simp only [adr]; omega)) (by decide) rfl rfl rfl ?_
  refine s_A h (by first | rfl | (simp only [adr]; omega)) ?_
  refine s_nw0 h rfl rfl rfl (by decide) (fun _ => rfl) (by decide) fun w h => ?_
  replace h : Mst b 39 [(20, 1), (0, 5)] iE0 (iR0 b) w := h
  refine s_bd0 (i_X9_init_39 h) fun w h => ?_
  refine s_gd (by decide) ?_
  refine s_S (i := 20) h (by first | rfl | (simp only [adr]; omega)) (by decide) rfl rfl rfl ?_
  refine s_S (i := 38) h (by first | rfl | (simp only [adr]; omega)) (by decide) rfl rfl rfl ?_
  refine s_pS (i := 20) (ex2 := [(20, 2), (0, 5)]) h (by first | rfl | (simp only [adr]; omega)) (by decide) rfl rfl (by decide) fun w h => ?_
  replace h : Mst b 39 [(20, 2), (0, 5)] iE0 (iR0 b) w := h
  refine s_S (i := 18) h (by first | rfl | (simp only [adr]; omega)) (by decide) rfl rfl rfl ?_
  refine s_S (i := 20) h (by first | rfl | (simp only [adr]; omega)) (by decide) rfl rfl rfl ?_
  refine s_S (i := 18) h (by first | rfl | (simp only [adr]; omega)) (by decide) rfl rfl rfl ?_
  refine s_A h (by first | rfl | (simp only [adr]; omega)) ?_
  refine s_nw0 h rfl rfl rfl (by decide) (fun _ => rfl) (by decide) fun w h => ?_
  replace h : Mst b 40 [(20, 2), (0, 5)] iE0 (iR0 b) w := h
  refine s_bd0 (i_X9_init_40 h) fun w h => ?_
  refine s_gd (by decide) ?_
  refine s_S (i := 20) h (by first | rfl | (simp only [adr]; omega)) (by decide) rfl rfl rfl ?_
  refine s_S (i := 39) h (by first | rfl | (simp only [adr]; omega)) (by decide) rfl rfl rfl ?_
  refine s_pS (i := 20) (ex2 := [(20, 3), (0, 5)]) h (by first | rfl | (simp only [adr]; omega)) (by decide) rfl rfl (by decide) fun w h => ?_
  replace h : Mst b 40 [(20, 3), (0, 5)] iE0 (iR0 b) w := h
  refine s_S (i := 18) h (by first | rfl | (simp only [adr]; omega)) (by decide) rfl rfl rfl ?_
  refine s_S (i := 20) h (by first | rfl | (simp only [adr]; omega)) (by decide) rfl rfl rfl ?_
  refine s_S (i := 18) h (by first | rfl | (simp only [adr]; omega)) (by decide) rfl rfl rfl ?_
  refine s_A h (by first | rfl | (simp only [adr]; omega)) ?_
  refine s_nw0 h rfl rfl rfl (by decide) (fun _ => rfl) (by decide) fun w h => ?_
  replace h : Mst b 41 [(20, 3), (0, 5)] iE0 (iR0 b) w := h
  refine s_bd0 (i_X9_init_41 h) fun w h => ?_
  refine s_gd (by decide) ?_
  refine s_S (i := 20) h (by first | rfl | (simp only [adr]; omega)) (by decide) rfl rfl rfl ?_
  refine s_S (i := 40) h (by first | rfl | (simp only [adr]; omega)) (by decide) rfl rfl rfl ?_
  refine s_pS (i := 20) (ex2 := [(20, 4), (0, 5)]) h (by first | rfl | (simp only [adr]; omega)) (by decide) rfl rfl (by decide) fun w h => ?_
  replace h : Mst b 41 [(20, 4), (0, 5)] iE0 (iR0 b) w := h
  refine s_S (i := 18) h (by first | rfl | (simp only [adr]; omega)) (by decide) rfl rfl rfl ?_
  refine s_S (i := 20) h (by first | rfl | (simp only [adr]; omega)) (by decide) rfl rfl rfl ?_
  refine s_S (i := 18) h (by first | rfl | (simp only [adr]; omega)) (by decide) rfl rfl rfl ?_
  refine s_A h (by first | rfl | (simp only [adr]; omega)) ?_
  refine s_nw0 h rfl rfl rfl (by decide) (fun _ => rfl) (by decide) fun w h => ?_
  replace h : Mst b 42 [(20, 4), (0, 5)] iE0 (iR0 b) w := h
  refine s_bd0 (i_X9_init_42 h) fun w h => ?_
  refine s_gd (by decide) ?_
  refine s_S (i := 20) h (by first | rfl | (simp only [adr]; omega)) (by decide) rfl rfl rfl ?_
  refine s_S (i := 41) h (by first | rfl | (simp only [adr]; omega)) (by decide) rfl rfl rfl ?_
  refine s_pS (i := 20) (ex2 := [(20, 5), (0, 5)]) h (by first | rfl | (simp only [adr]; omega)) (by decide) rfl rfl (by decide) fun w h => ?_
  replace h : Mst b 42 [(20, 5), (0, 5)] iE0 (iR0 b) w := h
  refine s_S (i := 18) h (by first | rfl | (simp only [adr]; omega)) (by decide) rfl rfl rfl ?_
  refine s_S (i := 20) h (by first | rfl | (simp only [adr]; omega)) (by decide) rfl rfl rfl ?_
  refine s_S (i := 18) h (by first | rfl | (simp only [adr]; omega)) (by decide) rfl rfl rfl ?_
  refine s_A h (by first | rfl | (simp only [adr]; omega)) ?_
  refine s_nw0 h rfl rfl rfl (by decide) (fun _ => rfl) (by decide) fun w h => ?_
  replace h : Mst b 43 [(20, 5), (0, 5)] iE0 (iR0 b) w := h
  refine s_bd0 (i_X9_init_43 h) fun w h => ?_
  refine s_gd (by decide) ?_
  refine s_S (i := 20) h (by first | rfl | (simp only [adr]; omega)) (by decide) rfl rfl rfl ?_
  refine s_S (i := 42) h (by first | rfl | (simp only [adr]; omega)) (by decide) rfl rfl rfl ?_
  refine s_pS (i := 20) (ex2 := [(20, 6), (0, 5)]) h (by first | rfl | (simp only [adr]; omega)) (by decide) rfl rfl (by decide) fun w h => ?_
  replace h : Mst b 43 [(20, 6), (0, 5)] iE0 (iR0 b) w := h
  refine s_S (i := 18) h (by first | rfl | (simp only [adr]; omega)) (by decide) rfl rfl rfl ?_
  refine s_S (i := 20) h (by first | rfl | (simp only [adr]; omega)) (by decide) rfl rfl rfl ?_
  refine s_S (i := 18) h (by first | rfl | (simp only [adr]; omega)) (by decide) rfl rfl rfl ?_
  refine s_A h (by first | rfl | (simp only [adr]; omega)) ?_
  refine s_nw0 h rfl rfl rfl (by decide) (fun _ => rfl) (by decide) fun w h => ?_
  replace h : Mst b 44 [(20, 6), (0, 5)] iE0 (iR0 b) w := h
  refine s_bd0 (i_X9_init_44 h) fun w h => ?_
  refine s_gd (by decide) ?_
  refine s_S (i := 20) h (by first | rfl | (simp only [adr]; omega)) (by decide) rfl rfl rfl ?_
  refine s_S (i := 43) h (by first | rfl | (simp only [adr]; omega)) (by decide) rfl rfl rfl ?_
  refine s_pS (i := 20) (ex2 := [(20, 7), (0, 5)]) h (by first | rfl | (simp only [adr]; omega)) (by decide) rfl rfl (by decide) fun w h => ?_
  replace h : Mst b 44 [(20, 7), (0, 5)] iE0 (iR0 b) w := h
  refine s_S (i := 18) h (by first | rfl | (simp only [adr]; omega)) (by decide) rfl rfl rfl ?_
  refine s_S (i := 20) h (by first | rfl | (simp only [adr]; omega)) (by decide) rfl rfl rfl ?_
  refine s_S (i := 18) h (by first | rfl | (simp only [adr]; omega)) (by decide) rfl rfl rfl ?_
  refine s_A h (by first | rfl | (simp only [adr]; omega)) ?_
  refine s_nw0 h rfl rfl rfl (by decide) (fun _ => rfl) (by decide) fun w h => ?_
  replace h : Mst b 45 [(20, 7), (0, 5)] iE0 (iR0 b) w := h
  refine s_bd0 (i_X9_init_45 h) fun w h => ?_
  refine s_gd (by decide) ?_
  refine s_S (i := 20) h (by first | rfl | (simp only [adr]; omega)) (by decide) rfl rfl rfl ?_
  refine s_S (i := 44) h (by first | rfl | (simp only [adr]; omega)) (by decide) rfl rfl rfl ?_
  refine s_pS (i := 20) (ex2 := [(0, 5)]) h (by first | rfl | (simp only [adr]; omega)) (by decide) rfl rfl (by decide) fun w h => ?_
  replace h : Mst b 45 [(0, 5)] iE0 (iR0 b) w := h
  refine s_S (i := 18) h (by first | rfl | (simp only [adr]; omega)) (by decide) rfl rfl rfl ?_
  refine s_S (i := 20) h (by first | rfl | (simp only [adr]; omega)) (by decide) rfl rfl rfl ?_
  exact ⟨_, rfl, h⟩
set_option maxRecDepth 100000 in
theorem i_X3_init_49 {b : Nat} {w : Mm} (h : Mst b 49 [(48, 0), (47, 0), (46, 0), (0, 6)] iE0 (iR0 b) w) : ∃ w', f_X3_init b 8 w = some w' ∧ Mst b 50 [(47, 0), (46, 0), (0, 6)] iE0 (iR0 b) w' := by
  unfold f_X3_init
  refine s_A h (by first | rfl | (simp only [adr]; omega)) ?_
  refine s_nw0 h rfl rfl rfl (by decide) (fun _ => rfl) (by decide) fun w h => ?_
  replace h : Mst b 50 [(48, 0), (47, 0), (46, 0), (0, 6)] iE0 (iR0 b) w := h
  refine s_S (i := 48) h (by first | rfl | (simp only [adr]; omega)) (by decide) rfl rfl rfl ?_
  refine s_pS (i := 48) (ex2 := [(47, 0), (46, 0), (0, 6)]) h (by first | rfl | (simp only [adr]; omega)) (by decide) rfl rfl (by decide) fun w h => ?_
  replace h : Mst b 50 [(47, 0), (46, 0), (0, 6)] iE0 (iR0 b) w := h
  exact ⟨_, rfl, h⟩
set_option maxRecDepth 100000 in
theorem i_X3_init_51 {b : Nat} {w : Mm} (h : Mst b 51 [(50, 0), (47, 0), (46, 1), (0, 6)] iE0 (iR0 b) w) : ∃ w', f_X3_init b 9 w = some w' ∧ Mst b 52 [(47, 0), (46, 1), (0, 6)] iE0 (iR0 b) w' := by
  unfold f_X3_init
  refine s_A h (by first | rfl | (simp only [adr]; omega)) ?_
  refine s_nw0 h rfl rfl rfl (by decide) (fun _ => rfl) (by decide) fun w h => ?_
  replace h : Mst b 52 [(50, 0), (47, 0), (46, 1), (0, 6)] iE0 (iR0 b) w := h
  refine s_S (i := 50) h (by first | rfl | (simp only [adr]; omega)) (by decide) rfl rfl rfl ?_
  refine s_pS (i := 50) (ex2 := [(47, 0), (46, 1), (0, 6)]) h (by first | rfl | (simp only [adr]; omega)) (by decide) rfl rfl (by decide) fun w h => ?_
  replace h : Mst b 52 [(47, 0), (46, 1), (0, 6)] iE0 (iR0 b) w := h
  exact ⟨_, rfl, h⟩
set_option maxRecDepth 100000 in
theorem i_X3_init_53 {b : Nat} {w : Mm} (h : Mst b 53 [(52, 0), (47, 0), (46, 2), (0, 6)] iE0 (iR0 b) w) : ∃ w', f_X3_init b 10 w = some w' ∧ Mst b 54 [(47, 0), (46, 2), (0, 6)] iE0 (iR0 b) w' := by
  unfold f_X3_init
  refine s_A h (by first | rfl | (simp only [adr]; omega)) ?_
  refine s_nw0 h rfl rfl rfl (by decide) (fun _ => rfl) (by decide) fun w h => ?_
  replace h : Mst b 54 [(52, 0), (47, 0), (46, 2), (0, 6)] iE0 (iR0 b) w := h
  refine s_S (i := 52) h (by first | rfl | (simp only [adr]; omega)) (by decide) rfl rfl rfl ?_
  refine s_pS (i := 52) (ex2 := [(47, 0), (46, 2), (0, 6)]) h (by first | rfl | (simp only [adr]; omega)) (by decide) rfl rfl (by decide) fun w h => ?_
  replace h : Mst b 54 [(47, 0), (46, 2), (0, 6)] iE0 (iR0 b) w := h
  exact ⟨_, rfl, h⟩
set_option maxRecDepth 100000 in
theorem i_X3_init_55 {b : Nat} {w : Mm} (h : Mst b 55 [(54, 0), (47, 0), (46, 3), (0, 6)] iE0 (iR0 b) w) : ∃ w', f_X3_init b 11 w = some w' ∧ Mst b 56 [(47, 0), (46, 3), (0, 6)] iE0 (iR0 b) w' := by
  unfold f_X3_init
  refine s_A h (by first | rfl | (simp only [adr]; omega)) ?_
  refine s_nw0 h rfl rfl rfl (by decide) (fun _ => rfl) (by decide) fun w h => ?_
  replace h : Mst b 56 [(54, 0), (47, 0), (46, 3), (0, 6)] iE0 (iR0 b) w := h
  refine s_S (i := 54) h (by first | rfl | (simp only [adr]; omega)) (by decide) rfl rfl rfl ?_
  refine s_pS (i := 54) (ex2 := [(47, 0), (46, 3), (0, 6)]) h (by first | rfl | (simp only [adr]; omega)) (by decide) rfl rfl (by decide) fun w h => ?_
  replace h : Mst b 56 [(47, 0), (46, 3), (0, 6)] iE0 (iR0 b) w := h
  exact ⟨_, rfl, h⟩
set_option maxRecDepth 100000 in
theorem i_X3_init_57 {b : Nat} {w : Mm} (h : Mst b 57 [(56, 0), (47, 0), (46, 4), (0, 6)] iE0 (iR0 b) w) : ∃ w', f_X3_init b 12 w = some w' ∧ Mst b 58 [(47, 0), (46, 4), (0, 6)] iE0 (iR0 b) w' := by
  unfold f_X3_init
  refine s_A h (by first | rfl | (simp only [adr]; omega)) ?_
  refine s_nw0 h rfl rfl rfl (by decide) (fun _ => rfl) (by decide) fun w h => ?_
  replace h : Mst b 58 [(56, 0), (47, 0), (46, 4), (0, 6)] iE0 (iR0 b) w := h
  refine s_S (i := 56) h (by first | rfl | (simp only [adr]; omega)) (by decide) rfl rfl rfl ?_
  refine s_pS (i := 56) (ex2 := [(47, 0), (46, 4), (0, 6)]) h (by first | rfl | (simp only [adr]; omega)) (by decide) rfl rfl (by decide) fun w h => ?_
  replace h : Mst b 58 [(47, 0), (46, 4), (0, 6)] iE0 (iR0 b) w := h
  exact ⟨_, rfl, h⟩
set_option maxRecDepth 100000 in
theorem i_X3_init_59 {b : Nat} {w : Mm} (h : Mst b 59 [(58, 0), (47, 0), (46, 5), (0, 6)] iE0 (iR0 b) w) : ∃ w', f_X3_init b 13 w = some w' ∧ Mst b 60 [(47, 0), (46, 5), (0, 6)] iE0 (iR0 b) w' := by
  unfold f_X3_init
  refine s_A h (by first | rfl | (simp only [adr]; omega)) ?_
  refine s_nw0 h rfl rfl rfl (by decide) (fun _ => rfl) (by decide) fun w h => ?_
  replace h : Mst b 60 [(58, 0), (47, 0), (46, 5), (0, 6)] iE0 (iR0 b) w := h
  refine s_S (i := 58) h (by first | rfl | (simp only [adr]; omega)) (by decide) rfl rfl rfl ?_
  refine s_pS (i := 58) (ex2 := [(47, 0), (46, 5), (0, 6)]) h (by first | rfl | (simp only [adr]; omega)) (by decide) rfl rfl (by decide) fun w h => ?_
  replace h : Mst b 60 [(47, 0), (46, 5), (0, 6)] iE0 (iR0 b) w := h
  exact ⟨_, rfl, h⟩
set_option maxRecDepth 100000 in
theorem i_X3_init_61 {b : Nat} {w : Mm} (h : Mst b 61 [(60, 0), (47, 0), (46, 6), (0, 6)] iE0 (iR0 b) w) : ∃ w', f_X3_init b 14 w = some w' ∧ Mst b 62 [(47, 0), (46, 6), (0, 6)] iE0 (iR0 b) w' := by
  unfold f_X3_init
  refine s_A h (by first | rfl | (simp only [adr]; omega)) ?_
  refine s_nw0 h rfl rfl rfl (by decide) (fun _ => rfl) (by decide) fun w h => ?_
  replace h : Mst b 62 [(60, 0), (47, 0), (46, 6), (0, 6)] iE0 (iR0 b) w := h
  refine s_S (i := 60) h (by first | rfl | (simp only [adr]; omega)) (by decide) rfl rfl rfl ?_
  refine s_pS (i := 60) (ex2 := [(47, 0), (46, 6), (0, 6)]) h (by first | rfl | (simp only [adr]; omega)) (by decide) rfl rfl (by decide) fun w h => ?_
  replace h : Mst b 62 [(47, 0), (46, 6), (0, 6)] iE0 (iR0 b) w := h
  exact ⟨_, rfl, h⟩
set_option maxRecDepth 100000 in
theorem i_X3_init_63 {b : Nat} {w : Mm} (h : Mst b 63 [(62, 0), (47, 0), (46, 7), (0, 6)] iE0 (iR0 b) w) : ∃ w', f_X3_init b 15 w = some w' ∧ Mst b 64 [(47, 0), (46, 7), (0, 6)] iE0 (iR0 b) w' := by
  unfold f_X3_init
  refine s_A h (by first | rfl | (simp only [adr]; omega)) ?_
  refine s_nw0 h rfl rfl rfl (by decide) (fun _ => rfl) (by decide) fun w h => ?_
  replace h : Mst b 64 [(62, 0), (47, 0), (46, 7), (0, 6)] iE0 (iR0 b) w := h
  refine s_S (i := 62) h (by first | rfl | (simp only [adr]; omega)) (by decide) rfl rfl rfl ?_
  refine s_pS (i := 62) (ex2 := [(47, 0), (46, 7), (0, 6)]) h (by first | rfl | (simp only [adr]; omega)) (by decide) rfl rfl (by decide) fun w h => ?_
  replace h : Mst b 64 [(47, 0), (46, 7), (0, 6)] iE0 (iR0 b) w := h
  exact ⟨_, rfl, h⟩
set_option maxRecDepth 100000 in
theorem i_X9_init_65 {b : Nat} {w : Mm} (h : Mst b 65 [(47, 0), (0, 6)] iE0 (iR0 b) w) : ∃ w', f_X9_init b 8 w = some w' ∧ Mst b 65 [(47, 0), (0, 6)] iE0 (iR0 b) w' := by
  unfold f_X9_init
  exact ⟨_, rfl, h⟩
set_option maxRecDepth 100000 in
theorem i_X9_init_66 {b : Nat} {w : Mm} (h : Mst b 66 [(47, 1), (0, 6)] iE0 (iR0 b) w) : ∃ w', f_X9_init b 9 w = some w' ∧ Mst b 66 [(47, 1), (0, 6)] iE0 (iR0 b) w' := by
  unfold f_X9_init
  exact ⟨_, rfl, h⟩
set_option maxRecDepth 100000 in
theorem i_X9_init_67 {b : Nat} {w : Mm} (h : Mst b 67 [(47, 2), (0, 6)] iE0 (iR0 b) w) : ∃ w', f_X9_init b 10 w = some w' ∧ Mst b 67 [(47, 2), (0, 6)] iE0 (iR0 b) w' := by
  unfold f_X9_init
  exact ⟨_, rfl, h⟩
set_option maxRecDepth 100000 in
theorem i_X9_init_68 {b : Nat} {w : Mm} (h : Mst b 68 [(47, 3), (0, 6)] iE0 (iR0 b) w) : ∃ w', f_X9_init b 11 w = some w' ∧ Mst b 68 [(47, 3), (0, 6)] iE0 (iR0 b) w' := by
  unfold f_X9_init
  exact ⟨_, rfl, h⟩
set_option maxRecDepth 100000 in
theorem i_X9_init_69 {b : Nat} {w : Mm} (h : Mst b 69 [(47, 4), (0, 6)] iE0 (iR0 b) w) : ∃ w', f_X9_init b 12 w = some w' ∧ Mst b 69 [(47, 4), (0, 6)] iE0 (iR0 b) w' := by
  unfold f_X9_init
  exact ⟨_, rfl, h⟩
set_option maxRecDepth 100000 in
theorem i_X9_init_70 {b : Nat} {w : Mm} (h : Mst b 70 [(47, 5), (0, 6)] iE0 (iR0 b) w) : ∃ w', f_X9_init b 13 w = some w' ∧ Mst b 70 [(47, 5), (0, 6)] iE0 (iR0 b) w' := by
  unfold f_X9_init
  exact ⟨_, rfl, h⟩
set_option maxRecDepth 100000 in
theorem i_X9_init_71 {b : Nat} {w : Mm} (h : Mst b 71 [(47, 6), (0, 6)] iE0 (iR0 b) w) : ∃ w', f_X9_init b 14 w = some w' ∧ Mst b 71 [(47, 6), (0, 6)] iE0 (iR0 b) w' := by
  unfold f_X9_init
  exact ⟨_, rfl, h⟩
set_option maxRecDepth 100000 in
theorem i_X9_init_72 {b : Nat} {w : Mm} (h : Mst b 72 [(47, 7), (0, 6)] iE0 (iR0 b) w) : ∃ w', f_X9_init b 15 w = some w' ∧ Mst b 72 [(47, 7), (0, 6)] iE0 (iR0 b) w' := by
  unfold f_X9_init
  exact ⟨_, rfl, h⟩
set_option maxRecDepth 100000 in
theorem i_X1_init_46 {b : Nat} {w : Mm} (h : Mst b 46 [(45, 0), (0, 6)] iE0 (iR0 b) w) : ∃ w', f_X1_init b 1 w = some w' ∧ Mst b 72 [(0, 6)] iE0 (iR0 b) w' := by
  unfold f_X1_init
  refine s_A h (by first | rfl | (simp only [adr]; omega)) ?_
  refine s_nw h rfl rfl (by decide) (fun _ => rfl) (by decide) fun w h => ?_
  replace h : Mst b 47 [(46, 0), (45, 0), (0, 6)] iE0 (iR0 b) w := h
  refine s_S (i := 45) h (by first | rfl | (simp only [adr]; omega)) (by decide) rfl rfl rfl ?_
  refine s_pS (i := 45) (ex2 := [(46, 0), (45, 1), (0, 6)]) h (by first | rfl | (simp only [adr]; omega)) (by decide) rfl rfl (by decide) fun w h => ?_
  replace h : Mst b 47 [(46, 0), (45, 1), (0, 6)] iE0 (iR0 b) w := h
  refine s_A h (by first | rfl | (simp only [adr]; omega)) ?_
  refine s_nw h rfl rfl (by decide) (fun _ => rfl) (by decide) fun w h => ?_
  replace h : Mst b 48 [(47, 0), (46, 0), (45, 1), (0, 6)] iE0 (iR0 b) w := h
  refine s_S (i := 45) h (by first | rfl | (simp only [adr]; omega)) (by decide) rfl rfl rfl ?_
  refine s_pS (i := 45) (ex2 := [(47, 0), (46, 0), (0, 6)]) h (by first | rfl | (simp only [adr]; omega)) (by decide) rfl rfl (by decide) fun w h => ?_
  replace h : Mst b 48 [(47, 0), (46, 0), (0, 6)] iE0 (iR0 b) w := h
  refine s_S (i := 45) h (by first | rfl | (simp only [adr]; omega)) (by decide) rfl rfl rfl ?_
  refine s_S (i := 46) h (by first | rfl | (simp only [adr]; omega)) (by decide) rfl rfl rfl ?_
  refine s_S (i := 45) h (by first | rfl | (simp only [adr]; omega)) (by decide) rfl rfl rfl ?_
  refine s_A h (by first | rfl | (simp only [adr]; omega)) ?_
  refine s_nw h rfl rfl (by decide) (fun _ => rfl) (by decide) fun w h => ?_
  replace h : Mst b 49 [(48, 0), (47, 0), (46, 0), (0, 6)] iE0 (iR0 b) w := h
  refine s_bd0 (i_X3_init_49 h) fun w h => ?_
  refine s_gd (by decide) ?_
  refine s_S (i := 46) h (by first | rfl | (simp only [adr]; omega)) (by decide) rfl rfl rfl ?_
  refine s_S (i := 48) h (by first | rfl | (simp only [adr]; omega)) (by decide) rfl rfl rfl ?_
  refine s_pS (i := 46) (ex2 := [(47, 0), (46, 1), (0, 6)]) h (by first | rfl | (simp only [adr]; omega)) (by decide) rfl rfl (by decide) fun w h => ?_
  replace h : Mst b 50 [(47, 0), (46, 1), (0, 6)] iE0 (iR0 b) w := h
  refine s_S (i := 45) h (by first | rfl | (simp only [adr]; omega)) (by decide) rfl rfl rfl ?_
  refine s_S (i := 46) h (by first | rfl | (simp only [adr]; omega)) (by decide) rfl rfl rfl ?_
  refine s_S (i := 45) h (by first | rfl | (simp only [adr]; omega)) (by decide) rfl rfl rfl ?_
  refine s_A h (by first | rfl | (simp only [adr]; omega)) ?_
  refine s_nw h rfl rfl (by decide) (fun _ => rfl) (by decide) fun w h => ?_
  replace h : Mst b 51 [(50, 0), (47, 0), (46, 1), (0, 6)] iE0 (iR0 b) w := h
  refine s_bd0 (i_X3_init_51 h) fun w h => ?_
  refine s_gd (by decide) ?_
  refine s_S (i := 46) h (by first | rfl | (simp only [adr]; omega)) (by decide) rfl rfl rfl ?_
  refine s_S (i := 50) h (by first | rfl | (simp only [adr]; omega)) (by decide) rfl rfl rfl ?_
  refine s_pS (i := 46) (ex2 := [(47, 0), (46, 2), (0, 6)]) h (by first | rfl | (simp only [adr]; omega)) (by decide) rfl rfl (by decide) fun w h => ?_
  replace h : Mst b 52 [(47, 0), (46, 2), (0, 6)] iE0 (iR0 b) w := h
  refine s_S (i := 45) h (by first | rfl | (simp only [adr]; omega)) (by decide) rfl rfl rfl ?_
  refine s_S (i := 46) h (by first | rfl | (simp only [adr]; omega)) (by decide) rfl rfl rfl ?_
  refine s_S (i := 45) h (by first | rfl | (simp only [adr]; omega)) (by decide) rfl rfl rfl ?_
  refine s_A h (by first | rfl | (simp only [adr]; omega)) ?_
  refine s_nw h rfl rfl (by decide) (fun _ => rfl) (by decide) fun w h => ?_
  replace h : Mst b 53 [(52, 0), (47, 0), (46, 2), (0, 6)] iE0 (iR0 b) w := h
  refine s_bd0 (i_X3_init_53 h) fun w h => ?_
  refine s_gd (by decide) ?_
  refine s_S (i := 46) h (by first | rfl | (simp only [adr]; omega)) (by decide) rfl rfl rfl ?_
  refine s_S (i := 52) h (by first | rfl | (simp only [adr]; omega)) (by decide) rfl rfl rfl ?_
  refine s_pS (i := 46) (ex2 := [(47, 0), (46, 3), (0, 6)]) h (by first | rfl | (simp only [adr]; omega)) (by decide) rfl rfl (by decide) fun w h => ?_
  replace h : Mst b 54 [(47, 0), (46, 3), (0, 6)] iE0 (iR0 b) w := h
  refine s_S (i := 45) h (by first | rfl | (simp only [adr]; omega)) (by decide) rfl rfl rfl ?_
  refine s_S (i := 46) h (by first | rfl | (simp only [adr]; omega)) (by decide) rfl rfl rfl ?_
  refine s_S (i := 45) h (by first | rfl | (simp only [adr]; omega)) (by decide) rfl rfl rfl ?_
  refine s_A h (by first | rfl | (simp only [adr]; omega)) ?_
  refine s_nw h rfl rfl (by decide) (fun _ => rfl) (by decide) fun w h => ?_
  replace h : Mst b 55 [(54, 0), (47, 0), (46, 3), (0, 6)] iE0 (iR0 b) w := h
  refine s_bd0 (i_X3_init_55 h) fun w h => ?_
  refine s_gd (by decide) ?_
  refine s_S (i := 46) h (by first | rfl | (simp only [adr]; omega)) (by decide) rfl rfl rfl ?_
  refine s_S (i := 54) h (by first | rfl | (simp only [adr]; omega)) (by decide) rfl rfl rfl ?_
  refine s_pS (i := 46) (ex2 := [(47, 0), (46, 4), (0, 6)]) h (by first | rfl | (simp only [adr]; omega)) (by decide) rfl rfl (by decide) fun w h => ?_
  replace h : Mst b 56 [(47, 0), (46, 4), (0, 6)] iE0 (iR0 b) w := h
  refine s_S (i := 45) h (by first | rfl | (simp only [adr]; omega)) (by decide) rfl rfl rfl ?_
  refine s_S (i := 46) h (by first | rfl | (simp only [adr]; omega)) (by decide) rfl rfl rfl ?_
  refine s_S (i := 45) h (by first | rfl | (simp only [adr]; omega)) (by decide) rfl rfl rfl ?_
  refine s_A h (by first | rfl | (simp only [adr]; omega)) ?_
  refine s_nw h rfl rfl (by decide) (fun _ => rfl) (by decide) fun w h => ?_
  replace h : Mst b 57 [(56, 0), (47, 0), (46, 4), (0, 6)] iE0 (iR0 b) w := h
  refine s_bd0 (i_X3_init_57 h) fun w h => ?_
  refine s_gd (by decide) ?_
  refine s_S (i := 46) h (by first | rfl | (simp only [adr]; omega)) (by decide) rfl rfl rfl ?_
  refine s_S (i := 56) h (by first | rfl | (simp only [adr]; omega)) (by decide) rfl rfl rfl ?_
  refine s_pS (i := 46) (ex2 := [(47, 0), (46, 5), (0, 6)]) h (by first | rfl | (simp only [adr]; omega)) (by decide) rfl rfl (by decide) fun w h => ?_
  replace h : Mst b 58 [(47, 0), (46, 5), (0, 6)] iE0 (iR0 b) w := h
  refine s_S (i := 45) h (by first | rfl | (simp only [adr]; omega)) (by decide) rfl rfl rfl ?_
  refine s_S (i := 46) h (by first | rfl | (simp only [adr]; omega)) (by decide) rfl rfl rfl ?_
  refine s_S (i := 45) h (by first | rfl | (simp only [adr]; omega)) (by decide) rfl rfl rfl ?_
  refine s_A h (by first | rfl | (simp only [adr]; omega)) ?_
  refine s_nw h rfl rfl (by decide) (fun _ => rfl) (by decide) fun w h => ?_
  replace h : Mst b 59 [(58, 0), (47, 0), (46, 5), (0, 6)] iE0 (iR0 b) w := h
  refine s_bd0 (i_X3_init_59 h) fun w h => ?_
  refine s_gd (by decide) ?_
  refine s_S (i := 46) h (by first | rfl | (simp only [adr]; omega)) (by decide) rfl rfl rfl ?_
  refine s_S (i := 58) h (by first | rfl | (simp only [adr]; omega)) (by decide) rfl rfl rfl ?_
  refine s_pS (i := 46) (ex2 := [(47, 0), (46, 6), (0, 6)]) h (by first | rfl | (simp only [adr]; omega)) (by decide) rfl rfl (by decide) fun w h => ?_
  replace h : Mst b 60 [(47, 0), (46, 6), (0, 6)] iE0 (iR0 b) w := h
  refine s_S (i := 45) h (by first | rfl | (simp only [adr]; omega)) (by decide) rfl rfl rfl ?_
  refine s_S (i := 46) h (by first | rfl | (simp only [adr]; omega)) (by decide) rfl rfl rfl ?_
  refine s_S (i := 45) h (by first | rfl | (simp only [adr]; omega)) (by decide) rfl rfl rfl ?_
  refine s_A h (by first | rfl | (simp only [adr]; omega)) ?_
  refine s_nw h rfl rfl (by decide) (fun _ => rfl) (by decide) fun w h => ?_
  replace h : Mst b 61 [(60, 0), (47, 0), (46, 6), (0, 6)] iE0 (iR0 b) w := h
  refine s_bd0 (i_X3_init_61 h) fun w h => ?_
  refine s_gd (by decide) ?_
  refine s_S (i := 46) h (by first | rfl | (simp only [adr]; omega)) (by decide) rfl rfl rfl ?_
  refine s_S (i := 60) h (by first | rfl | (simp only [adr]; omega)) (by decide) rfl rfl rfl ?_
  refine s_pS (i := 46) (ex2 := [(47, 0), (46, 7), (0, 6)]) h (by first | rfl | (simp only [adr]; omega)) (by decide) rfl rfl (by decide) fun w h => ?_
  replace h : Mst b 62 [(47, 0), (46, 7), (0, 6)] iE0 (iR0 b) w := h
  refine s_S (i := 45) h (by first | rfl | (simp only [adr]; omega)) (by decide) rfl rfl rfl ?_
  refine s_S (i := 46) h (by first | rfl | (simp only [adr]; omega)) (by decide) rfl rfl rfl ?_
  refine s_S (i := 45) h (by first | rfl | (simp only [adr]; omega)) (by decide) rfl rfl rfl ?_
  refine s_A h (by first | rfl | (simp only [adr]; omega)) ?_
  refine s_nw h rfl rfl (by decide) (fun _ => rfl) (by decide) fun w h => ?_
  replace h : Mst b 63 [(62, 0), (47, 0), (46, 7), (0, 6)] iE0 (iR0 b) w := h
  refine s_bd0 (i_X3_init_63 h) fun w h => ?_
  refine s_gd (by decide) ?_
  refine s_S (i := 46) h (by first | rfl | (simp only [adr]; omega)) (by decide) rfl rfl rfl ?_
  refine s_S (i := 62) h (by first | rfl | (simp only [adr]; omega)) (by decide) rfl rfl rfl ?_
  refine s_pS (i := 46) (ex2 := [(47, 0), (0, 6)]) h (by first | rfl | (simp only [adr]; omega)) (by decide) rfl rfl (by decide) fun w h => ?_
  replace h : Mst b 64 [(47, 0), (0, 6)] iE0 (iR0 b) w := h
  refine s_S (i := 45) h (by first | rfl | (simp only [adr]; omega)) (by decide) rfl rfl rfl ?_
  refine s_S (i := 46) h (by first | rfl | (simp only [adr]; omega)) (by decide) rfl rfl rfl ?_
  refine s_S (i := 45) h (by first | rfl | (simp only [adr]; omega)) (by decide) rfl rfl rfl ?_
  refine s_S (i := 47) h (by first | rfl | (simp only [adr]; omega)) (by decide) rfl rfl rfl ?_
  refine s_S (i := 45) h (by first | rfl | (simp only [adr]; omega)) (by decide) rfl rfl rfl ?_
  refine s_A h (by first | rfl | (simp only [adr]; omega)) ?_
  refine s_nw0 h rfl rfl rfl (by decide) (fun _ => rfl) (by decide) fun w h => ?_
  replace h : Mst b 65 [(47, 0), (0, 6)] iE0 (iR0 b) w := h
  refine s_bd0 (i_X9_init_65 h) fun w h => ?_
  refine s_gd (by decide) ?_
  refine s_S (i := 47) h (by first | rfl | (simp only [adr]; omega)) (by decide) rfl rfl rfl ?_
  refine s_S (i := 64) h (by first | rfl | (simp only [adr]; omega)) (by decide) rfl rfl rfl ?_
  refine s_pS (i := 47) (ex2 := [(47, 1), (0, 6)]) h (by first | rfl | (simp only [adr]; omega)) (by decide) rfl rfl (by decide) fun w h => ?_
  replace h : Mst b 65 [(47, 1), (0, 6)] iE0 (iR0 b) w := h
  refine s_S (i := 45) h (by first | rfl | (simp only [adr]; omega)) (by decide) rfl rfl rfl ?_
  refine s_S (i := 47) h (by first | rfl | (simp only [adr]; omega)) (by decide) rfl rfl rfl ?_
  refine s_S (i := 45) h (by first | rfl | (simp only [adr]; omega)) (by decide) rfl rfl rfl ?_
  refine s_A h (by first | rfl | (simp only [adr]; omega)) ?_
  refine s_nw0 h rfl rfl rfl (by decide) (fun _ => rfl) (by decide) fun w h => ?_
  replace h : Mst b 66 [(47, 1), (0, 6)] iE0 (iR0 b) w := h
  refine s_bd0 (i_X9_init_66 h) fun w h => ?_
  refine s_gd (by decide) ?_
  refine s_S (i := 47) h (by first | rfl | (simp only [adr]; omega)) (by decide) rfl rfl rfl ?_
  refine s_S (i := 65) h (by first | rfl | (simp only [adr]; omega)) (by decide) rfl rfl rfl ?_
  refine s_pS (i := 47) (ex2 := [(47, 2), (0, 6)]) h (by first | rfl | (simp only [adr]; omega)) (by decide) rfl rfl (by decide) fun w h => ?_
  replace h : Mst b 66 [(47, 2), (0, 6)] iE0 (iR0 b) w := h
  refine s_S (i := 45) h (by first | rfl | (simp only [adr]; omega)) (by decide) rfl rfl rfl ?_
  refine s_S (i := 47) h (by first | rfl | (simp only [adr]; omega)) (by decide) rfl rfl rfl ?_
  refine s_S (i := 45) h (by first | rfl | (simp only [adr]; omega)) (by decide) rfl rfl rfl ?_
  refine s_A h (by first | rfl | (simp only [adr]; omega)) ?_
  refine s_nw0 h rfl rfl rfl (by decide) (fun _ => rfl) (by decide) fun w h => ?_
  replace h : Mst b 67 [(47, 2), (0, 6)] iE0 (iR0 b) w := h
  refine s_bd0 (i_X9_init_67 h) fun w h => ?_
  refine s_gd (by decide) ?_
  refine s_S (i := 47) h (by first | rfl | (simp only [adr]; omega)) (by decide) rfl rfl rfl ?_
  refine s_S (i := 66) h (by first | rfl | (simp only [adr]; omega)) (by decide) rfl rfl rfl ?_
  refine s_pS (i := 47) (ex2 := [(47, 3), (0, 6)]) h (by first | rfl | (simp only [adr]; omega)) (by decide) rfl rfl (by decide) fun w h => ?_
  replace h : Mst b 67 [(47, 3), (0, 6)] iE0 (iR0 b) w := h
  refine s_S (i := 45) h (by first | rfl | (simp only [adr]; omega)) (by decide) rfl rfl rfl ?_
  refine s_S (i := 47) h (by first | rfl | (simp only [adr]; omega)) (by decide) rfl rfl rfl ?_
  refine s_S (i := 45) h (by first | rfl | (simp only [adr]; omega)) (by decide) rfl rfl rfl ?_
  refine s_A h (by first | rfl | (simp only [adr]; omega)) ?_
  refine s_nw0 h rfl rfl rfl (by decide) (fun _ => rfl) (by decide) fun w h => ?_
  replace h : Mst b 68 [(47, 3), (0, 6)] iE0 (iR0 b) w := h
  refine s_bd0 (i_X9_init_68 h) fun w h => ?_
  refine s_gd (by decide) ?_
  refine s_S (i := 47) h (by first | rfl | (simp only [adr]; omega)) (by decide) rfl rfl rfl ?_
  refine s_S (i := 67) h (by first | rfl | (simp only [adr]; omega)) (by decide) rfl rfl rfl ?_
  refine s_pS (i := 47) (ex2 := [(47, 4), (0, 6)]) h (by first | rfl | (simp only [adr]; omega)) (by decide) rfl rfl (by decide) fun w h => ?_
  replace h : Mst b 68 [(47, 4), (0, 6)] iE0 (iR0 b) w := h
  refine s_S (i := 45) h (by first | rfl | (simp only [adr]; omega)) (by decide) rfl rfl rfl ?_
  refine s_S (i := 47) h (by first | rfl | (simp only [adr]; omega)) (by decide) rfl rfl rfl ?_
  refine s_S (i := 45) h (by first | rfl | (simp only [adr]; omega)) (by decide) rfl rfl rfl ?_
  refine s_A h (by first | rfl | (simp only [adr]; omega)) ?_
  refine s_nw0 h rfl rfl rfl (by decide) (fun _ => rfl) (by decide) fun w h => ?_
  replace h : Mst b 69 [(47, 4), (0, 6)] iE0 (iR0 b) w := h
  refine s_bd0 (i_X9_init_69 h) fun w h => ?_
  refine s_gd (by decide) ?_
  refine s_S (i := 47) h (by first | rfl | (simp only [adr]; omega)) (by decide) rfl rfl rfl ?_
  refine s_S (i := 68) h (by first | rfl | (simp only [adr]; omega)) (by decide) rfl rfl rfl ?_
  refine s_pS (i := 47) (ex2 := [(47, 5), (0, 6)]) h (by first | rfl | (simp only [adr]; omega)) (by decide) rfl rfl (by decide) fun w h => ?_
  replace h : Mst b 69 [(47, 5), (0, 6)] iE0 (iR0 b) w := h
  refine s_S (i := 45) h (by first | rfl | (simp only [adr]; omega)) (by decide) rfl rfl rfl ?_
  refine s_S (i := 47) h (by first | rfl | (simp only [adr]; omega)) (by decide) rfl rfl rfl ?_
  refine s_S (i := 45) h (by first | rfl | (simp only [adr]; omega)) (by decide) rfl rfl rfl ?_
  refine s_A h (by first | rfl | (simp only [adr]; omega)) ?_
  refine s_nw0 h rfl rfl rfl (by decide) (fun _ => rfl) (by decide) fun w h => ?_
  replace h : Mst b 70 [(47, 5), (0, 6)] iE0 (iR0 b) w := h
  refine s_bd0 (i_X9_init_70 h) fun w h => ?_
  refine s_gd (by decide) ?_
  refine s_S (i := 47) h (by first | rfl | (simp only [adr]; omega)) (by decide) rfl rfl rfl ?_
  refine s_S (i := 69) h (by first | rfl | (simp only [adr]; omega)) (by decide) rfl rfl rfl ?_
  refine s_pS (i := 47) (ex2 := [(47, 6), (0, 6)]) h (by first | rfl | (simp only [adr]; omega)) (by decide) rfl rfl (by decide) fun w h => ?_
  replace h : Mst b 70 [(47, 6), (0, 6)] iE0 (iR0 b) w := h
  refine s_S (i := 45) h (by first | rfl | (simp only [adr]; omega)) (by decide) rfl rfl rfl ?_
  refine s_S (i := 47) h (by first | rfl | (simp only [adr]; omega)) (by decide) rfl rfl rfl ?_
  refine s_S (i := 45) h (by first | rfl | (simp only [adr]; omega)) (by decide) rfl rfl rfl ?_
  refine s_A h (by first | rfl | (simp only [adr]; omega)) ?_
  refine s_nw0 h rfl rfl rfl (by decide) (fun _ => rfl) (by decide) fun w h => ?_
  replace h : Mst b 71 [(47, 6), (0, 6)] iE0 (iR0 b) w := h
  refine s_bd0 (i_X9_init_71 h) fun w h => ?_
  refine s_gd (by decide) ?_
  refine s_S (i := 47) h (by first | rfl | (simp only [adr]; omega)) (by decide) rfl rfl rfl ?_
  refine s_S (i := 70) h (by first | rfl | (simp only [adr]; omega)) (by decide) rfl rfl rfl ?_
  refine s_pS (i := 47) (ex2 := [(47, 7), (0, 6)]) h (by first | rfl | (simp only [adr]; omega)) (by decide) rfl rfl (by decide) fun w h => ?_
  replace h : Mst b 71 [(47, 7), (0, 6)] iE0 (iR0 b) w := h
  refine s_S (i := 45) h (by first | rfl | (simp only [adr]; omega)) (by decide) rfl rfl rfl ?_
  refine s_S (i := 47) h (by first | rfl | (simp only [adr]; omega)) (by decide) rfl rfl rfl ?_
  refine s_S (i := 45) h (by first | rfl | (simp only [adr]; omega)) (by decide) rfl rfl rfl ?_
  refine s_A h (by first | rfl | (simp only [adr]; omega)) ?_
  refine s_nw0 h rfl rfl rfl (by decide) (fun _ => rfl) (by decide) fun w h => ?_
  replace h : Mst b 72 [(47, 7), (0, 6)] iE0 (iR0 b) w := h
  refine s_bd0 (i_X9_init_72 h) fun w h => ?_
  refine s_gd (by decide) ?_
  refine s_S (i := 47) h (by first | rfl | (simp only [adr]; omega)) (by decide) rfl rfl rfl ?_
  refine s_S (i := 71) h (by first | rfl | (simp only [adr]; omega)) (by decide) rfl rfl rfl ?_
  refine s_pS (i := 47) (ex2 := [(0, 6)]) h (by first | rfl | (simp only [adr]; omega)) (by decide) rfl rfl (by decide) fun w h => ?_
  replace h : Mst b 72 [(0, 6)] iE0 (iR0 b) w := h
  refine s_S (i := 45) h (by first | rfl | (simp only [adr]; omega)) (by decide) rfl rfl rfl ?_
  refine s_S (i := 47) h (by first | rfl | (simp only [adr]; omega)) (by decide) rfl rfl rfl ?_
  exact ⟨_, rfl, h⟩
set_option maxRecDepth 100000 in
theorem i_X8_init_73 {b : Nat} {w : Mm} (h : Mst b 73 [(72, 0), (0, 7)] iE0 (iR0 b) w) : ∃ w', f_X8_init b 0 w = some w' ∧ Mst b 78 [(0, 7)] iE0 (iR0 b) w' := by
  unfold f_X8_init
  refine s_A h (by first | rfl | (simp only [adr]; omega)) ?_
  refine s_nw0 h rfl rfl rfl (by decide) (fun _ => rfl) (by decide) fun w h => ?_
  replace h : Mst b 74 [(72, 0), (0, 7)] iE0 (iR0 b) w := h
  refine s_S (i := 72) h (by first | rfl | (simp only [adr]; omega)) (by decide) rfl rfl rfl ?_
  refine s_pS (i := 72) (ex2 := [(72, 1), (0, 7)]) h (by first | rfl | (simp only [adr]; omega)) (by decide) rfl rfl (by decide) fun w h => ?_
  replace h : Mst b 74 [(72, 1), (0, 7)] iE0 (iR0 b) w := h
  refine s_A h (by first | rfl | (simp only [adr]; omega)) ?_
  refine s_nw0 h rfl rfl rfl (by decide) (fun _ => rfl) (by decide) fun w h => ?_
  replace h : Mst b 75 [(72, 1), (0, 7)] iE0 (iR0 b) w := h
  refine s_S (i := 72) h (by first | rfl | (simp only [adr]; omega)) (by decide) rfl rfl rfl ?_
  refine s_pS (i := 72) (ex2 := [(72, 2), (0, 7)]) h (by first | rfl | (simp only [adr]; omega)) (by decide) rfl rfl (by decide) fun w h => ?_
  replace h : Mst b 75 [(72, 2), (0, 7)] iE0 (iR0 b) w := h
  refine s_A h (by first | rfl | (simp only [adr]; omega)) ?_
  refine s_nw0 h rfl rfl rfl (by decide) (fun _ => rfl) (by decide) fun w h => ?_
  replace h : Mst b 76 [(72, 2), (0, 7)] iE0 (iR0 b) w := h
  refine s_S (i := 72) h (by first | rfl | (simp only [adr]; omega)) (by decide) rfl rfl rfl ?_
  refine s_pS (i := 72) (ex2 := [(72, 3), (0, 7)]) h (by first | rfl | (simp only [adr]; omega)) (by decide) rfl rfl (by decide) fun w h => ?_
  replace h : Mst b 76 [(72, 3), (0, 7)] iE0 (iR0 b) w := h
  refine s_A h (by first | rfl | (simp only [adr]; omega)) ?_
  refine s_nw0 h rfl rfl rfl (by decide) (fun _ => rfl) (by decide) fun w h => ?_
  replace h : Mst b 77 [(72, 3), (0, 7)] iE0 (iR0 b) w := h
  refine s_S (i := 72) h (by first | rfl | (simp only [adr]; omega)) (by decide) rfl rfl rfl ?_
  refine s_pS (i := 72) (ex2 := [(72, 4), (0, 7)]) h (by first | rfl | (simp only [adr]; omega)) (by decide) rfl rfl (by decide) fun w h => ?_
  replace h : Mst b 77 [(72, 4), (0, 7)] iE0 (iR0 b) w := h
  refine s_A h (by first | rfl | (simp only [adr]; omega)) ?_
  refine s_nw0 h rfl rfl rfl (by decide) (fun _ => rfl) (by decide) fun w h => ?_
  replace h : Mst b 78 [(72, 4), (0, 7)] iE0 (iR0 b) w := h
  refine s_S (i := 72) h (by first | rfl | (simp only [adr]; omega)) (by decide) rfl rfl rfl ?_
  refine s_pS (i := 72) (ex2 := [(0, 7)]) h (by first | rfl | (simp only [adr]; omega)) (by decide) rfl rfl (by decide) fun w h => ?_
  replace h : Mst b 78 [(0, 7)] iE0 (iR0 b) w := h
  refine s_bd0 (i_L50 (k := 0) h (by decide) (by decide) rfl rfl 400 0 LF (by omega) (by unfold LF; omega)) fun w h => ?_
  exact ⟨_, rfl, h⟩
set_option maxRecDepth 100000 in
theorem i_X8_init_79 {b : Nat} {w : Mm} (h : Mst b 79 [(78, 0), (0, 7)] iE0 (iR1 b) w) : ∃ w', f_X8_init b 1 w = some w' ∧ Mst b 84 [(0, 7)] iE0 (iR1 b) w' := by
  unfold f_X8_init
  refine s_A h (by first | rfl | (simp only [adr]; omega)) ?_
  refine s_nw0 h rfl rfl rfl (by decide) (fun _ => rfl) (by decide) fun w h => ?_
  replace h : Mst b 80 [(78, 0), (0, 7)] iE0 (iR1 b) w := h
  refine s_S (i := 78) h (by first | rfl | (simp only [adr]; omega)) (by decide) rfl rfl rfl ?_
  refine s_pS (i := 78) (ex2 := [(78, 1), (0, 7)]) h (by first | rfl | (simp only [adr]; omega)) (by decide) rfl rfl (by decide) fun w h => ?_
  replace h : Mst b 80 [(78, 1), (0, 7)] iE0 (iR1 b) w := h
  refine s_A h (by first | rfl | (simp only [adr]; omega)) ?_
  refine s_nw0 h rfl rfl rfl (by decide) (fun _ => rfl) (by decide) fun w h => ?_
  replace h : Mst b 81 [(78, 1), (0, 7)] iE0 (iR1 b) w := h
  refine s_S (i := 78) h (by first | rfl | (simp only [adr]; omega)) (by decide) rfl rfl rfl ?_
  refine s_pS (i := 78) (ex2 := [(78, 2), (0, 7)]) h (by first | rfl | (simp only [adr]; omega)) (by decide) rfl rfl (by decide) fun w h => ?_
  replace h : Mst b 81 [(78, 2), (0, 7)] iE0 (iR1 b) w := h
  refine s_A h (by first | rfl | (simp only [adr]; omega)) ?_
  refine s_nw0 h rfl rfl rfl (by decide) (fun _ => rfl) (by decide) fun w h => ?_
  replace h : Mst b 82 [(78, 2), (0, 7)] iE0 (iR1 b) w := h
  refine s_S (i := 78) h (by first | rfl | (simp only [adr]; omega)) (by decide) rfl rfl rfl ?_
  refine s_pS (i := 78) (ex2 := [(78, 3), (0, 7)]) h (by first | rfl | (simp only [adr]; omega)) (by decide) rfl rfl (by decide) fun w h => ?_
  replace h : Mst b 82 [(78, 3), (0, 7)] iE0 (iR1 b) w := h
  refine s_A h (by first | rfl | (simp only [adr]; omega)) ?_
  refine s_nw0 h rfl rfl rfl (by decide) (fun _ => rfl) (by decide) fun w h => ?_
  replace h : Mst b 83 [(78, 3), (0, 7)] iE0 (iR1 b) w := h
  refine s_S (i := 78) h (by first | rfl | (simp only [adr]; omega)) (by decide) rfl rfl rfl ?_
  refine s_pS (i := 78) (ex2 := [(78, 4), (0, 7)]) h (by first | rfl | (simp only [adr]; omega)) (by decide) rfl rfl (by decide) fun w h => ?_
  replace h : Mst b 83 [(78, 4), (0, 7)] iE0 (iR1 b) w := h
  refine s_A h (by first | rfl | (simp only [adr]; omega)) ?_
  refine s_nw0 h rfl rfl rfl (by decide) (fun _ => rfl) (by decide) fun w h => ?_
  replace h : Mst b 84 [(78, 4), (0, 7)] iE0 (iR1 b) w := h
  refine s_S (i := 78) h (by first | rfl | (simp only [adr]; omega)) (by decide) rfl rfl rfl ?_
  refine s_pS (i := 78) (ex2 := [(0, 7)]) h (by first | rfl | (simp only [adr]; omega)) (by decide) rfl rfl (by decide) fun w h => ?_
  replace h : Mst b 84 [(0, 7)] iE0 (iR1 b) w := h
  refine s_bd0 (i_L50 (k := 1) h (by decide) (by decide) rfl rfl 400 0 LF (by omega) (by unfold LF; omega)) fun w h => ?_
  exact ⟨_, rfl, h⟩
set_option maxRecDepth 100000 in
theorem i_X7_init_85 {b : Nat} {w : Mm} (h : Mst b 85 [(84, 0), (0, 7)] iE0 (iR2 b) w) : ∃ w', f_X7_init b 1 w = some w' ∧ Mst b 85 [(0, 7)] iE0 (iR2 b) w' := by
  unfold f_X7_init
  refine s_S (i := 84) h (by first | rfl | (simp only [adr]; omega)) (by decide) rfl rfl rfl ?_
  refine s_pRo h (by decide) (by decide) fun w h => ?_
  replace h : Mst b 85 [(84, 0), (0, 7)] iE0 (iR2 b) w := h
  refine s_S (i := 84) h (by first | rfl | (simp only [adr]; omega)) (by decide) rfl rfl rfl ?_
  refine s_pS (i := 84) (ex2 := [(0, 7)]) h (by first | rfl | (simp only [adr]; omega)) (by decide) rfl rfl (by decide) fun w h => ?_
  replace h : Mst b 85 [(0, 7)] iE0 (iR2 b) w := h
  refine s_S (i := 84) h (by first | rfl | (simp only [adr]; omega)) (by decide) rfl rfl rfl ?_
  refine s_pRo h (by decide) (by decide) fun w h => ?_
  replace h : Mst b 85 [(0, 7)] iE0 (iR2 b) w := h
  exact ⟨_, rfl, h⟩
set_option maxRecDepth 100000 in
theorem i_X12_init_1 {b : Nat} {w : Mm} (h : Mst b 1 [(0, 0)] iE0 (iR0 b) w) : ∃ w', f_X12_init b w = some w' ∧ Mst b 85 [] iE1 (iR2 b) w' := by
  unfold f_X12_init
  refine s_A h (by first | rfl | (simp only [adr]; omega)) ?_
  refine s_nw h rfl rfl (by decide) (fun _ => rfl) (by decide) fun w h => ?_
  replace h : Mst b 2 [(1, 0), (0, 0)] iE0 (iR0 b) w := h
  refine s_bd0 (i_X10_init_2 h) fun w h => ?_
  refine s_S (i := 0) h (by first | rfl | (simp only [adr]; omega)) (by decide) rfl rfl rfl ?_
  refine s_pS (i := 0) (ex2 := [(0, 1)]) h (by first | rfl | (simp only [adr]; omega)) (by decide) rfl rfl (by decide) fun w h => ?_
  replace h : Mst b 3 [(0, 1)] iE0 (iR0 b) w := h
  refine s_A h (by first | rfl | (simp only [adr]; omega)) ?_
  refine s_nw h rfl rfl (by decide) (fun _ => rfl) (by decide) fun w h => ?_
  replace h : Mst b 4 [(3, 0), (0, 1)] iE0 (iR0 b) w := h
  refine s_bd0 (i_X11_init_4 h) fun w h => ?_
  refine s_S (i := 0) h (by first | rfl | (simp only [adr]; omega)) (by decide) rfl rfl rfl ?_
  refine s_pS (i := 0) (ex2 := [(0, 2)]) h (by first | rfl | (simp only [adr]; omega)) (by decide) rfl rfl (by decide) fun w h => ?_
  replace h : Mst b 8 [(0, 2)] iE0 (iR0 b) w := h
  refine s_A h (by first | rfl | (simp only [adr]; omega)) ?_
  refine s_nw h rfl rfl (by decide) (fun _ => rfl) (by decide) fun w h => ?_
  replace h : Mst b 9 [(8, 0), (0, 2)] iE0 (iR0 b) w := h
  refine s_bd0 (i_X5_init_9 h) fun w h => ?_
  refine s_S (i := 0) h (by first | rfl | (simp only [adr]; omega)) (by decide) rfl rfl rfl ?_
  refine s_pS (i := 0) (ex2 := [(0, 3)]) h (by first | rfl | (simp only [adr]; omega)) (by decide) rfl rfl (by decide) fun w h => ?_
  replace h : Mst b 10 [(0, 3)] iE0 (iR0 b) w := h
  refine s_A h (by first | rfl | (simp only [adr]; omega)) ?_
  refine s_nw h rfl rfl (by decide) (fun _ => rfl) (by decide) fun w h => ?_
  replace h : Mst b 11 [(10, 0), (0, 3)] iE0 (iR0 b) w := h
  refine s_bd0 (i_X6_init_11 h) fun w h => ?_
  refine s_S (i := 0) h (by first | rfl | (simp only [adr]; omega)) (by decide) rfl rfl rfl ?_
  refine s_pS (i := 0) (ex2 := [(0, 4)]) h (by first | rfl | (simp only [adr]; omega)) (by decide) rfl rfl (by decide) fun w h => ?_
  replace h : Mst b 16 [(0, 4)] iE0 (iR0 b) w := h
  refine s_A h (by first | rfl | (simp only [adr]; omega)) ?_
  refine s_nw h rfl rfl (by decide) (fun _ => rfl) (by decide) fun w h => ?_
  replace h : Mst b 17 [(16, 0), (0, 4)] iE0 (iR0 b) w := h
  refine s_S (i := 0) h (by first | rfl | (simp only [adr]; omega)) (by decide) rfl rfl rfl ?_
  refine s_bd0 (i_X2_init_17 h) fun w h => ?_
  refine s_S (i := 0) h (by first | rfl | (simp only [adr]; omega)) (by decide) rfl rfl rfl ?_
  refine s_pS (i := 0) (ex2 := [(0, 5)]) h (by first | rfl | (simp only [adr]; omega)) (by decide) rfl rfl (by decide) fun w h => ?_
  replace h : Mst b 18 [(0, 5)] iE0 (iR0 b) w := h
  refine s_A h (by first | rfl | (simp only [adr]; omega)) ?_
  refine s_nw h rfl rfl (by decide) (fun _ => rfl) (by decide) fun w h => ?_
  replace h : Mst b 19 [(18, 0), (0, 5)] iE0 (iR0 b) w := h
  refine s_bd0 (i_X1_init_19 h) fun w h => ?_
  refine s_S (i := 0) h (by first | rfl | (simp only [adr]; omega)) (by decide) rfl rfl rfl ?_
  refine s_pS (i := 0) (ex2 := [(0, 6)]) h (by first | rfl | (simp only [adr]; omega)) (by decide) rfl rfl (by decide) fun w h => ?_
  replace h : Mst b 45 [(0, 6)] iE0 (iR0 b) w := h
  refine s_A h (by first | rfl | (simp only [adr]; omega)) ?_
  refine s_nw h rfl rfl (by decide) (fun _ => rfl) (by decide) fun w h => ?_
  replace h : Mst b 46 [(45, 0), (0, 6)] iE0 (iR0 b) w := h
  refine s_bd0 (i_X1_init_46 h) fun w h => ?_
  refine s_S (i := 0) h (by first | rfl | (simp only [adr]; omega)) (by decide) rfl rfl rfl ?_
  refine s_pS (i := 0) (ex2 := [(0, 7)]) h (by first | rfl | (simp only [adr]; omega)) (by decide) rfl rfl (by decide) fun w h => ?_
  replace h : Mst b 72 [(0, 7)] iE0 (iR0 b) w := h
  refine s_A h (by first | rfl | (simp only [adr]; omega)) ?_
  refine s_nw h rfl rfl (by decide) (fun _ => rfl) (by decide) fun w h => ?_
  replace h : Mst b 73 [(72, 0), (0, 7)] iE0 (iR0 b) w := h
  refine s_bd0 (i_X8_init_73 h) fun w h => ?_
  refine s_S (i := 0) h (by first | rfl | (simp only [adr]; omega)) (by decide) rfl rfl rfl ?_
  refine s_pR1 h fun w h => ?_
  replace h : Mst b 78 [(0, 7)] iE0 (iR1 b) w := h
  refine s_A h (by first | rfl | (simp only [adr]; omega)) ?_
  refine s_nw h rfl rfl (by decide) (fun _ => rfl) (by decide) fun w h => ?_
  replace h : Mst b 79 [(78, 0), (0, 7)] iE0 (iR1 b) w := h
  refine s_bd0 (i_X8_init_79 h) fun w h => ?_
  refine s_S (i := 0) h (by first | rfl | (simp only [adr]; omega)) (by decide) rfl rfl rfl ?_
  refine s_pR1 h fun w h => ?_
  replace h : Mst b 84 [(0, 7)] iE0 (iR2 b) w := h
  refine s_A h (by first | rfl | (simp only [adr]; omega)) ?_
  refine s_nw h rfl rfl (by decide) (fun _ => rfl) (by decide) fun w h => ?_
  replace h : Mst b 85 [(84, 0), (0, 7)] iE0 (iR2 b) w := h
  refine s_S (i := 0) h (by first | rfl | (simp only [adr]; omega)) (by decide) rfl rfl rfl ?_
  refine s_S (i := 0) h (by first | rfl | (simp only [adr]; omega)) (by decide) rfl rfl rfl ?_
  have h2 : gR w 1 0 8 = 2 := st_R1 h (by decide) 8
  rw [h2]
  refine s_gd (by decide) ?_
  refine s_sq ?_
  show ∃ r, _ ∧ _
  refine s_bd0 (i_X7_init_85 h) fun w h => ?_
  refine s_S (i := 0) h (by first | rfl | (simp only [adr]; omega)) (by decide) rfl rfl rfl ?_
  refine s_pS (i := 0) (ex2 := []) h (by first | rfl | (simp only [adr]; omega)) (by decide) rfl rfl (by decide) fun w h => ?_
  replace h : Mst b 85 [] iE0 (iR2 b) w := h
  refine s_S (i := 0) h (by first | rfl | (simp only [adr]; omega)) (by decide) rfl rfl rfl ?_
  refine s_pI1 h fun w h => ?_
  replace h : Mst b 85 [] iE1 (iR2 b) w := h
  exact ⟨_, rfl, h⟩
set_option maxRecDepth 100000 in
theorem i_X14_init_109 {b : Nat} {w : Mm} (h : Mst b 109 [(108, 0), (85, 11)] iE2 (iR4 b) w) : ∃ w', f_X14_init b 0 w = some w' ∧ Mst b 116 [(85, 11)] iE2 (iR4 b) w' := by
  unfold f_X14_init
  refine s_S (i := 108) h (by first | rfl | (simp only [adr]; omega)) (by decide) rfl rfl rfl ?_
  refine s_pS (i := 108) (ex2 := [(108, 1), (85, 11)]) h (by first | rfl | (simp only [adr]; omega)) (by decide) rfl rfl (by decide) fun w h => ?_
  replace h : Mst b 109 [(108, 1), (85, 11)] iE2 (iR4 b) w := h
  refine s_A h (by first | rfl | (simp only [adr]; omega)) ?_
  refine s_nw0 h rfl rfl rfl (by decide) (fun _ => rfl) (by decide) fun w h => ?_
  replace h : Mst b 110 [(108, 1), (85, 11)] iE2 (iR4 b) w := h
  refine s_S (i := 108) h (by first | rfl | (simp only [adr]; omega)) (by decide) rfl rfl rfl ?_
  refine s_pS (i := 108) (ex2 := [(108, 2), (85, 11)]) h (by first | rfl | (simp only [adr]; omega)) (by decide) rfl rfl (by decide) fun w h => ?_
  replace h : Mst b 110 [(108, 2), (85, 11)] iE2 (iR4 b) w := h
  refine s_A h (by first | rfl | (simp only [adr]; omega)) ?_
  refine s_nw0 h rfl rfl rfl (by decide) (fun _ => rfl) (by decide) fun w h => ?_
  replace h : Mst b 111 [(108, 2), (85, 11)] iE2 (iR4 b) w := h
  refine s_S (i := 108) h (by first | rfl | (simp only [adr]; omega)) (by decide) rfl rfl rfl ?_
  refine s_pS (i := 108) (ex2 := [(108, 3), (85, 11)]) h (by first | rfl | (simp only [adr]; omega)) (by decide) rfl rfl (by decide) fun w h => ?_
  replace h : Mst b 111 [(108, 3), (85, 11)] iE2 (iR4 b) w := h
  refine s_A h (by first | rfl | (simp only [adr]; omega)) ?_
  refine s_nw0 h rfl rfl rfl (by decide) (fun _ => rfl) (by decide) fun w h => ?_
  replace h : Mst b 112 [(108, 3), (85, 11)] iE2 (iR4 b) w := h
  refine s_S (i := 108) h (by first | rfl | (simp only [adr]; omega)) (by decide) rfl rfl rfl ?_
  refine s_pS (i := 108) (ex2 := [(108, 4), (85, 11)]) h (by first | rfl | (simp only [adr]; omega)) (by decide) rfl rfl (by decide) fun w h => ?_
  replace h : Mst b 112 [(108, 4), (85, 11)] iE2 (iR4 b) w := h
  refine s_A h (by first | rfl | (simp only [adr]; omega)) ?_
  refine s_nw0 h rfl rfl rfl (by decide) (fun _ => rfl) (by decide) fun w h => ?_
  replace h : Mst b 113 [(108, 4), (85, 11)] iE2 (iR4 b) w := h
  refine s_S (i := 108) h (by first | rfl | (simp only [adr]; omega)) (by decide) rfl rfl rfl ?_
  refine s_pS (i := 108) (ex2 := [(108, 5), (85, 11)]) h (by first | rfl | (simp only [adr]; omega)) (by decide) rfl rfl (by decide) fun w h => ?_
  replace h : Mst b 113 [(108, 5), (85, 11)] iE2 (iR4 b) w := h
  refine s_A h (by first | rfl | (simp only [adr]; omega)) ?_
  refine s_nw0 h rfl rfl rfl (by decide) (fun _ => rfl) (by decide) fun w h => ?_
  replace h : Mst b 114 [(108, 5), (85, 11)] iE2 (iR4 b) w := h
  refine s_S (i := 108) h (by first | rfl | (simp only [adr]; omega)) (by decide) rfl rfl rfl ?_
  refine s_pS (i := 108) (ex2 := [(108, 6), (85, 11)]) h (by first | rfl | (simp only [adr]; omega)) (by decide) rfl rfl (by decide) fun w h => ?_
  replace h : Mst b 114 [(108, 6), (85, 11)] iE2 (iR4 b) w := h
  refine s_A h (by first | rfl | (simp only [adr]; omega)) ?_
  refine s_nw0 h rfl rfl rfl (by decide) (fun _ => rfl) (by decide) fun w h => ?_
  replace h : Mst b 115 [(108, 6), (85, 11)] iE2 (iR4 b) w := h
  refine s_S (i := 108) h (by first | rfl | (simp only [adr]; omega)) (by decide) rfl rfl rfl ?_
  refine s_pS (i := 108) (ex2 := [(108, 7), (85, 11)]) h (by first | rfl | (simp only [adr]; omega)) (by decide) rfl rfl (by decide) fun w h => ?_
  replace h : Mst b 115 [(108, 7), (85, 11)] iE2 (iR4 b) w := h
  refine s_A h (by first | rfl | (simp only [adr]; omega)) ?_
  refine s_nw0 h rfl rfl rfl (by decide) (fun _ => rfl) (by decide) fun w h => ?_
  replace h : Mst b 116 [(108, 7), (85, 11)] iE2 (iR4 b) w := h
  refine s_S (i := 108) h (by first | rfl | (simp only [adr]; omega)) (by decide) rfl rfl rfl ?_
  refine s_pS (i := 108) (ex2 := [(85, 11)]) h (by first | rfl | (simp only [adr]; omega)) (by decide) rfl rfl (by decide) fun w h => ?_
  replace h : Mst b 116 [(85, 11)] iE2 (iR4 b) w := h
  exact ⟨_, rfl, h⟩
set_option maxRecDepth 100000 in
theorem i_X14_init_117 {b : Nat} {w : Mm} (h : Mst b 117 [(116, 0), (85, 12)] iE2 (iR4 b) w) : ∃ w', f_X14_init b 1 w = some w' ∧ Mst b 124 [(85, 12)] iE2 (iR4 b) w' := by
  unfold f_X14_init
  refine s_S (i := 116) h (by first | rfl | (simp only [adr]; omega)) (by decide) rfl rfl rfl ?_
  refine s_pS (i := 116) (ex2 := [(116, 1), (85, 12)]) h (by first | rfl | (simp only [adr]; omega)) (by decide) rfl rfl (by decide) fun w h => ?_
  replace h : Mst b 117 [(116, 1), (85, 12)] iE2 (iR4 b) w := h
  refine s_A h (by first | rfl | (simp only [adr]; omega)) ?_
  refine s_nw0 h rfl rfl rfl (by decide) (fun _ => rfl) (by decide) fun w h => ?_
  replace h : Mst b 118 [(116, 1), (85, 12)] iE2 (iR4 b) w := h
  refine s_S (i := 116) h (by first | rfl | (simp only [adr]; omega)) (by decide) rfl rfl rfl ?_
  refine s_pS (i := 116) (ex2 := [(116, 2), (85, 12)]) h (by first | rfl | (simp only [adr]; omega)) (by decide) rfl rfl (by decide) fun w h => ?_
  replace h : Mst b 118 [(116, 2), (85, 12)] iE2 (iR4 b) w := h
  refine s_A h (by first | rfl | (simp only [adr]; omega)) ?_
  refine s_nw0 h rfl rfl rfl (by decide) (fun _ => rfl) (by decide) fun w h => ?_
  replace h : Mst b 119 [(116, 2), (85, 12)] iE2 (iR4 b) w := h
  refine s_S (i := 116) h (by first | rfl | (simp only [adr]; omega)) (by decide) rfl rfl rfl ?_
  refine s_pS (i := 116) (ex2 := [(116, 3), (85, 12)]) h (by first | rfl | (simp only [adr]; omega)) (by decide) rfl rfl (by decide) fun w h => ?_
  replace h : Mst b 119 [(116, 3), (85, 12)] iE2 (iR4 b) w := h
  refine s_A h (by first | rfl | (simp only [adr]; omega)) ?_
  refine s_nw0 h rfl rfl rfl (by decide) (fun _ => rfl) (by decide) fun w h => ?_
  replace h : Mst b 120 [(116, 3), (85, 12)] iE2 (iR4 b) w := h
  refine s_S (i := 116) h (by first | rfl | (simp only [adr]; omega)) (by decide) rfl rfl rfl ?_
  refine s_pS (i := 116) (ex2 := [(116, 4), (85, 12)]) h (by first | rfl | (simp only [adr]; omega)) (by decide) rfl rfl (by decide) fun w h => ?_
  replace h : Mst b 120 [(116, 4), (85, 12)] iE2 (iR4 b) w := h
  refine s_A h (by first | rfl | (simp only [adr]; omega)) ?_
  refine s_nw0 h rfl rfl rfl (by decide) (fun _ => rfl) (by decide) fun w h => ?_
  replace h : Mst b 121 [(116, 4), (85, 12)] iE2 (iR4 b) w := h
  refine s_S (i := 116) h (by first | rfl | (simp only [adr]; omega)) (by decide) rfl rfl rfl ?_
  refine s_pS (i := 116) (ex2 := [(116, 5), (85, 12)]) h (by first | rfl | (simp only [adr]; omega)) (by decide) rfl rfl (by decide) fun w h => ?_
  replace h : Mst b 121 [(116, 5), (85, 12)] iE2 (iR4 b) w := h
  refine s_A h (by first | rfl | (simp only [adr]; omega)) ?_
  refine s_nw0 h rfl rfl rfl (by decide) (fun _ => rfl) (by decide) fun w h => ?_
  replace h : Mst b 122 [(116, 5), (85, 12)] iE2 (iR4 b) w := h
  refine s_S (i := 116) h (by first | rfl | (simp only [adr]; omega)) (by decide) rfl rfl rfl ?_
  refine s_pS (i := 116) (ex2 := [(116, 6), (85, 12)]) h (by first | rfl | (simp only [adr]; omega)) (by decide) rfl rfl (by decide) fun w h => ?_
  replace h : Mst b 122 [(116, 6), (85, 12)] iE2 (iR4 b) w := h
  refine s_A h (by first | rfl | (simp only [adr]; omega)) ?_
  refine s_nw0 h rfl rfl rfl (by decide) (fun _ => rfl) (by decide) fun w h => ?_
  replace h : Mst b 123 [(116, 6), (85, 12)] iE2 (iR4 b) w := h
  refine s_S (i := 116) h (by first | rfl | (simp only [adr]; omega)) (by decide) rfl rfl rfl ?_
  refine s_pS (i := 116) (ex2 := [(116, 7), (85, 12)]) h (by first | rfl | (simp only [adr]; omega)) (by decide) rfl rfl (by decide) fun w h => ?_
  replace h : Mst b 123 [(116, 7), (85, 12)] iE2 (iR4 b) w := h
  refine s_A h (by first | rfl | (simp only [adr]; omega)) ?_
  refine s_nw0 h rfl rfl rfl (by decide) (fun _ => rfl) (by decide) fun w h => ?_
  replace h : Mst b 124 [(116, 7), (85, 12)] iE2 (iR4 b) w := h
  refine s_S (i := 116) h (by first | rfl | (simp only [adr]; omega)) (by decide) rfl rfl rfl ?_
  refine s_pS (i := 116) (ex2 := [(85, 12)]) h (by first | rfl | (simp only [adr]; omega)) (by decide) rfl rfl (by decide) fun w h => ?_
  replace h : Mst b 124 [(85, 12)] iE2 (iR4 b) w := h
  exact ⟨_, rfl, h⟩
set_option maxRecDepth 100000 in
theorem i_X15_init_86 {b : Nat} {w : Mm} (h : Mst b 86 [(85, 0)] iE1 (iR2 b) w) : ∃ w', f_X15_init b w = some w' ∧ Mst b 124 [] iE2 (iR4 b) w' := by
  unfold f_X15_init
  refine s_A h (by first | rfl | (simp only [adr]; omega)) ?_
  refine s_nw0 h rfl rfl rfl (by decide) (fun _ => rfl) (by decide) fun w h => ?_
  replace h : Mst b 87 [(85, 0)] iE1 (iR2 b) w := h
  refine s_S (i := 85) h (by first | rfl | (simp only [adr]; omega)) (by decide) rfl rfl rfl ?_
  refine s_pS (i := 85) (ex2 := [(85, 1)]) h (by first | rfl | (simp only [adr]; omega)) (by decide) rfl rfl (by decide) fun w h => ?_
  replace h : Mst b 87 [(85, 1)] iE1 (iR2 b) w := h
  refine s_S (i := 85) h (by first | rfl | (simp only [adr]; omega)) (by decide) rfl rfl rfl ?_
  refine s_pI32 h fun w h => ?_
  replace h : Mst b 87 [(85, 1)] iE2 (iR2 b) w := h
  refine s_A h (by first | rfl | (simp only [adr]; omega)) ?_
  refine s_nw0 h rfl rfl rfl (by decide) (fun _ => rfl) (by decide) fun w h => ?_
  replace h : Mst b 88 [(85, 1)] iE2 (iR2 b) w := h
  refine s_S (i := 85) h (by first | rfl | (simp only [adr]; omega)) (by decide) rfl rfl rfl ?_
  refine s_pS (i := 85) (ex2 := [(85, 2)]) h (by first | rfl | (simp only [adr]; omega)) (by decide) rfl rfl (by decide) fun w h => ?_
  replace h : Mst b 88 [(85, 2)] iE2 (iR2 b) w := h
  refine s_A h (by first | rfl | (simp only [adr]; omega)) ?_
  refine s_nw0 h rfl rfl rfl (by decide) (fun _ => rfl) (by decide) fun w h => ?_
  replace h : Mst b 89 [(85, 2)] iE2 (iR2 b) w := h
  refine s_S (i := 85) h (by first | rfl | (simp only [adr]; omega)) (by decide) rfl rfl rfl ?_
  refine s_pS (i := 85) (ex2 := [(85, 3)]) h (by first | rfl | (simp only [adr]; omega)) (by decide) rfl rfl (by decide) fun w h => ?_
  replace h : Mst b 89 [(85, 3)] iE2 (iR2 b) w := h
  refine s_A h (by first | rfl | (simp only [adr]; omega)) ?_
  refine s_nw0 h rfl rfl rfl (by decide) (fun _ => rfl) (by decide) fun w h => ?_
  replace h : Mst b 90 [(85, 3)] iE2 (iR2 b) w := h
  refine s_S (i := 85) h (by first | rfl | (simp only [adr]; omega)) (by decide) rfl rfl rfl ?_
  refine s_pS (i := 85) (ex2 := [(85, 4)]) h (by first | rfl | (simp only [adr]; omega)) (by decide) rfl rfl (by decide) fun w h => ?_
  replace h : Mst b 90 [(85, 4)] iE2 (iR2 b) w := h
  refine s_A h (by first | rfl | (simp only [adr]; omega)) ?_
  refine s_nw0 h rfl rfl rfl (by decide) (fun _ => rfl) (by decide) fun w h => ?_
  replace h : Mst b 91 [(85, 4)] iE2 (iR2 b) w := h
  refine s_S (i := 85) h (by first | rfl | (simp only [adr]; omega)) (by decide) rfl rfl rfl ?_
  refine s_pS (i := 85) (ex2 := [(85, 5)]) h (by first | rfl | (simp only [adr]; omega)) (by decide) rfl rfl (by decide) fun w h => ?_
  replace h : Mst b 91 [(85, 5)] iE2 (iR2 b) w := h
  refine s_A h (by first | rfl | (simp only [adr]; omega)) ?_
  refine s_nw0 h rfl rfl rfl (by decide) (fun _ => rfl) (by decide) fun w h => ?_
  replace h : Mst b 92 [(85, 5)] iE2 (iR2 b) w := h
  refine s_S (i := 85) h (by first | rfl | (simp only [adr]; omega)) (by decide) rfl rfl rfl ?_
  refine s_pS (i := 85) (ex2 := [(85, 6)]) h (by first | rfl | (simp only [adr]; omega)) (by decide) rfl rfl (by decide) fun w h => ?_
  replace h : Mst b 92 [(85, 6)] iE2 (iR2 b) w := h
  refine s_sq ?_
  have hz := h.1
  rw [hz]
  refine s_gd (decide_eq_true rfl) ?_
  refine s_sq ?_
  refine s_bd0 (i_plan h rfl (by decide) (by decide) (by decide) iE_pl) fun w h => ?_
  replace h : Mst b 103 [(85, 6)] iE2 (iR2 b) w := h
  refine s_S (i := 85) h (by first | rfl | (simp only [adr]; omega)) (by decide) rfl rfl rfl ?_
  refine s_pR32 h fun w h => ?_
  replace h : Mst b 103 [(85, 6)] iE2 (iR3 b) w := h
  refine s_S (i := 85) h (by first | rfl | (simp only [adr]; omega)) (by decide) rfl rfl rfl ?_
  have h2 : gR w 32 0 11 = b + 92 + 1 := st_R32 h (by decide) 11
  rw [h2]
  refine s_gd vok44 ?_
  refine s_sq ?_
  rw [Nat.add_sub_cancel]
  refine s_S (i := 85) h (by first | rfl | (simp only [adr]; omega)) (by decide) rfl rfl rfl ?_
  refine s_pR32 h fun w h => ?_
  replace h : Mst b 103 [(85, 6)] iE2 (iR4 b) w := h
  refine s_A h (by first | rfl | (simp only [adr]; omega)) ?_
  refine s_nw0 h rfl rfl rfl (by decide) (fun _ => rfl) (by decide) fun w h => ?_
  replace h : Mst b 104 [(85, 6)] iE2 (iR4 b) w := h
  refine s_S (i := 85) h (by first | rfl | (simp only [adr]; omega)) (by decide) rfl rfl rfl ?_
  refine s_pS (i := 85) (ex2 := [(85, 7)]) h (by first | rfl | (simp only [adr]; omega)) (by decide) rfl rfl (by decide) fun w h => ?_
  replace h : Mst b 104 [(85, 7)] iE2 (iR4 b) w := h
  refine s_A h (by first | rfl | (simp only [adr]; omega)) ?_
  refine s_nw0 h rfl rfl rfl (by decide) (fun _ => rfl) (by decide) fun w h => ?_
  replace h : Mst b 105 [(85, 7)] iE2 (iR4 b) w := h
  refine s_S (i := 85) h (by first | rfl | (simp only [adr]; omega)) (by decide) rfl rfl rfl ?_
  refine s_pS (i := 85) (ex2 := [(85, 8)]) h (by first | rfl | (simp only [adr]; omega)) (by decide) rfl rfl (by decide) fun w h => ?_
  replace h : Mst b 105 [(85, 8)] iE2 (iR4 b) w := h
  refine s_A h (by first | rfl | (simp only [adr]; omega)) ?_
  refine s_nw0 h rfl rfl rfl (by decide) (fun _ => rfl) (by decide) fun w h => ?_
  replace h : Mst b 106 [(85, 8)] iE2 (iR4 b) w := h
  refine s_S (i := 85) h (by first | rfl | (simp only [adr]; omega)) (by decide) rfl rfl rfl ?_
  refine s_pS (i := 85) (ex2 := [(85, 9)]) h (by first | rfl | (simp only [adr]; omega)) (by decide) rfl rfl (by decide) fun w h => ?_
  replace h : Mst b 106 [(85, 9)] iE2 (iR4 b) w := h
  refine s_A h (by first | rfl | (simp only [adr]; omega)) ?_
  refine s_nw0 h rfl rfl rfl (by decide) (fun _ => rfl) (by decide) fun w h => ?_
  replace h : Mst b 107 [(85, 9)] iE2 (iR4 b) w := h
  refine s_S (i := 85) h (by first | rfl | (simp only [adr]; omega)) (by decide) rfl rfl rfl ?_
  refine s_pS (i := 85) (ex2 := [(85, 10)]) h (by first | rfl | (simp only [adr]; omega)) (by decide) rfl rfl (by decide) fun w h => ?_
  replace h : Mst b 107 [(85, 10)] iE2 (iR4 b) w := h
  refine s_A h (by first | rfl | (simp only [adr]; omega)) ?_
  refine s_nw0 h rfl rfl rfl (by decide) (fun _ => rfl) (by decide) fun w h => ?_
  replace h : Mst b 108 [(85, 10)] iE2 (iR4 b) w := h
  refine s_S (i := 85) h (by first | rfl | (simp only [adr]; omega)) (by decide) rfl rfl rfl ?_
  refine s_pS (i := 85) (ex2 := [(85, 11)]) h (by first | rfl | (simp only [adr]; omega)) (by decide) rfl rfl (by decide) fun w h => ?_
  replace h : Mst b 108 [(85, 11)] iE2 (iR4 b) w := h
  refine s_A h (by first | rfl | (simp only [adr]; omega)) ?_
  refine s_nw h rfl rfl (by decide) (fun _ => rfl) (by decide) fun w h => ?_
  replace h : Mst b 109 [(108, 0), (85, 11)] iE2 (iR4 b) w := h
  refine s_bd0 (i_X14_init_109 h) fun w h => ?_
  refine s_S (i := 85) h (by first | rfl | (simp only [adr]; omega)) (by decide) rfl rfl rfl ?_
  refine s_pS (i := 85) (ex2 := [(85, 12)]) h (by first | rfl | (simp only [adr]; omega)) (by decide) rfl rfl (by decide) fun w h => ?_
  replace h : Mst b 116 [(85, 12)] iE2 (iR4 b) w := h
  refine s_A h (by first | rfl | (simp only [adr]; omega)) ?_
  refine s_nw h rfl rfl (by decide) (fun _ => rfl) (by decide) fun w h => ?_
  replace h : Mst b 117 [(116, 0), (85, 12)] iE2 (iR4 b) w := h
  refine s_bd0 (i_X14_init_117 h) fun w h => ?_
  refine s_S (i := 85) h (by first | rfl | (simp only [adr]; omega)) (by decide) rfl rfl rfl ?_
  refine s_pS (i := 85) (ex2 := []) h (by first | rfl | (simp only [adr]; omega)) (by decide) rfl rfl (by decide) fun w h => ?_
  replace h : Mst b 124 [] iE2 (iR4 b) w := h
  exact ⟨_, rfl, h⟩
