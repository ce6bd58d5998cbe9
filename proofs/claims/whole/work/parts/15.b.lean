-- THE PURE PART: objects that are being made
/-- an object with its arrays, codes lo .. lo + j of the key p, has come -/
def KS (w : Mm) (p lo j st : Nat) (w' : Mm) : Prop := (∀ c k i, ¬ (lo ≤ c ∧ c ≤ lo + j ∧ k = p) → gI w' c k i = gI w c k i ∧ gL w' c k i = gL w c k i ∧ gR w' c k i = gR w c k i) ∧ (∀ c i, lo ≤ c → c ≤ lo + j → gI w' c p i = 0) ∧ gS w' p = (lo, p, st) ∧ (∀ i, 1 ≤ i → i ≤ j → gS w' (p + i) = (lo + i, p, 0)) ∧ (∀ a, a < p → gS w' a = gS w a) ∧ gZ w' = p + 1 + j
theorem gL_nw2 {w : Mm} {c k st c' k' i' : Nat} : gL (nw w c k st) c' k' i' = if c' = c ∧ k' = k then 0 else gL w c' k' i' := rfl
theorem gS_pS2 {w : Mm} {a c k st a' : Nat} : gS (pS w a c k st) a' = if a' = a then (c, k, st) else gS w a' := rfl
theorem ks_0 {w : Mm} {p lo : Nat} (hp : p = gZ w) : KS w p lo 0 0 (nw w lo p 0) := by
  refine ⟨fun c k i q => ⟨?_, ?_, ?_⟩, fun c i h1 h2 => ?_, ?_, fun i h1 h2 => by omega, fun a h => ?_, ?_⟩
  · rw [gI_nw, if_neg (by omega)]
  · rw [gL_nw2, if_neg (by omega)]
  · rw [gR_nw, if_neg (by omega)]
  · rw [gI_nw, if_pos ⟨by omega, rfl⟩]
  · rw [gS_nw, if_pos hp]
  · rw [gS_nw, if_neg (by omega)]
  · rw [gZ_nw, hp]
/-- a stage alone -/
theorem ks_st {w w' : Mm} {p lo j st st' : Nat} (h : KS w p lo j st w') : KS w p lo j st' (pS w' p lo p st') := by
  obtain ⟨h1, h2, h3, h4, h5, h6⟩ := h
  refine ⟨h1, h2, ?_, fun i q1 q2 => ?_, fun a q => ?_, h6⟩
  · rw [gS_pS2, if_pos rfl]
  · rw [gS_pS2, if_neg (by omega)]; exact h4 i q1 q2
  · rw [gS_pS2, if_neg (by omega)]; exact h5 a q
/-- an array and its stage -/
theorem ks_s {w w' : Mm} {p lo j st st' : Nat} (h : KS w p lo j st w') : KS w p lo (j + 1) st' (pS (nw w' (lo + (j + 1)) p 0) p lo p st') := by
  obtain ⟨h1, h2, h3, h4, h5, h6⟩ := h
  have e : ∀ c k i, gI (pS (nw w' (lo + (j + 1)) p 0) p lo p st') c k i = gI (nw w' (lo + (j + 1)) p 0) c k i := fun _ _ _ => rfl
  have e2 : ∀ c k i, gL (pS (nw w' (lo + (j + 1)) p 0) p lo p st') c k i = gL (nw w' (lo + (j + 1)) p 0) c k i := fun _ _ _ => rfl
  have e3 : ∀ c k i, gR (pS (nw w' (lo + (j + 1)) p 0) p lo p st') c k i = gR (nw w' (lo + (j + 1)) p 0) c k i := fun _ _ _ => rfl
  refine ⟨fun c k i q => ⟨?_, ?_, ?_⟩, fun c i q1 q2 => ?_, ?_, fun i q1 q2 => ?_, fun a q => ?_, ?_⟩
  · rw [e, gI_nw, if_neg (by omega)]; exact (h1 c k i (by omega)).1
  · rw [e2, gL_nw2, if_neg (by omega)]; exact (h1 c k i (by omega)).2.1
  · rw [e3, gR_nw, if_neg (by omega)]; exact (h1 c k i (by omega)).2.2
  · rw [e, gI_nw]
    by_cases q : c = lo + (j + 1)
    · rw [if_pos ⟨q, rfl⟩]
    · rw [if_neg (by omega)]; exact h2 c i q1 (by omega)
  · rw [gS_pS2, if_pos rfl]
  · rw [gS_pS2, if_neg (by omega), gS_nw]
    by_cases q : i = j + 1
    · rw [if_pos (by omega), q]
    · rw [if_neg (by omega)]; exact h4 i q1 (by omega)
  · rw [gS_pS2, if_neg (by omega), gS_nw, if_neg (by omega)]; exact h5 a q
  · show gZ w' + 1 = _
    omega
theorem ks_g {β : Type} {w w' : Mm} {p lo j st a : Nat} {X : Option β} {r : Option β} (h : KS w p lo j st w') (ha : a = p + 1 + j) (hX : X = r) : gd (decide (a = gZ w')) X = r := gdT (decide_eq_true (by rw [h.2.2.2.2.2, ha])) hX
theorem ks_h {β : Type} {w w' : Mm} {b p lo j st : Nat} {X : Option β} {r : Option β} (h : KS w p lo j st w') (ha : adr b lo p = p) (hX : X = r) : gd (shS w' b lo p st) X = r := gdT (by unfold shS; rw [ha, h.2.2.1]; exact decide_eq_true rfl) hX
/-- after an array: the owner's stage is still the old one -/
theorem ks_hn {β : Type} {w w' : Mm} {b p lo j st c : Nat} {X : Option β} {r : Option β} (h : KS w p lo j st w') (ha : adr b lo p = p) (hX : X = r) : gd (shS (nw w' c p 0) b lo p st) X = r := gdT (by
  unfold shS
  have := h.2.2.2.2.2
  rw [ha, gS_nw, if_neg (by omega), h.2.2.1]
  exact decide_eq_true rfl) hX
theorem k_plan {b : Nat} {w : Mm} : ∃ w', f_X13_init b (gZ w) (nw w 44 (gZ w) 0) = some w' ∧ KS w (gZ w) 44 10 10 w' := by
  have h0 := ks_0 (w := w) (p := gZ w) (lo := 44) rfl
  obtain ⟨p, hp⟩ : ∃ p, p = gZ w := ⟨_, rfl⟩
  rw [← hp] at h0 ⊢
  unfold f_X13_init
  have h1 := ks_s (st' := 1) h0
  have h2 := ks_s (st' := 2) h1
  have h3 := ks_s (st' := 3) h2
  have h4 := ks_s (st' := 4) h3
  have h5 := ks_s (st' := 5) h4
  have h6 := ks_s (st' := 6) h5
  have h7 := ks_s (st' := 7) h6
  have h8 := ks_s (st' := 8) h7
  have h9 := ks_s (st' := 9) h8
  have h10 := ks_s (st' := 10) h9
  exact ⟨_, ks_g h0 rfl (sqT (ks_hn h0 rfl (sqT (ks_g h1 rfl (sqT (ks_hn h1 rfl (sqT (ks_g h2 rfl (sqT (ks_hn h2 rfl (sqT (ks_g h3 rfl (sqT (ks_hn h3 rfl (sqT (ks_g h4 rfl (sqT (ks_hn h4 rfl (sqT (ks_g h5 rfl (sqT (ks_hn h5 rfl (sqT (ks_g h6 rfl (sqT (ks_hn h6 rfl (sqT (ks_g h7 rfl (sqT (ks_hn h7 rfl (sqT (ks_g h8 rfl (sqT (ks_hn h8 rfl (sqT (ks_g h9 rfl (sqT (ks_hn h9 rfl (sqT rfl))))))))))))))))))))))))))))))))))))))), h10⟩
theorem k_state {b : Nat} {w : Mm} (h2 : 2 ≤ gZ w) : ∃ w', f_X14_init b (gZ w) (nw w 55 (gZ w) 0) = some w' ∧ KS w (gZ w) 55 7 8 w' := by
  have h0 := ks_0 (w := w) (p := gZ w) (lo := 55) rfl
  obtain ⟨p, hp⟩ : ∃ p, p = gZ w := ⟨_, rfl⟩
  rw [← hp] at h0 h2 ⊢
  have a55 : adr b 55 p = p := by simp only [adr]; rw [if_neg (by omega)]
  have a56 : adr b 56 p = p + 1 := by simp only [adr]; rw [if_neg (by omega)]
  have a57 : adr b 57 p = p + 2 := by simp only [adr]; rw [if_neg (by omega)]
  have a58 : adr b 58 p = p + 3 := by simp only [adr]; rw [if_neg (by omega)]
  have a59 : adr b 59 p = p + 4 := by simp only [adr]; rw [if_neg (by omega)]
  have a60 : adr b 60 p = p + 5 := by simp only [adr]; rw [if_neg (by omega)]
  have a61 : adr b 61 p = p + 6 := by simp only [adr]; rw [if_neg (by omega)]
  have a62 : adr b 62 p = p + 7 := by simp only [adr]; rw [if_neg (by omega)]
  unfold f_X14_init
  have h1 := ks_st (st' := 1) h0
  have h2 := ks_s (st' := 2) h1
  have h3 := ks_s (st' := 3) h2
  have h4 := ks_s (st' := 4) h3
  have h5 := ks_s (st' := 5) h4
  have h6 := ks_s (st' := 6) h5
  have h7 := ks_s (st' := 7) h6
  have h8 := ks_s (st' := 8) h7
  refine ⟨_, ks_h h0 a55 (sqT ?_), h8⟩
  rw [a55]
  refine ks_g h1 (by rw [a56]) (sqT (ks_hn h1 a55 (sqT (ks_g h2 (by rw [a57]) (sqT (ks_hn h2 a55 (sqT (ks_g h3 (by rw [a58]) (sqT (ks_hn h3 a55 (sqT (ks_g h4 (by rw [a59]) (sqT (ks_hn h4 a55 (sqT (ks_g h5 (by rw [a60]) (sqT (ks_hn h5 a55 (sqT (ks_g h6 (by rw [a61]) (sqT (ks_hn h6 a55 (sqT (ks_g h7 (by rw [a62]) (sqT (ks_hn h7 a55 (sqT rfl)))))))))))))))))))))))))))
