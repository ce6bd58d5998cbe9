-- THE PURE PART: a garden begins
/-- a garden at its beginning -/
def S0 (hv pv : Nat → Int32) : Gs := (fun c i => if c = 1 then hv i else if c = 4 then pv i else 0, fun _ => [])
theorem sg_S0 {hv pv : Nat → Int32} {c i : Nat} : sg (S0 hv pv) c i = if c = 1 then hv i else if c = 4 then pv i else 0 := rfl
theorem sr_S0 {hv pv : Nat → Int32} {h : Nat} : sr (S0 hv pv) h = [] := rfl
theorem sumI_0 {f : Nat → Int32} (h : ∀ r, f r = 0) : ∀ R, sumI R f = 0
  | 0 => rfl
  | R + 1 => by rw [sumI, sumI_0 h R, h R]; rfl
theorem ok_S0 {B : Int} {H R : Nat} {hv pv : Nat → Int32} (hB : 0 ≤ B) (hH : H ≤ 8) (hR : R ≤ 8) (h1 : ∀ h, h < H → 1 ≤ (hv h).toInt ∧ (hv h).toInt ≤ 9) (h2 : ∀ r, r < R → 1 ≤ (pv r).toInt ∧ (pv r).toInt ≤ 9) : OK B H R (S0 hv pv) := by
  have e0 : (0 : Int32).toInt = 0 := by decide
  refine ⟨⟨⟨hH, hR, fun h _ => ⟨List.nodup_nil, fun x hx => by cases hx⟩⟩, fun h hh => ?_, fun r hr => ?_, ?_⟩, fun r hr => ?_⟩
  · rw [sg_S0, if_pos rfl]; exact h1 h hh
  · have := h2 r hr
    rw [sg_S0, sg_S0, if_neg (by decide), if_neg (by decide), if_neg (by decide), if_pos rfl, e0]
    omega
  · rw [sg_S0, if_neg (by decide), if_neg (by decide), sumI_0 fun r => by rw [sg_S0, if_neg (by decide), if_neg (by decide)]]
  · rw [sg_S0, if_neg (by decide), if_neg (by decide), e0]; omega
theorem a_begH {z : Nat} {w0 : Mm} : ∀ (d u f : Nat) (w : Mm), u + d = 8 → d < f → UA 0 w0 w → (∀ c k i, c ≠ 22 → gI w c k i = gI w0 c k i) → (∀ h, h < u → gI w 22 (8 * 0 + h) 0 = gI w0 26 z h ∧ gI w 22 (8 * 0 + h) 1 = 0 ∧ gI w 22 (8 * 0 + h) 2 = 0 ∧ gI w 22 (8 * 0 + h) 3 = 0) → ∃ w', f_X1_begin_L18 0 z f (nI u) w = some w' ∧ UA 0 w0 w' ∧ (∀ c k i, c ≠ 22 → gI w' c k i = gI w0 c k i) ∧ (∀ h, h < 8 → gI w' 22 (8 * 0 + h) 0 = gI w0 26 z h ∧ gI w' 22 (8 * 0 + h) 1 = 0 ∧ gI w' 22 (8 * 0 + h) 2 = 0 ∧ gI w' 22 (8 * 0 + h) 3 = 0)
  | 0, u, f + 1, w, e, hf, hU, hc, hh => by
    have e : u = 8 := by omega
    subst e
    exact ⟨w, by rw [f_X1_begin_L18]; exact brT (by decide) rfl, hU, hc, hh⟩
  | d + 1, u, f + 1, w, e, hf, hU, hc, hh => by
    have g : ∀ c k i, gI (pI (pI (pI (pI w 22 (8 * 0 + u) 0 (gI w0 26 z u)) 22 (8 * 0 + u) 1 0) 22 (8 * 0 + u) 2 0) 22 (8 * 0 + u) 3 0) c k i = if c = 22 ∧ k = 8 * 0 + u ∧ i = 3 then 0 else if c = 22 ∧ k = 8 * 0 + u ∧ i = 2 then 0 else if c = 22 ∧ k = 8 * 0 + u ∧ i = 1 then 0 else if c = 22 ∧ k = 8 * 0 + u ∧ i = 0 then gI w0 26 z u else gI w c k i := fun _ _ _ => rfl
    have ow : ownA 0 22 (8 * 0 + u) := by unfold ownA; omega
    obtain ⟨w', k1, k2⟩ := a_begH (z := z) (w0 := w0) d (u + 1) f (pI (pI (pI (pI w 22 (8 * 0 + u) 0 (gI w0 26 z u)) 22 (8 * 0 + u) 1 0) 22 (8 * 0 + u) 2 0) 22 (8 * 0 + u) 3 0) (by omega) (by omega) (UA_p (UA_p (UA_p (UA_p hU ow) ow) ow) ow) (fun c k i q => by rw [g, if_neg (by omega), if_neg (by omega), if_neg (by omega), if_neg (by omega)]; exact hc c k i q) fun h hlt => by
      by_cases q : h = u
      · subst q
        refine ⟨?_, ?_, ?_, ?_⟩
        · rw [g, if_neg (by omega), if_neg (by omega), if_neg (by omega), if_pos ⟨rfl, rfl, rfl⟩]
        · rw [g, if_neg (by omega), if_neg (by omega), if_pos ⟨rfl, rfl, rfl⟩]
        · rw [g, if_neg (by omega), if_pos ⟨rfl, rfl, rfl⟩]
        · rw [g, if_pos ⟨rfl, rfl, rfl⟩]
      · have := hh h (by omega)
        refine ⟨?_, ?_, ?_, ?_⟩ <;> rw [g, if_neg (by omega), if_neg (by omega), if_neg (by omega), if_neg (by omega)]
        · exact this.1
        · exact this.2.1
        · exact this.2.2.1
        · exact this.2.2.2
    refine ⟨w', ?_, k2⟩
    rw [f_X1_begin_L18]
    have h8 : ¬ (8 : Int32) ≤ nI u := by rw [show (8 : Int32) = nI 8 from rfl, nI_leI (by omega) (by omega)]; omega
    refine brF h8 (brF h8 (gdT ((vB_nI (by omega)).mpr (by omega)) (gdT ((vB_nI (by omega)).mpr (by omega)) ?_)))
    rw [nI_clamp (by omega), hc 26 z u (by omega)]
    refine bd0T (w := pI (pI (pI (pI w 22 (8 * 0 + u) 0 (gI w0 26 z u)) 22 (8 * 0 + u) 1 0) 22 (8 * 0 + u) 2 0) 22 (8 * 0 + u) 3 0) rfl ?_
    rw [nI_1]; exact k1
theorem a_begR {z : Nat} {w0 : Mm} : ∀ (d u f : Nat) (w : Mm), u + d = 8 → d < f → UA 0 w0 w → (∀ c k i, c ≠ 24 → gI w c k i = gI w0 c k i) → (∀ h, h < u → gI w 24 (8 * 0 + h) 0 = gI w0 27 z h ∧ gI w 24 (8 * 0 + h) 1 = 0 ∧ gI w 24 (8 * 0 + h) 2 = 0 ∧ gI w 24 (8 * 0 + h) 3 = 0) → ∃ w', f_X1_begin_L59 0 z f (nI u) w = some w' ∧ UA 0 w0 w' ∧ (∀ c k i, c ≠ 24 → gI w' c k i = gI w0 c k i) ∧ (∀ h, h < 8 → gI w' 24 (8 * 0 + h) 0 = gI w0 27 z h ∧ gI w' 24 (8 * 0 + h) 1 = 0 ∧ gI w' 24 (8 * 0 + h) 2 = 0 ∧ gI w' 24 (8 * 0 + h) 3 = 0)
  | 0, u, f + 1, w, e, hf, hU, hc, hh => by
    have e : u = 8 := by omega
    subst e
    exact ⟨w, by rw [f_X1_begin_L59]; exact brT (by decide) rfl, hU, hc, hh⟩
  | d + 1, u, f + 1, w, e, hf, hU, hc, hh => by
    have g : ∀ c k i, gI (pI (pI (pI (pI w 24 (8 * 0 + u) 0 (gI w0 27 z u)) 24 (8 * 0 + u) 1 0) 24 (8 * 0 + u) 2 0) 24 (8 * 0 + u) 3 0) c k i = if c = 24 ∧ k = 8 * 0 + u ∧ i = 3 then 0 else if c = 24 ∧ k = 8 * 0 + u ∧ i = 2 then 0 else if c = 24 ∧ k = 8 * 0 + u ∧ i = 1 then 0 else if c = 24 ∧ k = 8 * 0 + u ∧ i = 0 then gI w0 27 z u else gI w c k i := fun _ _ _ => rfl
    have ow : ownA 0 24 (8 * 0 + u) := by unfold ownA; omega
    obtain ⟨w', k1, k2⟩ := a_begR (z := z) (w0 := w0) d (u + 1) f (pI (pI (pI (pI w 24 (8 * 0 + u) 0 (gI w0 27 z u)) 24 (8 * 0 + u) 1 0) 24 (8 * 0 + u) 2 0) 24 (8 * 0 + u) 3 0) (by omega) (by omega) (UA_p (UA_p (UA_p (UA_p hU ow) ow) ow) ow) (fun c k i q => by rw [g, if_neg (by omega), if_neg (by omega), if_neg (by omega), if_neg (by omega)]; exact hc c k i q) fun h hlt => by
      by_cases q : h = u
      · subst q
        refine ⟨?_, ?_, ?_, ?_⟩
        · rw [g, if_neg (by omega), if_neg (by omega), if_neg (by omega), if_pos ⟨rfl, rfl, rfl⟩]
        · rw [g, if_neg (by omega), if_neg (by omega), if_pos ⟨rfl, rfl, rfl⟩]
        · rw [g, if_neg (by omega), if_pos ⟨rfl, rfl, rfl⟩]
        · rw [g, if_pos ⟨rfl, rfl, rfl⟩]
      · have := hh h (by omega)
        refine ⟨?_, ?_, ?_, ?_⟩ <;> rw [g, if_neg (by omega), if_neg (by omega), if_neg (by omega), if_neg (by omega)]
        · exact this.1
        · exact this.2.1
        · exact this.2.2.1
        · exact this.2.2.2
    refine ⟨w', ?_, k2⟩
    rw [f_X1_begin_L59]
    have h8 : ¬ (8 : Int32) ≤ nI u := by rw [show (8 : Int32) = nI 8 from rfl, nI_leI (by omega) (by omega)]; omega
    refine brF h8 (brF h8 (gdT ((vB_nI (by omega)).mpr (by omega)) (gdT ((vB_nI (by omega)).mpr (by omega)) ?_)))
    rw [nI_clamp (by omega), hc 27 z u (by omega)]
    refine bd0T (w := pI (pI (pI (pI w 24 (8 * 0 + u) 0 (gI w0 27 z u)) 24 (8 * 0 + u) 1 0) 24 (8 * 0 + u) 2 0) 24 (8 * 0 + u) 3 0) rfl ?_
    rw [nI_1]; exact k1
/-- the class's garden begins -/
theorem a_begin {z H R : Nat} {w : Mm} (hH : H ≤ 8) (hR : R ≤ 8) (h2 : gI w 25 z 2 = nI H) (h3 : gI w 25 z 3 = nI R) : ∃ w', f_X1_begin 0 z w = some w' ∧ UA 0 w w' ∧ RA 0 H R (S0 (gI w 26 z) (gI w 27 z)) w' := by
  have ow : ownA 0 19 0 := by unfold ownA; omega
  obtain ⟨w1, hw1⟩ : ∃ w1, w1 = pI (pI w 19 0 2 (nI H)) 19 0 3 (nI R) := ⟨_, rfl⟩
  have e1 : ∀ c k i, c ≠ 19 → gI w1 c k i = gI w c k i := fun c k i q => by rw [hw1, gI_pI, if_neg (by omega), gI_pI, if_neg (by omega)]
  have u1 : UA 0 w w1 := by rw [hw1]; exact UA_p (UA_p UA_rf ow) ow
  obtain ⟨w2, a1, a2, a3, a4⟩ := a_begH (z := z) (w0 := w1) 8 0 LF w1 (by omega) (by unfold LF; omega) UA_rf (fun _ _ _ _ => rfl) (fun h hh => by omega)
  obtain ⟨w3, b1, b2, b3, b4⟩ := a_begR (z := z) (w0 := w2) 8 0 LF w2 (by omega) (by unfold LF; omega) UA_rf (fun _ _ _ _ => rfl) (fun h hh => by omega)
  have g : ∀ c k i, gI (pI (pI (pI (pI (pI w3 19 0 4 0) 19 0 5 0) 19 0 6 0) 19 0 7 0) 19 0 8 0) c k i = if c = 19 ∧ k = 0 ∧ i = 8 then 0 else if c = 19 ∧ k = 0 ∧ i = 7 then 0 else if c = 19 ∧ k = 0 ∧ i = 6 then 0 else if c = 19 ∧ k = 0 ∧ i = 5 then 0 else if c = 19 ∧ k = 0 ∧ i = 4 then 0 else gI w3 c k i := fun _ _ _ => rfl
  have gn : ∀ c k i, ¬ (c = 19 ∧ k = 0 ∧ 4 ≤ i) → gI (pI (pI (pI (pI (pI w3 19 0 4 0) 19 0 5 0) 19 0 6 0) 19 0 7 0) 19 0 8 0) c k i = gI w3 c k i := fun c k i q => by
    rw [g, if_neg (by omega), if_neg (by omega), if_neg (by omega), if_neg (by omega), if_neg (by omega)]
  refine ⟨pI (pI (pI (pI (pI w3 19 0 4 0) 19 0 5 0) 19 0 6 0) 19 0 7 0) 19 0 8 0, ?_, UA_p (UA_p (UA_p (UA_p (UA_p (UA_tr u1 (UA_tr a2 b2)) ow) ow) ow) ow) ow, ⟨?_, ?_⟩, ⟨?_, ?_, ?_, ?_, ?_⟩, fun h hh => ?_, fun r hr => ?_⟩
  · unfold f_X1_begin
    rw [h2]
    refine sqT ?_
    have e : gI (pI w 19 0 2 (nI H)) 25 z 3 = nI R := by rw [gI_pI, if_neg (by omega)]; exact h3
    rw [e]
    refine sqT ?_
    rw [← hw1]
    rw [show (0 : Int32) = nI 0 from rfl] at *
    exact bd0T a1 (bd0T b1 rfl)
  · rw [gn _ _ _ (by omega), b3 _ _ _ (by omega), a3 _ _ _ (by omega), hw1, gI_pI, if_neg (by omega), gI_pI, if_pos ⟨rfl, rfl, rfl⟩]
  · rw [gn _ _ _ (by omega), b3 _ _ _ (by omega), a3 _ _ _ (by omega), hw1, gI_pI, if_pos ⟨rfl, rfl, rfl⟩]
  · rw [g]; rfl
  · rw [g]; rfl
  · rw [g]; rfl
  · rw [g]; rfl
  · rw [g]; rfl
  · obtain ⟨k1, k2, k3, k4⟩ := a4 h (by omega)
    rw [gn _ _ _ (by omega), gn _ _ _ (by omega), gn _ _ _ (by omega), gn _ _ _ (by omega), b3 _ _ _ (by omega), b3 _ _ _ (by omega), b3 _ _ _ (by omega), b3 _ _ _ (by omega), k1, k2, k3, k4, e1 _ _ _ (by omega)]
    exact ⟨rfl, rfl, rfl, rfl, fun p x hp => by simp [sr_S0] at hp⟩
  · obtain ⟨k1, k2, k3, k4⟩ := b4 r (by omega)
    rw [gn _ _ _ (by omega), gn _ _ _ (by omega), gn _ _ _ (by omega), gn _ _ _ (by omega), k1, k2, k3, k4, a3 _ _ _ (by omega), e1 _ _ _ (by omega)]
    exact ⟨rfl, rfl, rfl, rfl⟩
/-- the reference's state begins -/
theorem b_begin {b : Nat} {w : Mm} (h2 : 2 ≤ gZ w) : ∃ w', f_X14_begin b 0 w = some w' ∧ (∀ c k i, ¬ (55 ≤ c ∧ c ≤ 62) → gI w' c k i = gI w c k i) ∧ (∀ c k i, ¬ (55 ≤ c ∧ c ≤ 62) → gL w' c k i = gL w c k i) ∧ (∀ c k i, ¬ (55 ≤ c ∧ c ≤ 62) → gR w' c k i = gR w c k i) ∧ (∀ a, a < gZ w → gS w' a = gS w a) ∧ gZ w ≤ gZ w' ∧ (gI w' 55 0 0 = 0 ∧ gI w' 55 0 1 = 0 ∧ gI w' 55 0 2 = 0 ∧ gI w' 55 0 3 = 0) ∧ (∀ c i, 57 ≤ c → c ≤ 62 → i < 8 → gI w' c 0 i = 0) := by
  obtain ⟨w4, k1, h1, hz, hs, hi, ha, hZ⟩ := k_state (b := b) h2
  obtain ⟨p, hp⟩ : ∃ p, p = gZ w := ⟨_, rfl⟩
  rw [← hp] at k1 h1 hz hs hi ha hZ h2
  have c128 : (128 : Int32).toNatClampNeg = 128 := by decide
  have c8 : (8 : Int32).toNatClampNeg = 8 := by decide
  have a55 : adr b 55 p = p := by simp only [adr]; rw [if_neg (by omega)]
  have s55 : ∀ w', gS w' = gS w4 → shS w' b 55 p 8 = true := fun w' e => by
    unfold shS; rw [e, a55, hs]; exact decide_eq_true rfl
  have sar : ∀ j, 1 ≤ j → j ≤ 7 → adr b (55 + j) p = p + j → ∀ w', gS w' = gS w4 → shS w' b (55 + j) p 0 = true := fun j q1 q2 ea w' e => by
    unfold shS; rw [e, ea, hi j q1 q2]; exact decide_eq_true rfl
  have s56 := sar 1 (by omega) (by omega) (by simp only [adr]; rw [if_neg (by omega)])
  have s57 := sar 2 (by omega) (by omega) (by simp only [adr]; rw [if_neg (by omega)])
  have s58 := sar 3 (by omega) (by omega) (by simp only [adr]; rw [if_neg (by omega)])
  have s59 := sar 4 (by omega) (by omega) (by simp only [adr]; rw [if_neg (by omega)])
  have s60 := sar 5 (by omega) (by omega) (by simp only [adr]; rw [if_neg (by omega)])
  have s61 := sar 6 (by omega) (by omega) (by simp only [adr]; rw [if_neg (by omega)])
  have s62 := sar 7 (by omega) (by omega) (by simp only [adr]; rw [if_neg (by omega)])
  have p0 : ¬ p = 0 := by omega
  have hz55 : ∀ i, gI w4 55 p i = 0 := fun i => hz 55 i (by omega) (by omega)
  obtain ⟨w5, hw5⟩ : ∃ w5, w5 = pI (pI (pI (pI w4 55 0 0 0) 55 0 1 0) 55 0 2 0) 55 0 3 0 := ⟨_, rfl⟩
  have e5 : ∀ c k i, c ≠ 55 → gI w5 c k i = gI w4 c k i := fun c k i q => by
    rw [hw5, gI_pI, if_neg (by omega), gI_pI, if_neg (by omega), gI_pI, if_neg (by omega), gI_pI, if_neg (by omega)]
  have e52 : w5.2 = w4.2 := by rw [hw5]; rfl
  have g : ∀ c k i, gI (pCp (pCp (pCp (pCp (pCp (pCp (pCp w5 56 p 56 0 128) 57 p 57 0 8) 58 p 58 0 8) 59 p 59 0 8) 60 p 60 0 8) 61 p 61 0 8) 62 p 62 0 8) c k i = if c = 62 ∧ k = 0 ∧ i < 8 then gI (pCp (pCp (pCp (pCp (pCp (pCp w5 56 p 56 0 128) 57 p 57 0 8) 58 p 58 0 8) 59 p 59 0 8) 60 p 60 0 8) 61 p 61 0 8) 62 p i else if c = 61 ∧ k = 0 ∧ i < 8 then gI (pCp (pCp (pCp (pCp (pCp w5 56 p 56 0 128) 57 p 57 0 8) 58 p 58 0 8) 59 p 59 0 8) 60 p 60 0 8) 61 p i else if c = 60 ∧ k = 0 ∧ i < 8 then gI (pCp (pCp (pCp (pCp w5 56 p 56 0 128) 57 p 57 0 8) 58 p 58 0 8) 59 p 59 0 8) 60 p i else if c = 59 ∧ k = 0 ∧ i < 8 then gI (pCp (pCp (pCp w5 56 p 56 0 128) 57 p 57 0 8) 58 p 58 0 8) 59 p i else if c = 58 ∧ k = 0 ∧ i < 8 then gI (pCp (pCp w5 56 p 56 0 128) 57 p 57 0 8) 58 p i else if c = 57 ∧ k = 0 ∧ i < 8 then gI (pCp w5 56 p 56 0 128) 57 p i else if c = 56 ∧ k = 0 ∧ i < 128 then gI w5 56 p i else gI w5 c k i := fun _ _ _ => rfl
  have gp : ∀ c i, 56 ≤ c → c ≤ 62 → gI w5 c p i = 0 := fun c i q1 q2 => by rw [e5 _ _ _ (by omega)]; exact hz c i (by omega) (by omega)
  refine ⟨pCp (pCp (pCp (pCp (pCp (pCp (pCp w5 56 p 56 0 128) 57 p 57 0 8) 58 p 58 0 8) 59 p 59 0 8) 60 p 60 0 8) 61 p 61 0 8) 62 p 62 0 8, ?_, fun c k i q => ?_, fun c k i q => ?_, fun c k i q => ?_, fun a q => ?_, ?_, ⟨?_, ?_, ?_, ?_⟩, fun c i q1 q2 q3 => ?_⟩
  · unfold f_X14_begin
    rw [← hp]
    refine sqT (gdT (decide_eq_true h2) (gdT (decide_eq_true (by rw [a55, hp])) (sqT (bd0T k1 (bd1T (x := some 0) (w := pCp (pCp (pCp (pCp (pCp (pCp (pCp w5 56 p 56 0 128) 57 p 57 0 8) 58 p 58 0 8) 59 p 59 0 8) 60 p 60 0 8) 61 p 61 0 8) 62 p 62 0 8) ?_ rfl)))))
    unfold f_X14_become
    rw [c128, c8, hz55]
    refine gdT (s55 _ rfl) (sqT (gdT (s55 _ rfl) ?_))
    rw [show gI (pI w4 55 0 0 0) 55 p 1 = 0 by rw [gI_pI, if_neg (by omega)]; exact hz55 1]
    refine sqT (gdT (s55 _ rfl) ?_)
    rw [show gI (pI (pI w4 55 0 0 0) 55 0 1 0) 55 p 2 = 0 by rw [gI_pI, if_neg (by omega), gI_pI, if_neg (by omega)]; exact hz55 2]
    refine sqT (gdT (s55 _ rfl) ?_)
    rw [show gI (pI (pI (pI w4 55 0 0 0) 55 0 1 0) 55 0 2 0) 55 p 3 = 0 by rw [gI_pI, if_neg (by omega), gI_pI, if_neg (by omega), gI_pI, if_neg (by omega)]; exact hz55 3]
    rw [← hw5]
    have r : gS w5 = gS w4 := gS_2 e52
    exact sqT (gdT (s55 _ r) (gdT (s56 _ r) (sqT (gdT (s55 _ r) (gdT (s57 _ r) (sqT (gdT (s55 _ r) (gdT (s58 _ r) (sqT (gdT (s55 _ r) (gdT (s59 _ r) (sqT (gdT (s55 _ r) (gdT (s60 _ r) (sqT (gdT (s55 _ r) (gdT (s61 _ r) (sqT (gdT (s55 _ r) (gdT (s62 _ r) (sqT rfl)))))))))))))))))))))
  · rw [g, if_neg (by omega), if_neg (by omega), if_neg (by omega), if_neg (by omega), if_neg (by omega), if_neg (by omega), if_neg (by omega), e5 _ _ _ (by omega)]
    exact (h1 c k i (by omega)).1
  · show gL w5 c k i = _
    rw [gL_2 e52]; exact (h1 c k i (by omega)).2.1
  · show gR w5 c k i = _
    rw [gR_2 e52]; exact (h1 c k i (by omega)).2.2
  · show gS w5 a = _
    rw [gS_2 e52]; exact ha a (by omega)
  · show gZ w ≤ w5.2.2.2.2
    rw [e52]
    show gZ w ≤ gZ w4
    omega
  · rw [g, if_neg (by omega), if_neg (by omega), if_neg (by omega), if_neg (by omega), if_neg (by omega), if_neg (by omega), if_neg (by omega), hw5]; rfl
  · rw [g, if_neg (by omega), if_neg (by omega), if_neg (by omega), if_neg (by omega), if_neg (by omega), if_neg (by omega), if_neg (by omega), hw5]; rfl
  · rw [g, if_neg (by omega), if_neg (by omega), if_neg (by omega), if_neg (by omega), if_neg (by omega), if_neg (by omega), if_neg (by omega), hw5]; rfl
  · rw [g, if_neg (by omega), if_neg (by omega), if_neg (by omega), if_neg (by omega), if_neg (by omega), if_neg (by omega), if_neg (by omega), hw5]; rfl
  · have hc : c = 57 ∨ c = 58 ∨ c = 59 ∨ c = 60 ∨ c = 61 ∨ c = 62 := by omega
    rcases hc with rfl | rfl | rfl | rfl | rfl | rfl
    · rw [g]; simp only [gI_pCp, p0, q3]; simp [gp]
    · rw [g]; simp only [gI_pCp, p0, q3]; simp [gp]
    · rw [g]; simp only [gI_pCp, p0, q3]; simp [gp]
    · rw [g]; simp only [gI_pCp, p0, q3]; simp [gp]
    · rw [g]; simp only [gI_pCp, p0, q3]; simp [gp]
    · rw [g]; simp only [gI_pCp, p0, q3]; simp [gp]
