-- THE PURE PART: every run of the law comes to true
set_option maxRecDepth 100000 in
theorem bt_tab : ∀ c, c < 64 → ∀ k, k < 16 → k < cnt c → ∃ i, i < 125 ∧ adr 0 c k = i ∧ Tc i = c ∧ Tq i = k := by decide +kernel
theorem cnt_lt {c k : Nat} (h : k < cnt c) : c < 64 ∧ k < 16 ∧ ¬ (44 ≤ c ∧ c ≤ 54) := by
  unfold cnt at h
  split at h <;> omega
theorem adr_b {b c k : Nat} (h : k < cnt c) : adr b c k = b + adr 0 c k := by
  unfold cnt at h
  split at h <;> simp only [adr] <;> (first | omega | (split <;> omega))
theorem iv_0 {b : Nat} {w : Mm} (h : Mst b 125 [] iE2 (iR4 b) w) : BtB b w ∧ Iv Pp b 0 w := by
  obtain ⟨g1, g2, g3, g4, g5⟩ := h
  have hbt : BtB b w := fun c k hk => by
    obtain ⟨h1, h2, h3⟩ := cnt_lt hk
    obtain ⟨i, hi, e1, e2, e3⟩ := bt_tab c h1 k h2 hk
    have e4 : Tk b i = k := by unfold Tk; rw [if_neg (by rw [e2]; exact h3)]; exact e3
    rw [adr_b hk, e1, g3 i hi, e2, e4]
    show _ = (c, k, full c)
    rw [show sg1 [] i = full (Tc i) from rfl, e2]
  have i2 : ∀ j, gI w 2 0 j = 0 := fun j => g4 1 (by omega) j
  have i1 : gI w 1 0 10 = -1 := g4 0 (by omega) 10
  have i32 : gI w 32 0 3 = -1 := g4 85 (by omega) 3
  have i322 : gI w 32 0 2 = 0 := g4 85 (by omega) 2
  have i19 : ∀ j, gI w 19 0 j = 0 := fun j => g4 18 (by omega) j
  have i25 : ∀ j, gI w 25 0 j = 0 := fun j => g4 72 (by omega) j
  have i55 : ∀ j, gI w 55 0 j = 0 := fun j => g4 108 (by omega) j
  have i44 : ∀ j, gI w 44 (b + 92) j = 0 := fun j => g4 92 (by omega) j
  have r7 : gR w 1 0 7 = 1 := g5 0 (by omega) (Or.inl rfl) 7
  have r8 : gR w 1 0 8 = 2 := g5 0 (by omega) (Or.inl rfl) 8
  have r11 : gR w 32 0 11 = b + 92 + 1 := g5 85 (by omega) (Or.inr rfl) 11
  have sh : ∀ c, 44 ≤ c → c ≤ 54 → shD w c (b + 92) = true := fun c h1 h2 => by
    have hc : c = 44 ∨ c = 45 ∨ c = 46 ∨ c = 47 ∨ c = 48 ∨ c = 49 ∨ c = 50 ∨ c = 51 ∨ c = 52 ∨ c = 53 ∨ c = 54 := by omega
    have d2 : decide (2 ≤ b + 92) = true := decide_eq_true (by omega)
    unfold shD
    rw [d2, Bool.and_true]
    rcases hc with rfl | rfl | rfl | rfl | rfl | rfl | rfl | rfl | rfl | rfl | rfl
    · exact decide_eq_true (g3 92 (by omega))
    · exact decide_eq_true (g3 93 (by omega))
    · exact decide_eq_true (g3 94 (by omega))
    · exact decide_eq_true (g3 95 (by omega))
    · exact decide_eq_true (g3 96 (by omega))
    · exact decide_eq_true (g3 97 (by omega))
    · exact decide_eq_true (g3 98 (by omega))
    · exact decide_eq_true (g3 99 (by omega))
    · exact decide_eq_true (g3 100 (by omega))
    · exact decide_eq_true (g3 101 (by omega))
    · exact decide_eq_true (g3 102 (by omega))
  refine ⟨hbt, 0, 0, S0 (fun _ => 0) (fun _ => 0), ⟨⟨i19 2, i19 3⟩, ⟨i19 4, i19 5, i19 6, i19 7, i19 8⟩, fun h hh => by omega, fun r hr => by omega⟩, ⟨?_, ⟨i55 0, i55 1, i55 2, i55 3⟩, fun h hh => by omega, fun r hr => by omega⟩, ok_S0 (by omega) (by omega) (by omega) (fun h hh => by omega) (fun h hh => by omega), by omega, ⟨hbt, by omega, by rw [r11]; omega⟩, ⟨[], ⟨by rw [r7]; decide, ?_, ?_, ?_⟩, ⟨fun c h1 h2 => ?_, ?_, ?_, ?_⟩, ?_⟩, ?_, ⟨[], i2 1, i322, ?_, ?_⟩, Or.inl ⟨r7, r8⟩, by rw [r11]; omega⟩
  · refine ⟨by rw [r11]; exact vok44, ?_, ?_, ?_, ?_, ?_, fun h hh => by omega, fun r hr => by omega⟩
    · rw [r11, Nat.add_sub_cancel]; exact sh 44 (by omega) (by omega)
    · rw [r11, Nat.add_sub_cancel]; exact sh 45 (by omega) (by omega)
    · rw [r11, Nat.add_sub_cancel]; exact sh 46 (by omega) (by omega)
    · rw [r11, Nat.add_sub_cancel]; exact i44 0
    · rw [r11, Nat.add_sub_cancel]; exact i44 1
  · rw [r7]; exact i25 7
  · exact Nat.zero_le 400
  · intro j k a c e
    simp at e
  · rw [r11, Nat.add_sub_cancel]; exact sh c h1 h2
  · rw [r11, Nat.add_sub_cancel]; exact i44 4
  · exact Nat.zero_le 16
  · intro j o e
    simp at e
  · intro o ho
    cases ho
  · rw [i1, i32]
  · exact Nat.zero_le 2000
  · intro j x e
    simp at e
theorem law_all {b N : Nat} {sc : Nat → Int32} {w : Mm} (hN : N ≤ 3072) (hw : gZ w = b) : f_L_law b N sc w := by
  have h1 : Mst b 1 [(0, 0)] iE0 (iR0 b) (nw w 1 0 0) := by
    refine ⟨by rw [gZ_nw, hw], by omega, fun i hi => ?_, fun i hi j => ?_, fun i hi hc j => ?_⟩
    · have : i = 0 := by omega
      subst this
      rw [gS_nw, if_pos (by rw [hw]; rfl)]; rfl
    · have : i = 0 := by omega
      subst this
      rw [gI_nw, if_pos ⟨rfl, rfl⟩]; rfl
    · have : i = 0 := by omega
      subst this
      rw [gR_nw, if_pos ⟨rfl, rfl⟩]; rfl
  obtain ⟨w3, e3, h3⟩ := i_X12_init_1 h1
  have h4 : Mst b 86 [(85, 0)] iE1 (iR2 b) (nw w3 32 0 0) := st_nw h3 rfl rfl (by decide) (fun _ => rfl) (fun _ _ => rfl) (by decide) rfl
  obtain ⟨w6, e6, h6⟩ := i_X15_init_86 h4
  have h7 : Mst b 125 [] iE2 (iR4 b) (nw w6 63 0 0) := st_nw h6 rfl rfl (by decide) (fun _ => rfl) (fun h => absurd h (by decide)) (fun _ _ => rfl) rfl
  obtain ⟨k1, k2⟩ := iv_0 h7
  have kl := law_L (b := b) (N := N) (sc := sc) hN 513 0 _ rfl k2
  exact ⟨decide_eq_true hw.symm, w3, e3, decide_eq_true h3.1.symm, w6, e6, decide_eq_true h6.1.symm, k1, kl⟩
