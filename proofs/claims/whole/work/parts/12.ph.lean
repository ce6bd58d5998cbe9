-- THE PURE PART: calls of the law; what stays between them
theorem bwE {α β : Type} {e : Option ((Nat ⊕ α) × Mm)} {kx : Nat → Mm → Option β} {k : α → Mm → Option β} {x : Nat} {w : Mm} {r : Option β} (h : e = some (.inl x, w)) (g : kx x w = r) : bw e kx k = r := by rw [h]; exact g
theorem bwT {α β : Type} {e : Option ((Nat ⊕ α) × Mm)} {kx : Nat → Mm → Option β} {k : α → Mm → Option β} {x : α} {w : Mm} {r : Option β} (h : e = some (.inr x, w)) (g : k x w = r) : bw e kx k = r := by rw [h]; exact g
def EqR (w w' : Mm) : Prop := (∀ c k i, ¬ ((11 ≤ c ∧ c ≤ 24) ∨ (39 ≤ c ∧ c ≤ 43) ∨ (55 ≤ c) ∨ (c = 32 ∧ (i = 0 ∨ 18 ≤ i))) → gI w' c k i = gI w c k i) ∧ (∀ c k i, c < 63 → gL w' c k i = gL w c k i) ∧ (∀ c k i, c < 63 → gR w' c k i = gR w c k i) ∧ (∀ a, a < gZ w → gS w' a = gS w a) ∧ gZ w ≤ gZ w'
theorem eqr_rf {w : Mm} : EqR w w := ⟨fun _ _ _ _ => rfl, fun _ _ _ _ => rfl, fun _ _ _ _ => rfl, fun _ _ => rfl, Nat.le_refl _⟩
theorem eqr_tr {w w1 w2 : Mm} (h : EqR w w1) (g : EqR w1 w2) : EqR w w2 := ⟨fun c k i q => (g.1 c k i q).trans (h.1 c k i q), fun c k i q => (g.2.1 c k i q).trans (h.2.1 c k i q), fun c k i q => (g.2.2.1 c k i q).trans (h.2.2.1 c k i q), fun a q => (g.2.2.2.1 a (Nat.lt_of_lt_of_le q h.2.2.2.2)).trans (h.2.2.2.1 a q), Nat.le_trans h.2.2.2.2 g.2.2.2.2⟩
theorem eqr_UA {g : Nat} {w w' : Mm} (h : UA g w w') : EqR w w' := ⟨fun c k i q => h.1 c k i (fun q' => q (by unfold ownA at q'; omega)), fun c k i _ => by rw [gL_2 h.2], fun c k i _ => by rw [gR_2 h.2], fun a _ => by rw [gS_2 h.2], by rw [gZ_2 h.2]; exact Nat.le_refl _⟩
theorem eqr_UB {s : Nat} {w w' : Mm} (h : UB s w w') : EqR w w' := ⟨fun c k i q => h.1 c k i (fun q' => q (by unfold ownB at q'; omega)), fun c k i _ => by rw [gL_2 h.2], fun c k i _ => by rw [gR_2 h.2], fun a _ => by rw [gS_2 h.2], by rw [gZ_2 h.2]; exact Nat.le_refl _⟩
theorem eqr_pL {w : Mm} {k i : Nat} {v : Int64} : EqR w (pL w 63 k i v) := ⟨fun _ _ _ _ => rfl, fun c k' i' q => by unfold gL pL; simp only; rw [if_neg]; omega, fun _ _ _ _ => rfl, fun _ _ => rfl, Nat.le_refl _⟩
theorem eqr_pZ {w : Mm} {z : Nat} (h : gZ w ≤ z) : EqR w (pZ w z) := ⟨fun _ _ _ _ => rfl, fun _ _ _ _ => rfl, fun _ _ _ _ => rfl, fun _ _ => rfl, h⟩
theorem eqr_pI {w : Mm} {c k i : Nat} {v : Int32} (h : (11 ≤ c ∧ c ≤ 24) ∨ (39 ≤ c ∧ c ≤ 43) ∨ (55 ≤ c) ∨ (c = 32 ∧ (i = 0 ∨ 18 ≤ i))) : EqR w (pI w c k i v) := ⟨fun c' k' i' q => by rw [gI_pI, if_neg]; rintro ⟨rfl, -, rfl⟩; exact q h, fun _ _ _ _ => rfl, fun _ _ _ _ => rfl, fun _ _ => rfl, Nat.le_refl _⟩
theorem rb_UA {g k H R : Nat} {S : Gs} {w w' : Mm} (u : UA g w w') (h : RB k H R S w) : RB k H R S w' := rb_cg h u.2 fun c k' i q => u.1 c k' i (by unfold ownA; omega)
theorem ra_UB {s g H R : Nat} {S : Gs} {w w' : Mm} (u : UB s w w') (h : RA g H R S w) (hH : H ≤ 8) (hR : R ≤ 8) : RA g H R S w' := ra_cg h hH hR fun c k' i q => u.1 c k' i (by unfold ownB; omega)
theorem ra_UA {g g' H R : Nat} {S : Gs} {w w' : Mm} (u : UA g w w') (h : RA g' H R S w) (hH : H ≤ 8) (hR : R ≤ 8) (hg : g' ≠ g) : RA g' H R S w' := ra_cg h hH hR fun c k' i q => u.1 c k' i (by unfold ownA; omega)
theorem rb_UB {s k H R : Nat} {S : Gs} {w w' : Mm} (u : UB s w w') (h : RB k H R S w) (hs : k ≠ s) : RB k H R S w' := rb_cg h u.2 fun c k' i q => u.1 c k' i (by unfold ownB; omega)
def Bz (b : Nat) (w : Mm) : Prop := BtB b w ∧ b + 125 ≤ gZ w ∧ gR w 32 0 11 + 10 ≤ gZ w
def Iv (P : Nat → Nat → Mm → Prop) (b t : Nat) (w : Mm) : Prop := ∃ H R S, RA 0 H R S w ∧ RB 0 H R S w ∧ OK (376320 * t) H R S ∧ t ≤ 512 ∧ Bz b w ∧ P H R w
def Stb (P : Nat → Nat → Mm → Prop) : Prop := ∀ H R w w', EqR w w' → P H R w → P H R w'
theorem ok_mono {B B' : Int} {H R : Nat} {S : Gs} (h : OK B H R S) (e : B ≤ B') : OK B' H R S := ⟨h.1, fun r hr => ⟨(h.2 r hr).1, Int.le_trans (h.2 r hr).2 e⟩⟩
theorem adr_lt {b c k : Nat} (h : k < cnt c) : adr b c k < b + 125 := by
  unfold cnt at h
  split at h <;> simp only [adr] <;> (first | omega | (split <;> omega))
theorem bt_eqr {b : Nat} {w w' : Mm} (h : Bz b w) (e : EqR w w') : Bz b w' := by
  obtain ⟨h1, h2, h3⟩ := h
  have e5 := e.2.2.2.2
  refine ⟨fun c k q => ?_, Nat.le_trans h2 e5, by rw [e.2.2.1 _ _ _ (by omega)]; exact Nat.le_trans h3 e5⟩
  have := adr_lt (b := b) q
  rw [e.2.2.2.1 _ (by omega)]
  exact h1 c k q
-- a call that catches, a call that doesn't
def CZ (eL : Option (Int32 × Mm)) (eM : Mm → Option (Int32 × Mm)) (I : Mm → Prop) : Prop := ∃ r w1, eL = some (r, w1) ∧ ∀ z, gZ w1 ≤ z → ∃ r2 w2, eM (pZ w1 z) = some (r2, w2) ∧ gI w2 32 0 0 = r ∧ (r = 0 → gL w2 63 0 0 = r2.toInt64) ∧ I w2
def CN {α : Type} (eL : Option (α × Mm)) (eM : Mm → Option (α × Mm)) (I : Mm → Prop) : Prop := ∃ r w1 w2, eL = some (r, w1) ∧ eM w1 = some (r, w2) ∧ I w2
theorem i64_pL {w : Mm} {v : Int64} : gL (pL w 63 0 0 v) 63 0 0 = v := by simp [gL, pL]
-- which numbers are hedges
theorem hcase (a : Int32) {H : Nat} (hH : H ≤ 8) : (∃ h, h < H ∧ a = nI h) ∨ (a < 0 ∨ nI H ≤ a) := by
  by_cases h : a < 0
  · exact Or.inr (Or.inl h)
  · obtain ⟨j, hj, rfl⟩ := nI_of h
    by_cases q : j < H
    · exact Or.inl ⟨j, q, rfl⟩
    · exact Or.inr (Or.inr (by rw [nI_leI (by omega) hj]; omega))
theorem a_hN {H R h : Nat} {S : Gs} {w : Mm} (hA : RA 0 H R S w) (hH : H ≤ 8) (hh : h < H) : f_X12_hedgeNumbered (nI h) w = some (.inr (some h), w) := by
  unfold f_X12_hedgeNumbered
  refine bd1T (p_X1_hedge hA hH hh) ?_
  refine gdT (by simp only [decide_eq_true_eq]; omega) ?_
  rw [show 8 * 0 + h = h by omega]
theorem a_hNi {H R : Nat} {S : Gs} {w : Mm} {a : Int32} (hA : RA 0 H R S w) (hi : a < 0 ∨ nI H ≤ a) : f_X12_hedgeNumbered a w = some (.inl 0, w) := by
  unfold f_X12_hedgeNumbered f_X1_hedge
  rw [hA.1.1]
  by_cases h : a < 0
  · exact bd1T (brT h rfl) rfl
  · exact bd1T (brF h (brT (hi.resolve_left h) rfl)) rfl
theorem a_rN {H R r : Nat} {S : Gs} {w : Mm} (hA : RA 0 H R S w) (hR : R ≤ 8) (hr : r < R) : f_X12_roseNumbered (nI r) w = some (.inr (some r), w) := by
  unfold f_X12_roseNumbered
  refine bd1T (p_X1_rose hA hR hr) ?_
  refine gdT (by simp only [decide_eq_true_eq]; omega) ?_
  rw [show 8 * 0 + r = r by omega]
theorem a_rNi {H R : Nat} {S : Gs} {w : Mm} {a : Int32} (hA : RA 0 H R S w) (hi : a < 0 ∨ nI R ≤ a) : f_X12_roseNumbered a w = some (.inl 0, w) := by
  unfold f_X12_roseNumbered f_X1_rose
  rw [hA.1.2]
  by_cases h : a < 0
  · exact bd1T (brT h rfl) rfl
  · exact bd1T (brF h (brT (hi.resolve_left h) rfl)) rfl
theorem b_isIn {a lo hi : Int32} {w : Mm} (h1 : lo ≤ a) (h2 : a ≤ hi) : f_X15_isIn a lo hi w = some (1, w) := by
  unfold f_X15_isIn
  exact brF (Int32.not_lt.mpr h1) (brF (Int32.not_lt.mpr h2) rfl)
theorem b_isIn0 {a lo hi : Int32} {w : Mm} (h : a < lo ∨ hi < a) : f_X15_isIn a lo hi w = some (0, w) := by
  unfold f_X15_isIn
  by_cases q : a < lo
  · exact brT q rfl
  · exact brF q (brT (h.resolve_left q) rfl)
theorem b_isH {k H R h : Nat} {S : Gs} {w : Mm} (hB : RB k H R S w) (hH : H ≤ 8) (hh : h < H) : f_X15_isHedge (nI h) w = some (1, w) := by
  obtain ⟨⟨p1, p2, p3, p4, p5, p6, p7, p8⟩, -⟩ := hB
  unfold f_X15_isHedge
  refine gdT p1 (sqT (gdT p2 ?_))
  rw [p5, nI_pr (by omega)]
  exact bd1T (b_isIn (nI_pos' (by omega)) (nI_le (by omega) (by omega))) (gdT (by decide) rfl)
theorem out_lt {a : Int32} {H : Nat} (hH : H ≤ 8) (hi : a < 0 ∨ nI H ≤ a) : a < 0 ∨ nI H - 1 < a := by
  refine hi.imp id fun h => ?_
  have h := Int32.le_iff_toInt_le.mp h
  have e := nI_toInt (n := H) (by omega)
  have e1 := i_1
  rw [Int32.lt_iff_toInt_lt, i_sub (by omega) (by omega)]
  omega
theorem b_isHi {k H R : Nat} {S : Gs} {w : Mm} {a : Int32} (hB : RB k H R S w) (hH : H ≤ 8) (hi : a < 0 ∨ nI H ≤ a) : f_X15_isHedge a w = some (0, w) := by
  obtain ⟨⟨p1, p2, p3, p4, p5, p6, p7, p8⟩, -⟩ := hB
  unfold f_X15_isHedge
  refine gdT p1 (sqT (gdT p2 ?_))
  rw [p5]
  exact bd1T (b_isIn0 (out_lt hH hi)) (gdT (by decide) rfl)
theorem b_isR {k H R r : Nat} {S : Gs} {w : Mm} (hB : RB k H R S w) (hR : R ≤ 8) (hr : r < R) : f_X15_isRose (nI r) w = some (1, w) := by
  obtain ⟨⟨p1, p2, p3, p4, p5, p6, p7, p8⟩, -⟩ := hB
  unfold f_X15_isRose
  refine gdT p1 (sqT (gdT p2 ?_))
  rw [p6, nI_pr (by omega)]
  exact bd1T (b_isIn (nI_pos' (by omega)) (nI_le (by omega) (by omega))) (gdT (by decide) rfl)
theorem b_isRi {k H R : Nat} {S : Gs} {w : Mm} {a : Int32} (hB : RB k H R S w) (hR : R ≤ 8) (hi : a < 0 ∨ nI R ≤ a) : f_X15_isRose a w = some (0, w) := by
  obtain ⟨⟨p1, p2, p3, p4, p5, p6, p7, p8⟩, -⟩ := hB
  unfold f_X15_isRose
  refine gdT p1 (sqT (gdT p2 ?_))
  rw [p6]
  exact bd1T (b_isIn0 (out_lt hR hi)) (gdT (by decide) rfl)
theorem b_kn1 {w : Mm} : f_X15_isKnown 1 w = some (1, pI w 32 0 0 0) := by
  unfold f_X15_isKnown
  exact brF (by decide) (sqT (gdT (by decide) rfl))
theorem b_kn0 {w : Mm} : f_X15_isKnown 0 w = some (0, pI w 32 0 0 1) := by
  unfold f_X15_isKnown
  exact brT rfl (sqT (gdT (by decide) rfl))
/-- the class throws, the reference tells it -/
theorem cz_thr {P : Nat → Nat → Mm → Prop} {b t : Nat} {w : Mm} {eL : Option (Int32 × Mm)} {eM : Mm → Option (Int32 × Mm)} {c : Int32} (hP : Stb P) (hI : Iv P b t w) (ht : t + 1 ≤ 512) (hc : c ≠ 0) (h1 : eL = some (c, w)) (h2 : ∀ z, gZ w ≤ z → ∃ r2 w2, eM (pZ w z) = some (r2, w2) ∧ gI w2 32 0 0 = c ∧ (w2 = pI (pZ w z) 32 0 0 c ∨ ∃ v, w2 = pI (pI (pZ w z) 32 0 0 v) 32 0 0 c)) : CZ eL eM (Iv P b (t + 1)) := by
  refine ⟨c, w, h1, fun z hz => ?_⟩
  obtain ⟨r2, w2, h3, h5, h4⟩ := h2 z hz
  obtain ⟨H, R, S, hA, hB, hO, -, hb, hp⟩ := hI
  have hE : EqR w w2 := by
    rcases h4 with e | ⟨v, e⟩ <;> rw [e]
    · exact eqr_tr (eqr_pZ hz) (eqr_pI (by omega))
    · exact eqr_tr (eqr_tr (eqr_pZ hz) (eqr_pI (by omega))) (eqr_pI (by omega))
  have hA2 : RA 0 H R S w2 := by
    rcases h4 with e | ⟨v, e⟩ <;> rw [e]
    · exact ra_o (show RA 0 H R S (pZ w z) from hA) hO.1.1.1 hO.1.1.2.1 (by omega)
    · exact ra_o (ra_o (show RA 0 H R S (pZ w z) from hA) hO.1.1.1 hO.1.1.2.1 (by omega)) hO.1.1.1 hO.1.1.2.1 (by omega)
  have hB2 : RB 0 H R S w2 := by
    rcases h4 with e | ⟨v, e⟩ <;> rw [e]
    · exact rb_o (show RB 0 H R S (pZ w z) from hB) (by omega)
    · exact rb_o (rb_o (show RB 0 H R S (pZ w z) from hB) (by omega)) (by omega)
  exact ⟨r2, w2, h3, h5, fun e => (hc e).elim, H, R, S, hA2, hB2, ok_mono hO (by omega), ht, bt_eqr hb hE, hP _ _ _ _ hE hp⟩
/-- both answer, neither changes anything -/
theorem cz_get {P : Nat → Nat → Mm → Prop} {b t : Nat} {w : Mm} {eL : Option (Int32 × Mm)} {eM : Mm → Option (Int32 × Mm)} {v : Int32} (hP : Stb P) (hI : Iv P b t w) (ht : t + 1 ≤ 512) (h1 : eL = some (0, pL w 63 0 0 v.toInt64)) (h2 : ∀ z, gZ w ≤ z → eM (pZ (pL w 63 0 0 v.toInt64) z) = some (v, pI (pZ (pL w 63 0 0 v.toInt64) z) 32 0 0 0)) : CZ eL eM (Iv P b (t + 1)) := by
  refine ⟨0, _, h1, fun z hz => ⟨v, _, h2 z hz, by simp [gI_pI], fun _ => ?_, ?_⟩⟩
  · show gL (pL w 63 0 0 v.toInt64) 63 0 0 = _
    exact i64_pL
  · obtain ⟨H, R, S, hA, hB, hO, -, hb, hp⟩ := hI
    have hE : EqR w (pI (pZ (pL w 63 0 0 v.toInt64) z) 32 0 0 0) := eqr_tr (eqr_tr eqr_pL (eqr_pZ hz)) (eqr_pI (by omega))
    exact ⟨H, R, S, ra_o (show RA 0 H R S (pZ (pL w 63 0 0 v.toInt64) z) from hA) hO.1.1.1 hO.1.1.2.1 (by omega), rb_o (show RB 0 H R S (pZ (pL w 63 0 0 v.toInt64) z) from hB) (by omega), ok_mono hO (by omega), ht, bt_eqr hb hE, hP _ _ _ _ hE hp⟩
