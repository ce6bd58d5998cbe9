-- THE PURE PART: names: what is told before a token
def nm (T : List Nat) (st ln : Nat → Nat) (j : Nat) : List Nat := (T.drop (st j)).take (ln j)
/-- the tokens before j of role r -/
def cN (tk : Nat → Nat) (r j : Nat) : List Nat := (List.range j).filter fun u => decide (rol tk u = r)
/-- how many orders begin before j -/
def cO (tk : Nat → Nat) : Nat → Nat
  | 0 => 0
  | j + 1 => if isO (tk j) then cO tk j + 1 else cO tk j
section NAMES
variable {tk : Nat → Nat} {T : List Nat} {st ln : Nat → Nat}
theorem cN_s {r j : Nat} : cN tk r (j + 1) = if rol tk j = r then cN tk r j ++ [j] else cN tk r j := by
  unfold cN
  rw [List.range_succ, List.filter_append]
  by_cases q : rol tk j = r
  · rw [if_pos q]; simp [q]
  · rw [if_neg q]; simp [q]
theorem cN_y {r j : Nat} (h : rol tk j = r) : cN tk r (j + 1) = cN tk r j ++ [j] := by rw [cN_s, if_pos h]
theorem cN_n {r j : Nat} (h : rol tk j ≠ r) : cN tk r (j + 1) = cN tk r j := by rw [cN_s, if_neg h]
theorem cN_mem {r j u : Nat} : u ∈ cN tk r j ↔ u < j ∧ rol tk u = r := by
  unfold cN
  simp
theorem cN_pre {r u : Nat} (hr : rol tk u = r) : ∀ d, (cN tk r (u + 1 + d))[(cN tk r u).length]? = some u
  | 0 => by rw [Nat.add_zero, cN_y hr]; simp
  | d + 1 => by
    have ih := cN_pre hr d
    have hl := (List.getElem?_eq_some_iff.mp ih).1
    show (cN tk r ((u + 1 + d) + 1))[_]? = _
    rw [cN_s]
    split
    · rw [List.getElem?_append_left hl]; exact ih
    · exact ih
theorem cN_at {r u j : Nat} (hr : rol tk u = r) (hu : u < j) : (cN tk r j)[(cN tk r u).length]? = some u := by
  obtain ⟨d, rfl⟩ : ∃ d, j = u + 1 + d := ⟨j - (u + 1), by omega⟩
  exact cN_pre hr d
theorem cN_le {r u : Nat} : ∀ d, (cN tk r u).length ≤ (cN tk r (u + d)).length
  | 0 => Nat.le_refl _
  | d + 1 => by
    have ih := cN_le (r := r) (u := u) d
    show _ ≤ (cN tk r ((u + d) + 1)).length
    rw [cN_s]
    split
    · rw [List.length_append]; omega
    · exact ih
theorem cN_2 {r i u : Nat} : ∀ {j : Nat}, (cN tk r j)[i]? = some u → i = (cN tk r u).length ∧ u < j ∧ rol tk u = r
  | 0, h => by simp [cN] at h
  | j + 1, h => by
    rw [cN_s] at h
    by_cases q : rol tk j = r
    · rw [if_pos q] at h
      rcases app_some h with ⟨h1, h2⟩ | ⟨h1, h2⟩
      · obtain ⟨k1, k2, k3⟩ := cN_2 h2
        exact ⟨k1, by omega, k3⟩
      · subst h1; subst h2; exact ⟨rfl, by omega, q⟩
    · rw [if_neg q] at h
      obtain ⟨k1, k2, k3⟩ := cN_2 h
      exact ⟨k1, by omega, k3⟩
/-- no role 1 or 2 in the two tokens before a name -/
theorem cN_nm {r j : Nat} (h3 : tk j = 3) (hB : ∀ u, u < j → BS tk u) (hj : BS tk j) (hr : r = 1 ∨ r = 2) : cN tk r (j - 2) = cN tk r j := by
  have key : ∀ u, u < j → j ≤ u + 2 → rol tk u ≠ r := fun u h1 h2 e => by
    have h3u : tk u = 3 := by
      unfold rol at e
      by_cases q : tk u = 3
      · exact q
      · rw [if_neg q] at e
        split at e
        · split at e
          · omega
          · split at e <;> omega
        · split at e <;> omega
    have hp : 1 ≤ u ∧ (tk (u - 1) = 7 ∨ tk (u - 1) = 9) := by
      unfold rol at e
      rw [if_pos h3u] at e
      by_cases q0 : u = 0
      · rw [if_pos q0] at e; omega
      · rw [if_neg q0] at e
        by_cases q7 : tk (u - 1) = 7
        · exact ⟨by omega, Or.inl q7⟩
        · rw [if_neg q7] at e
          by_cases q9 : tk (u - 1) = 9
          · exact ⟨by omega, Or.inr q9⟩
          · rw [if_neg q9] at e
            split at e
            · omega
            · split at e
              · omega
              · split at e
                · omega
                · split at e
                  · split at e <;> omega
                  · omega
    have hb := hB (u - 1) (by omega)
    obtain ⟨hp1, hp⟩ := hp
    rcases hp with hp | hp
    · obtain ⟨k1, k2, k3⟩ := hb.2.1 hp
      rw [show u - 1 + 2 = u + 1 by omega] at k2
      rw [show u - 1 + 3 = u + 2 by omega] at k3
      by_cases q : j = u + 1
      · subst q; omega
      · have : j = u + 2 := by omega
        subst this; omega
    · obtain ⟨k1, k2, k3⟩ := hb.2.2.1 hp
      rw [show u - 1 + 2 = u + 1 by omega] at k2
      rw [show u - 1 + 3 = u + 2 by omega] at k3
      by_cases q : j = u + 1
      · subst q; omega
      · have : j = u + 2 := by omega
        subst this; omega
  have h1 := hj.1 h3
  by_cases q : j = 1
  · subst q
    rw [show (1 : Nat) - 2 = 0 by omega, show (1 : Nat) = 0 + 1 from rfl, cN_n (key 0 (by omega) (by omega))]
  · obtain ⟨u, rfl⟩ : ∃ u, j = u + 1 + 1 := ⟨j - 2, by omega⟩
    rw [show u + 1 + 1 - 2 = u by omega, cN_n (key (u + 1) (by omega) (by omega)), cN_n (key u (by omega) (by omega))]
/-- the first of the list with the name of token j -/
def fI (T : List Nat) (tk st ln : Nat → Nat) (r j : Nat) : Option Nat := fnd (fun i => decide (nm T st ln ((cN tk r j).getD i 0) = nm T st ln j)) (cN tk r j).length 0
theorem fnd_1 {p : Nat → Bool} : ∀ (n i k : Nat), i ≤ k → k < i + n → p k = true → (∀ j, i ≤ j → j < k → p j = false) → fnd p n i = some k
  | 0, i, k => fun h1 h2 _ _ => by omega
  | n + 1, i, k => fun h1 h2 hp hn => by
    unfold fnd
    by_cases q : i = k
    · subst q; rw [if_pos hp]
    · rw [hn i (Nat.le_refl _) (by omega)]
      exact fnd_1 n (i + 1) k (by omega) (by omega) hp fun j q1 q2 => hn j (by omega) q2
theorem fnd_2 {p : Nat → Bool} : ∀ (n i k : Nat), fnd p n i = some k → i ≤ k ∧ k < i + n ∧ p k = true
  | 0, i, k => fun h => by cases h
  | n + 1, i, k => fun h => by
    unfold fnd at h
    by_cases q : p i = true
    · rw [if_pos q] at h; cases h; exact ⟨Nat.le_refl _, by omega, q⟩
    · rw [if_neg q] at h
      obtain ⟨h1, h2, h3⟩ := fnd_2 n (i + 1) k h
      exact ⟨by omega, by omega, h3⟩
theorem fI_none {r j : Nat} (h : ∀ u, u < j → rol tk u = r → nm T st ln u ≠ nm T st ln j) : fI T tk st ln r j = none := by
  refine fnd_no _ _ fun i h1 h2 => ?_
  have hl : i < (cN tk r j).length := by omega
  have e : (cN tk r j)[i]? = some ((cN tk r j).getD i 0) := by rw [List.getD_eq_getElem?_getD, List.getElem?_eq_getElem hl]; rfl
  have hm := cN_2 e
  exact decide_eq_false (h _ hm.2.1 hm.2.2)
theorem fI_no {r j u : Nat} (h : fI T tk st ln r j = none) (hu : u < j) (hr : rol tk u = r) : nm T st ln u ≠ nm T st ln j := fun e => by
  have h1 := cN_at hr hu
  have hl := (List.getElem?_eq_some_iff.mp h1).1
  have hg : (cN tk r j).getD (cN tk r u).length 0 = u := by rw [List.getD_eq_getElem?_getD, h1]; rfl
  have : ∀ n i, fnd (fun i => decide (nm T st ln ((cN tk r j).getD i 0) = nm T st ln j)) n i = none → ∀ k, i ≤ k → k < i + n → ¬ nm T st ln ((cN tk r j).getD k 0) = nm T st ln j := by
    intro n
    induction n with
    | zero => intro i _ k h1 h2; omega
    | succ n ih =>
      intro i h k h1 h2
      unfold fnd at h
      by_cases q : decide (nm T st ln ((cN tk r j).getD i 0) = nm T st ln j) = true
      · rw [if_pos q] at h; cases h
      · rw [if_neg q] at h
        by_cases qk : k = i
        · subst qk; exact fun e => q (decide_eq_true e)
        · exact ih (i + 1) h k (by omega) (by omega)
  exact this (cN tk r j).length 0 h (cN tk r u).length (Nat.zero_le _) (by omega) (by rw [hg]; exact e)
theorem fI_some {r j i : Nat} (h : fI T tk st ln r j = some i) : ∃ u, u < j ∧ rol tk u = r ∧ nm T st ln u = nm T st ln j ∧ i = (cN tk r u).length ∧ i < (cN tk r j).length ∧ (cN tk r j)[i]? = some u := by
  obtain ⟨_, h2, h3⟩ := fnd_2 _ _ _ h
  have hl : i < (cN tk r j).length := by omega
  have e : (cN tk r j)[i]? = some ((cN tk r j).getD i 0) := by rw [List.getD_eq_getElem?_getD, List.getElem?_eq_getElem hl]; rfl
  have hm := cN_2 e
  exact ⟨_, hm.2.1, hm.2.2, of_decide_eq_true h3, hm.1, hl, e⟩
/-- the error that a token's name, number or order brings -/
def ec (T : List Nat) (tk st ln : Nat → Nat) (j : Nat) : Nat :=
  if rol tk j = 3 then (if cO tk j = 16 then 4 else 0)
  else if rol tk j = 1 ∨ rol tk j = 2 then (if fI T tk st ln 1 j = none ∧ fI T tk st ln 2 j = none then (if (cN tk (rol tk j) j).length = 8 then 4 else 0) else 2)
  else if rol tk j = 4 ∨ rol tk j = 6 then (if fI T tk st ln 1 j = none ∧ fI T tk st ln 2 j = none then 3 else 0)
  else if rol tk j = 5 ∨ rol tk j = 7 then (if fI T tk st ln 1 j = none then 3 else 0)
  else if rol tk j = 8 then (if fI T tk st ln 2 j = none then 3 else 0)
  else if rol tk j = 9 then (if 1 ≤ nV 0 (nm T st ln j) ∧ nV 0 (nm T st ln j) ≤ 9 then 0 else 5)
  else 0
/-- the listener that a name means: hedges 0.., roses 8.. -/
def mA (T : List Nat) (tk st ln : Nat → Nat) (j : Nat) : Nat := match fI T tk st ln 1 j with
  | some i => i
  | none => match fI T tk st ln 2 j with
    | some i => 8 + i
    | none => 0
def mB (T : List Nat) (tk st ln : Nat → Nat) (j : Nat) : Nat := if rol tk j = 8 then mA T tk st ln j - 8 else mA T tk st ln j
/-- a name that is a hedge's is no rose's -/
theorem fI_un {j i i' : Nat} (h0 : ∀ u, u < j → ec T tk st ln u = 0) (h1 : fI T tk st ln 1 j = some i) (h2 : fI T tk st ln 2 j = some i') : False := by
  obtain ⟨u, g1, g2, g3, _⟩ := fI_some h1
  obtain ⟨v, k1, k2, k3, _⟩ := fI_some h2
  have key : ∀ a b r s, a < b → b < j → rol tk a = r → (r = 1 ∨ r = 2) → rol tk b = s → (s = 1 ∨ s = 2) → nm T st ln a = nm T st ln b → False := fun a b r s hab hb ha hr hb2 hs e => by
    have hz := h0 b hb
    unfold ec at hz
    rw [if_neg (by omega), if_pos (by omega)] at hz
    by_cases q : fI T tk st ln 1 b = none ∧ fI T tk st ln 2 b = none
    · rcases hr with rfl | rfl
      · exact fI_no q.1 hab ha e
      · exact fI_no q.2 hab ha e
    · rw [if_neg q] at hz; cases hz
  by_cases q : u < v
  · exact key u v 1 2 q k1 g2 (Or.inl rfl) k2 (Or.inr rfl) (g3.trans k3.symm)
  · by_cases q2 : v < u
    · exact key v u 2 1 q2 g1 k2 (Or.inr rfl) g2 (Or.inl rfl) (k3.trans g3.symm)
    · have : u = v := by omega
      subst this; omega
end NAMES
