-- THE PURE PART: the grammar
abbrev Rz : Type := Nat ⊕ (Nat × List Ps)
def bdz (r : Option Rz) (k : Nat → List Ps → Option Rz) : Option Rz := match r with
  | none => none
  | some (.inl e) => some (.inl e)
  | some (.inr (a, o)) => k a o
def emz (p : List Ps) (r : Option Rz) : Option Rz := match r with
  | none => none
  | some (.inl e) => some (.inl e)
  | some (.inr (a, o)) => some (.inr (a, p ++ o))
def okz (a : Nat) (o : List Ps) : Option Rz := some (.inr (a, o))
def flz (a : Nat) : Option Rz := some (.inl a)
def sp (k : Nat) : Ps := (k, -1, -1)
def zT (rec : Nat → Nat → Nat → Nat → Option Rz) (d a : Nat) : Option Rz := bdz (rec 1 d 0 a) fun a1 o1 => emz o1 (rec 4 d 0 a1)
def zTL (tk : Nat → Nat) (rec : Nat → Nat → Nat → Nat → Option Rz) (d w a : Nat) : Option Rz :=
  if tk a = 26 then bdz (rec 1 d 0 (a + 1)) fun a1 o1 => emz (o1 ++ [sp 26]) (rec 4 d w a1)
  else if tk a = 27 then bdz (rec 1 d 0 (a + 1)) fun a1 o1 => emz ((if w = 1 then [sp 27] else []) ++ o1) (rec 4 d 1 a1)
  else okz a (if w = 1 then [sp 27] else [])
def zS (tk : Nat → Nat) (rec : Nat → Nat → Nat → Nat → Option Rz) (d a : Nat) : Option Rz :=
  if tk a = 25 then (if 8 ≤ d then flz a else bdz (rec 1 (d + 1) 0 (a + 1)) fun a1 o => okz a1 (o ++ [sp 25]))
  else if tk a = 32 then (if 8 ≤ d then flz a else bdz (rec 0 (d + 1) 0 (a + 1)) fun a1 o => if tk a1 = 33 then okz (a1 + 1) o else flz a1)
  else if tk a = 24 then (if tk (a + 1) = 3 then (if tk (a + 2) = 23 then (if tk (a + 3) = 3 then okz (a + 4) [(24, nI (a + 1), nI (a + 3))] else flz (a + 3)) else flz (a + 2)) else flz (a + 1))
  else bdz (rec 2 d 0 a) fun a1 o1 => if 40 ≤ tk a1 ∧ tk a1 ≤ 44 then bdz (rec 2 d 0 (a1 + 1)) fun a2 o2 => okz a2 (o1 ++ o2 ++ [sp (tk a1)]) else flz a1
def zE (rec : Nat → Nat → Nat → Nat → Option Rz) (d a : Nat) : Option Rz := bdz (rec 3 d 0 a) fun a1 o1 => emz o1 (rec 5 d 1 a1)
def zEL (tk : Nat → Nat) (rec : Nat → Nat → Nat → Nat → Option Rz) (d w a : Nat) : Option Rz :=
  if tk a = 38 ∨ tk a = 39 then bdz (rec 3 d 0 (a + 1)) fun a1 o1 => emz (o1 ++ [sp (tk a)]) (rec 5 d w a1)
  else if tk a = 36 ∨ tk a = 37 then bdz (rec 3 d 0 (a + 1)) fun a1 o1 => emz ((if w = 1 then [] else [sp w]) ++ o1) (rec 5 d (tk a) a1)
  else okz a (if w = 1 then [] else [sp w])
def zV (tk : Nat → Nat) (rec : Nat → Nat → Nat → Nat → Option Rz) (d a : Nat) : Option Rz :=
  if tk a = 4 ∨ tk a = 17 ∨ tk a = 18 ∨ tk a = 19 then okz (a + 1) [(tk a, nI a, -1)]
  else if tk a = 20 ∨ tk a = 21 ∨ tk a = 22 then (if tk (a + 1) = 23 then (if tk (a + 2) = 3 then okz (a + 3) [(tk a, nI (a + 2), -1)] else flz (a + 2)) else flz (a + 1))
  else if tk a = 37 then (if 8 ≤ d then flz a else bdz (rec 3 (d + 1) 0 (a + 1)) fun a1 o => okz a1 (o ++ [sp 5]))
  else if tk a = 30 then (if 8 ≤ d then flz a else bdz (rec 2 (d + 1) 0 (a + 1)) fun a1 o => if tk a1 = 31 then okz (a1 + 1) o else flz a1)
  else if tk a = 28 ∨ tk a = 29 then (if 8 ≤ d then flz (a + 1) else if tk (a + 1) = 30 then bdz (rec 2 (d + 1) 0 (a + 2)) fun a1 o1 => if tk a1 = 35 then bdz (rec 2 (d + 1) 0 (a1 + 1)) fun a2 o2 => if tk a2 = 31 then okz (a2 + 1) (o1 ++ o2 ++ [sp (tk a)]) else flz a2 else flz a1 else flz (a + 1))
  else flz a
/-- 0 test, 1 single, 2 sum, 3 value, 4 a test's rest (w = 1: an or waits), 5 a sum's rest (w: the sign that waits, or 1) -/
def PZ (tk : Nat → Nat) : Nat → Nat → Nat → Nat → Nat → Option Rz
  | 0, _, _, _, _ => none
  | n + 1, v, d, w, a => if v = 0 then zT (PZ tk n) d a else if v = 1 then zS tk (PZ tk n) d a else if v = 2 then zE (PZ tk n) d a else if v = 3 then zV tk (PZ tk n) d a else if v = 4 then zTL tk (PZ tk n) d w a else zEL tk (PZ tk n) d w a
def rkz (v : Nat) : Nat := if v = 0 then 4 else if v = 1 then 3 else if v = 2 then 2 else 1
def pnz (v w : Nat) : Nat := if v = 4 then (if w = 1 then 1 else 0) else if v < 4 then 0 else if w = 1 then 0 else 1
def Gz (N n v w a : Nat) (r : Option Rz) : Prop := match r with
  | none => n ≤ 10 * (N - a) + rkz v
  | some (.inl e) => a ≤ e ∧ e + 1 ≤ N
  | some (.inr (a', o)) => a' + 1 ≤ N ∧ a + o.length ≤ a' + pnz v w ∧ a ≤ a' ∧ (v < 4 → a < a')
theorem bdz_el {X : Option Rz} {K : Nat → List Ps → Option Rz} {Q : Option Rz → Prop} (hn : X = none → Q none) (hf : ∀ e, X = some (.inl e) → Q (some (.inl e))) (ho : ∀ a o, X = some (.inr (a, o)) → Q (K a o)) : Q (bdz X K) := by
  match X, hn, hf, ho with
  | none, hn, _, _ => exact hn rfl
  | some (.inl e), _, hf, _ => exact hf e rfl
  | some (.inr (a, o)), _, _, ho => exact ho a o rfl
theorem emz_el {X : Option Rz} {p : List Ps} {Q : Option Rz → Prop} (hn : X = none → Q none) (hf : ∀ e, X = some (.inl e) → Q (some (.inl e))) (ho : ∀ a o, X = some (.inr (a, o)) → Q (some (.inr (a, p ++ o)))) : Q (emz p X) := by
  match X, hn, hf, ho with
  | none, hn, _, _ => exact hn rfl
  | some (.inl e), _, hf, _ => exact hf e rfl
  | some (.inr (a, o)), _, _, ho => exact ho a o rfl
/-- a call inside another: from token a1 on -/
theorem gz_bd {N n v w a v1 w1 a1 : Nat} {X : Option Rz} {K : Nat → List Ps → Option Rz} (h : Gz N n v1 w1 a1 X) (ha : a ≤ a1) (hr : 10 * (N - a1) + rkz v1 < 10 * (N - a) + rkz v) (ho : ∀ a2 o, a2 + 1 ≤ N → a1 + o.length ≤ a2 + pnz v1 w1 → a1 ≤ a2 → (v1 < 4 → a1 < a2) → Gz N (n + 1) v w a (K a2 o)) : Gz N (n + 1) v w a (bdz X K) := by
  refine bdz_el (fun e => ?_) (fun e q => ?_) (fun a2 o q => ?_)
  · rw [e] at h
    simp only [Gz] at h ⊢
    omega
  · rw [q] at h
    simp only [Gz] at h ⊢
    omega
  · rw [q] at h
    simp only [Gz] at h
    exact ho a2 o h.1 h.2.1 h.2.2.1 h.2.2.2
theorem gz_em {N n v w a v1 w1 a1 : Nat} {X : Option Rz} {p : List Ps} (h : Gz N n v1 w1 a1 X) (ha : a ≤ a1) (hr : 10 * (N - a1) + rkz v1 < 10 * (N - a) + rkz v) (hp : a + p.length + pnz v1 w1 ≤ a1 + pnz v w) (hl : v < 4 → a < a1) : Gz N (n + 1) v w a (emz p X) := by
  refine emz_el (fun e => ?_) (fun e q => ?_) (fun a2 o q => ?_)
  · rw [e] at h
    simp only [Gz] at h ⊢
    omega
  · rw [q] at h
    simp only [Gz] at h ⊢
    omega
  · rw [q] at h
    simp only [Gz, List.length_append] at h ⊢
    omega
theorem gz_ok {N n v w a a' : Nat} {o : List Ps} (h1 : a' + 1 ≤ N) (h2 : a + o.length ≤ a' + pnz v w) (h3 : a ≤ a') (h4 : v < 4 → a < a') : Gz N n v w a (okz a' o) := ⟨h1, h2, h3, h4⟩
theorem gz_fl {N n v w a e : Nat} (h1 : a ≤ e) (h2 : e + 1 ≤ N) : Gz N n v w a (flz e) := ⟨h1, h2⟩
/-- consumed tokens, numbers of steps, the fuel that is enough -/
theorem PZ_g {tk : Nat → Nat} {N : Nat} (hN : ∀ j, j + 1 ≤ N → (tk j = 1 ∨ tk j = 2) ∨ j + 2 ≤ N) : ∀ n v d w a, v ≤ 5 → a + 1 ≤ N → Gz N n v w a (PZ tk n v d w a)
  | 0, v, d, w, a, _, _ => by simp [PZ, Gz]
  | n + 1, v, d, w, a, hv5, ha => by
    have ih := PZ_g hN n
    have hnx : ∀ j, j + 1 ≤ N → ∀ k, 3 ≤ k → tk j = k → j + 2 ≤ N := fun j hj k hk e => by
      have := hN j hj
      omega
    unfold PZ
    by_cases v0 : v = 0
    · subst v0
      rw [if_pos rfl]
      unfold zT
      refine gz_bd (ih 1 d 0 a (by omega) ha) (by omega) (by simp [rkz]) fun a1 o1 g1 g2 g3 g4 => ?_
      have g4 := g4 (by omega)
      simp [pnz] at g2
      exact gz_em (ih 4 d 0 a1 (by omega) g1) (by omega) (by simp [rkz]; omega) (by simp [pnz] <;> omega) (fun _ => g4)
    rw [if_neg v0]
    by_cases v1 : v = 1
    · subst v1
      rw [if_pos rfl]
      unfold zS
      split
      · rename_i h
        split
        · exact gz_fl (by omega) ha
        · have := hnx a ha 25 (by omega) h
          refine gz_bd (ih 1 (d + 1) 0 (a + 1) (by omega) (by omega)) (by omega) (by simp [rkz]; omega) fun a1 o1 g1 g2 g3 g4 => ?_
          simp [pnz] at g2
          exact gz_ok g1 (by simp [pnz] <;> omega) (by omega) (fun _ => by omega)
      · split
        · rename_i h
          split
          · exact gz_fl (by omega) ha
          · have := hnx a ha 32 (by omega) h
            refine gz_bd (ih 0 (d + 1) 0 (a + 1) (by omega) (by omega)) (by omega) (by simp [rkz]; omega) fun a1 o1 g1 g2 g3 g4 => ?_
            simp [pnz] at g2
            split
            · rename_i h33
              have := hnx a1 g1 33 (by omega) h33
              exact gz_ok (by omega) (by simp [pnz] <;> omega) (by omega) (fun _ => by omega)
            · exact gz_fl (by omega) g1
        · split
          · rename_i h
            have h1 := hnx a ha 24 (by omega) h
            split
            · rename_i h3
              have h2 := hnx (a + 1) (by omega) 3 (by omega) h3
              split
              · rename_i h23
                have h4 := hnx (a + 2) (by omega) 23 (by omega) h23
                split
                · rename_i h33
                  have h5 := hnx (a + 3) (by omega) 3 (by omega) h33
                  exact gz_ok (by omega) (by simp [pnz] <;> omega) (by omega) (fun _ => by omega)
                · exact gz_fl (by omega) (by omega)
              · exact gz_fl (by omega) (by omega)
            · exact gz_fl (by omega) (by omega)
          · refine gz_bd (ih 2 d 0 a (by omega) ha) (by omega) (by simp [rkz]) fun a1 o1 g1 g2 g3 g4 => ?_
            simp [pnz] at g2
            have g4 := g4 (by omega)
            split
            · rename_i hc
              have := hnx a1 g1 (tk a1) (by omega) rfl
              refine gz_bd (ih 2 d 0 (a1 + 1) (by omega) (by omega)) (by omega) (by simp [rkz]; omega) fun a2 o2 k1 k2 k3 k4 => ?_
              simp [pnz] at k2
              exact gz_ok k1 (by simp [pnz] <;> omega) (by omega) (fun _ => by omega)
            · exact gz_fl (by omega) g1
    rw [if_neg v1]
    by_cases v2 : v = 2
    · subst v2
      rw [if_pos rfl]
      unfold zE
      refine gz_bd (ih 3 d 0 a (by omega) ha) (by omega) (by simp [rkz]) fun a1 o1 g1 g2 g3 g4 => ?_
      have g4 := g4 (by omega)
      simp [pnz] at g2
      exact gz_em (ih 5 d 1 a1 (by omega) g1) (by omega) (by simp [rkz]; omega) (by simp [pnz] <;> omega) (fun _ => g4)
    rw [if_neg v2]
    by_cases v3 : v = 3
    · subst v3
      rw [if_pos rfl]
      unfold zV
      split
      · rename_i h
        have := hnx a ha (tk a) (by omega) rfl
        exact gz_ok (by omega) (by simp [pnz]) (by omega) (fun _ => by omega)
      · split
        · rename_i h
          have h1 := hnx a ha (tk a) (by omega) rfl
          split
          · rename_i h23
            have h2 := hnx (a + 1) (by omega) 23 (by omega) h23
            split
            · rename_i h3
              have h4 := hnx (a + 2) (by omega) 3 (by omega) h3
              exact gz_ok (by omega) (by simp [pnz] <;> omega) (by omega) (fun _ => by omega)
            · exact gz_fl (by omega) (by omega)
          · exact gz_fl (by omega) (by omega)
        · split
          · rename_i h
            have h1 := hnx a ha 37 (by omega) h
            split
            · exact gz_fl (by omega) ha
            · refine gz_bd (ih 3 (d + 1) 0 (a + 1) (by omega) (by omega)) (by omega) (by simp [rkz]; omega) fun a1 o1 g1 g2 g3 g4 => ?_
              simp [pnz] at g2
              exact gz_ok g1 (by simp [pnz] <;> omega) (by omega) (fun _ => by omega)
          · split
            · rename_i h
              have h1 := hnx a ha 30 (by omega) h
              split
              · exact gz_fl (by omega) ha
              · refine gz_bd (ih 2 (d + 1) 0 (a + 1) (by omega) (by omega)) (by omega) (by simp [rkz]; omega) fun a1 o1 g1 g2 g3 g4 => ?_
                simp [pnz] at g2
                split
                · rename_i h31
                  have := hnx a1 g1 31 (by omega) h31
                  exact gz_ok (by omega) (by simp [pnz] <;> omega) (by omega) (fun _ => by omega)
                · exact gz_fl (by omega) g1
            · split
              · rename_i h
                have h1 := hnx a ha (tk a) (by omega) rfl
                split
                · exact gz_fl (by omega) (by omega)
                · split
                  · rename_i h30
                    have h2 := hnx (a + 1) (by omega) 30 (by omega) h30
                    refine gz_bd (ih 2 (d + 1) 0 (a + 2) (by omega) (by omega)) (by omega) (by simp [rkz]; omega) fun a1 o1 g1 g2 g3 g4 => ?_
                    simp [pnz] at g2
                    split
                    · rename_i h35
                      have h3 := hnx a1 g1 35 (by omega) h35
                      refine gz_bd (ih 2 (d + 1) 0 (a1 + 1) (by omega) (by omega)) (by omega) (by simp [rkz]; omega) fun a2 o2 k1 k2 k3 k4 => ?_
                      simp [pnz] at k2
                      split
                      · rename_i h31
                        have := hnx a2 k1 31 (by omega) h31
                        exact gz_ok (by omega) (by simp [pnz] <;> omega) (by omega) (fun _ => by omega)
                      · exact gz_fl (by omega) k1
                    · exact gz_fl (by omega) g1
                  · exact gz_fl (by omega) (by omega)
              · exact gz_fl (by omega) ha
    rw [if_neg v3]
    by_cases v4 : v = 4
    · subst v4
      rw [if_pos rfl]
      unfold zTL
      split
      · rename_i h
        have h1 := hnx a ha 26 (by omega) h
        refine gz_bd (ih 1 d 0 (a + 1) (by omega) (by omega)) (by omega) (by simp [rkz]; omega) fun a1 o1 g1 g2 g3 g4 => ?_
        have g4 := g4 (by omega)
        simp [pnz] at g2
        exact gz_em (ih 4 d w a1 (by omega) g1) (by omega) (by simp [rkz]; omega) (by simp; omega) (fun h => by omega)
      · split
        · rename_i h
          have h1 := hnx a ha 27 (by omega) h
          refine gz_bd (ih 1 d 0 (a + 1) (by omega) (by omega)) (by omega) (by simp [rkz]; omega) fun a1 o1 g1 g2 g3 g4 => ?_
          have g4 := g4 (by omega)
          simp [pnz] at g2
          refine gz_em (ih 4 d 1 a1 (by omega) g1) (by omega) (by simp [rkz]; omega) ?_ (fun h => by omega)
          by_cases hw : w = 1 <;> simp [pnz, hw] <;> omega
        · refine gz_ok ha ?_ (by omega) (fun h => by omega)
          by_cases hw : w = 1 <;> simp [pnz, hw]
    rw [if_neg v4]
    have v5 : v = 5 := by omega
    subst v5
    unfold zEL
    split
    · rename_i h
      have h1 := hnx a ha (tk a) (by omega) rfl
      refine gz_bd (ih 3 d 0 (a + 1) (by omega) (by omega)) (by omega) (by simp [rkz]; omega) fun a1 o1 g1 g2 g3 g4 => ?_
      have g4 := g4 (by omega)
      simp [pnz] at g2
      exact gz_em (ih 5 d w a1 (by omega) g1) (by omega) (by simp [rkz]; omega) (by simp; omega) (fun h => by omega)
    · split
      · rename_i h
        have h1 := hnx a ha (tk a) (by omega) rfl
        refine gz_bd (ih 3 d 0 (a + 1) (by omega) (by omega)) (by omega) (by simp [rkz]; omega) fun a1 o1 g1 g2 g3 g4 => ?_
        have g4 := g4 (by omega)
        simp [pnz] at g2
        refine gz_em (ih 5 d (tk a) a1 (by omega) g1) (by omega) (by simp [rkz]; omega) ?_ (fun h => by omega)
        have hne : ¬ tk a = 1 := by omega
        by_cases hw : w = 1 <;> simp [pnz, hw, hne] <;> omega
      · refine gz_ok ha ?_ (by omega) (fun h => by omega)
        by_cases hw : w = 1 <;> simp [pnz, hw]
