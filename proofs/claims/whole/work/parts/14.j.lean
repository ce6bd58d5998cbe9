-- THE PURE PART: the reference's lines and the book
abbrev Oo : Type := List Ps × Option (List Ps)
def zLineO (tk : Nat → Nat) (a : Nat) : Nat ⊕ (Nat × Option Oo) := if tk a = 11 ∨ tk a = 12 ∨ tk a = 14 then (match bnO tk (zOr1 tk a) with
  | .inl e => .inl e
  | .inr (a1, o) => .inr (a1, some o)) else (match zLine tk a with
  | .inl e => .inl e
  | .inr (a1, _) => .inr (a1, none))
abbrev Bkz : Type := Nat ⊕ (Nat × List (Nat × Oo))
def addO (a : Nat) (o : Option Oo) (r : Bkz) : Bkz := match r with
  | .inl e => .inl e
  | .inr (a2, os) => .inr (a2, match o with
    | none => os
    | some o => (a, o) :: os)
def zBookO (tk : Nat → Nat) : Nat → Nat → Bkz
  | 0, a => .inl a
  | n + 1, a => if tk a = 1 then .inr (a, []) else match zLineO tk a with
    | .inl e => .inl e
    | .inr (a1, o) => if tk a1 = 34 then addO a o (zBookO tk n (a1 + 1)) else .inl a1
def bRz (tk : Nat → Nat) (r : Bkz) : Rz := match r with
  | .inl e => .inl e
  | .inr (a, os) => .inr (a, os.flatMap fun x => oS tk x.1 x.2)
theorem zLine_n {tk : Nat → Nat} {a a1 : Nat} {o : List Ps} (h : ¬ (tk a = 11 ∨ tk a = 12 ∨ tk a = 14)) (e : zLine tk a = .inr (a1, o)) : o = [] := by
  have tkn : ∀ {k b : Nat} {r : Rz}, (r = .inr (a1, o) → o = []) → tkz tk k b r = .inr (a1, o) → o = [] := fun {k b r} hr h => by
    unfold tkz at h
    split at h
    · exact hr h
    · cases h
  unfold zLine at e
  rw [if_neg h] at e
  split at e
  · exact tkn (tkn (tkn fun h => by cases h; rfl)) e
  · split at e
    · exact tkn (tkn (tkn fun h => by cases h; rfl)) e
    · cases e
theorem zBook_O {tk : Nat → Nat} : ∀ n a, zBook tk n a = bRz tk (zBookO tk n a)
  | 0, a => rfl
  | n + 1, a => by
    rw [zBook, zBookO]
    by_cases q : tk a = 1
    · rw [if_pos q, if_pos q]; rfl
    · rw [if_neg q, if_neg q]
      have ih := zBook_O (tk := tk) n
      by_cases h : tk a = 11 ∨ tk a = 12 ∨ tk a = 14
      · have e1 : zLine tk a = oRz tk a (bnO tk (zOr1 tk a)) := by
          unfold zLine
          rw [if_neg (by omega), if_neg (by omega), if_pos h, zOrd_O]
        have e2 : zLineO tk a = (match bnO tk (zOr1 tk a) with
          | .inl e => .inl e
          | .inr (a1, o) => .inr (a1, some o)) := by unfold zLineO; rw [if_pos h]
        rw [e1, e2]
        match bnO tk (zOr1 tk a) with
        | .inl e => rfl
        | .inr (a1, o) =>
          show tkz tk 34 a1 (prz (oS tk a o) (zBook tk n (a1 + 1))) = bRz tk (if tk a1 = 34 then addO a (some o) (zBookO tk n (a1 + 1)) else .inl a1)
          unfold tkz
          by_cases q2 : tk a1 = 34
          · rw [if_pos q2, if_pos q2, ih]
            match zBookO tk n (a1 + 1) with
            | .inl e => rfl
            | .inr (a2, os) => rfl
          · rw [if_neg q2, if_neg q2]; rfl
      · have e2 : zLineO tk a = (match zLine tk a with
          | .inl e => .inl e
          | .inr (a1, _) => .inr (a1, none)) := by unfold zLineO; rw [if_neg h]
        rw [e2]
        have hn : ∀ a1 o, zLine tk a = .inr (a1, o) → o = [] := fun a1 o e => zLine_n h e
        match zLine tk a, hn with
        | .inl e, _ => rfl
        | .inr (a1, o), hn =>
          have := hn _ _ rfl
          subst this
          show tkz tk 34 a1 (prz [] (zBook tk n (a1 + 1))) = bRz tk (if tk a1 = 34 then addO a none (zBookO tk n (a1 + 1)) else .inl a1)
          rw [prz_nil]
          unfold tkz
          by_cases q2 : tk a1 = 34
          · rw [if_pos q2, if_pos q2, ih]
            match zBookO tk n (a1 + 1) with
            | .inl e => rfl
            | .inr (a2, os) => rfl
          · rw [if_neg q2, if_neg q2]; rfl
/-- the values of an order -/
def vO (o : Oo) : List Ps := o.1 ++ o.2.getD []
def vOs (os : List (Nat × Oo)) : List Ps := os.flatMap fun x => vO x.2
/-- where the orders begin, as the reference keeps it -/
def ORc (nv : Nat → Int32) (p : Nat) : Nat → Nat → List (Nat × Oo) → Mm → Prop
  | _, _, [], _ => True
  | m, k, (_, o) :: os, w => (k < 16 → gI w 50 p k = nI m ∧ gI w 51 p k = nI (m + (mcs nv o.1).length) ∧ gI w 52 p k = nI (m + (mcs nv (vO o)).length)) ∧ ORc nv p (m + (mcs nv (vO o)).length) (k + 1) os w
def RLn (T : List Nat) (tk st ln : Nat → Nat) (N p m q k e : Nat) (w : Mm) (res : Nat ⊕ (Nat × Option Oo)) (out : Int32 × Mm) : Prop := match res with
  | .inl b => RO T tk st ln N p m q k e w (.inl b) out
  | .inr (a, some (o1, o2)) => RO T tk st ln N p m q k e w (.inr (a, o1, o2)) out
  | .inr (a, none) => out.1 = 1 ∧ MSt T tk st ln N p a 0 m q out.2 ∧ m + e ≤ 2 * a ∧ q ≤ a ∧ FM p m q w out.2
def RBo (T : List Nat) (tk st ln : Nat → Nat) (N p m q k e : Nat) (w : Mm) (res : Bkz) (out : Nat × Mm) : Prop := match res with
  | .inl b => out.1 = 0 ∧ gI out.2 32 0 9 = nI b ∧ FO p m q k w out.2
  | .inr (a, os) => out.1 = 1 ∧ MSt T tk st ln N p a 0 (m + (mcs (nva T st ln) (vOs os)).length) (q + (opn (nva T st ln) m (vOs os)).length) out.2 ∧ MSEG p m (mcs (nva T st ln) (vOs os)) out.2 ∧ OSEG p q (opn (nva T st ln) m (vOs os)) out.2 ∧ m + (mcs (nva T st ln) (vOs os)).length + e ≤ 2 * a ∧ q + (opn (nva T st ln) m (vOs os)).length ≤ a ∧ FO p m q k w out.2 ∧ ORc (nva T st ln) p m k os out.2 ∧ tk a = 1
section RPARSE
variable {T : List Nat} {tk st ln : Nat → Nat} {N p : Nat}
theorem b_line (hN : ∀ j, j + 1 ≤ N → (tk j = 1 ∨ tk j = 2) ∨ j + 2 ≤ N) (hk : ∀ j, j < N → KK (tk j)) {a m q k e : Nat} {w : Mm} (hS : MSt T tk st ln N p a 0 m q w) (hm : m + e ≤ 2 * a) (hq : q ≤ a) (h5 : gI w 44 p 5 = nI k) (hk5 : k < 500) : ∃ out, f_X15_isLine w = some out ∧ RLn T tk st ln N p m q k e w (zLineO tk a) out := by
  by_cases h : tk a = 11 ∨ tk a = 12 ∨ tk a = 14
  · obtain ⟨out, t1, t2⟩ := b_order (e := e) hN hk hS hm hq h h5 hk5
    have hN4 := hS.2.2.2.2.2.1
    have haN := hS.2.2.2.2.2.2.1
    have e1 : bd1 (f_X15_isOrder (mk (tk a)) w) (fun r w' => gd (decide (r &&& 1 = r)) (some (r, w'))) = some out := by rw [t1]; exact ro_gd t2
    have run : f_X15_isLine w = some out := by
      unfold f_X15_isLine
      rw [hS.1.1]
      refine gdT ((vB_nI (by omega)).mpr (by omega)) ?_
      rw [nI_clamp (by omega), hS.2.1 a (by omega)]
      refine sqT ?_
      rcases h with h | h | h
      · rw [h] at e1 ⊢; exact brT (by decide) e1
      · rw [h] at e1 ⊢; exact brF (by decide) (brT (by decide) e1)
      · rw [h] at e1 ⊢; exact brF (by decide) (brF (by decide) (brT (by decide) e1))
    refine ⟨out, run, ?_⟩
    unfold zLineO
    rw [if_pos h]
    match bnO tk (zOr1 tk a), t2 with
    | .inl b, t2 => exact t2
    | .inr (a1, o1, o2), t2 => exact t2
  · obtain ⟨out, t1, t2⟩ := b_lineN (e := e) hN hk hS hm hq h
    refine ⟨out, t1, ?_⟩
    unfold zLineO
    rw [if_neg h]
    have hn : ∀ a1 o, zLine tk a = .inr (a1, o) → o = [] := fun a1 o e => zLine_n h e
    match zLine tk a, hn, t2 with
    | .inl b, _, t2 => exact ⟨t2.1, t2.2.1, fo_fm t2.2.2⟩
    | .inr (a1, o), hn, t2 =>
      have := hn _ _ rfl
      subst this
      obtain ⟨g1, g2, g3, g4, g5, g6, g7⟩ := t2
      exact ⟨g1, by simpa [mcs, opn] using g2, by simpa [mcs] using g5, by simpa [opn] using g6, g7⟩
end RPARSE
