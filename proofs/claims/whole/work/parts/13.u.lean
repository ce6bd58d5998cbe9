-- THE PURE PART: the reference's parser follows the grammar: the rest of a test, of a sum
def pvk (tk : Nat → Nat) (a : Nat) : Prop := 1 ≤ a ∧ tk (a - 1) ≠ 8 ∧ tk (a - 1) ≠ 10
theorem rol_0 {tk : Nat → Nat} {a : Nat} (h : tk a ≠ 3 ∧ tk a ≠ 4 ∧ tk a ≠ 11 ∧ tk a ≠ 12 ∧ tk a ≠ 14) : rol tk a = 0 := by
  unfold rol
  rw [if_neg h.1, if_neg h.2.1, if_neg (by omega)]
theorem bb {α : Type} {e : Option (Nat × Mm)} {K : Mm → Option (α × Mm)} {z : α} : bd1 (bd1 e (fun t w' => br (t = 0) (some ((0 : Int32), w')) (some (1, w')))) (fun r w' => br (r = 0) (some (z, w')) (K w')) = bd1 e (fun t w' => br (t = 0) (some (z, w')) (K w')) := by
  match e with
  | none => rfl
  | some (t, w') =>
    by_cases h : t = 0
    · subst h; rfl
    · simp [bd1, br, h]
def rix (v : Nat) : Nat := if v = 0 then 0 else if v = 1 then 2 else if v = 2 then 3 else 5
def ndR (v d : Nat) : Nat := 4 * (8 - d) + (if v = 0 then 7 else if v = 1 then 5 else if v = 2 then 4 else if v = 3 then 2 else if v = 4 then 5 else 2)
def M4c (k f' : Nat) (w : Mm) : Option (Int32 × Mm) := bd1 (f_X15_isTest_L9 (grpR (k + 1)) f' w) (fun t9 w8 => br (t9 = 0) (some (0, w8)) (some (1, w8)))
def M4b (k f' x : Nat) (w : Mm) : Option (Int32 × Mm) := if x = 1 then bd0 (f_X15_put 20 w) (fun w' => M4c k f' w') else M4c k f' w
def M4 (k f f' x : Nat) (w : Mm) : Option (Int32 × Mm) := bd1 (f_X15_isBoth_L9 (grpR k) f w) (fun t w' => br (t = 0) (some (0, w')) (M4b k f' x w'))
def M5c (k f' : Nat) (w : Mm) : Option (Int32 × Mm) := bd1 (f_X15_isSum_L9 (grpR (k + 1)) f' w) (fun t9 w8 => br (t9 = 0) (some (0, w8)) (some (1, w8)))
def M5b (k f' x : Nat) (w : Mm) : Option (Int32 × Mm) := if x = 1 then M5c k f' w else bd0 (f_X15_put (mop x) w) (fun w' => M5c k f' w')
def M5 (k f f' x : Nat) (w : Mm) : Option (Int32 × Mm) := bd1 (f_X15_isProduct_L9 (grpR k) f w) (fun t w' => br (t = 0) (some (0, w')) (M5b k f' x w'))
def RP (T : List Nat) (tk st ln : Nat → Nat) (N p n : Nat) : Prop := ∀ v d x a m q e k w res, v ≤ 3 → MSt T tk st ln N p a d m q w → m + e ≤ 2 * a → q ≤ a → pvk tk a → ndR v d ≤ k → PZ tk n v d x a = some res → ∃ out, grpR k (rix v) 0 0 w = some out ∧ RM T tk st ln N p d m q e w res out
def RL4 (T : List Nat) (tk st ln : Nat → Nat) (N p n : Nat) : Prop := ∀ d x a m q e k f f' w res, MSt T tk st ln N p a d m q w → m + pnz 4 x + e ≤ 2 * a → q ≤ a → x ≤ 1 → ndR 4 d ≤ k → N ≤ a + f → N ≤ a + f' → PZ tk n 4 d x a = some res → ∃ out, M4 k f f' x w = some out ∧ RM T tk st ln N p d m q e w res out
def RL5 (T : List Nat) (tk st ln : Nat → Nat) (N p n : Nat) : Prop := ∀ d x a m q e k f f' w res, MSt T tk st ln N p a d m q w → m + pnz 5 x + e ≤ 2 * a → q ≤ a → (x = 1 ∨ x = 36 ∨ x = 37) → ndR 5 d ≤ k → N ≤ a + f → N ≤ a + f' → PZ tk n 5 d x a = some res → ∃ out, M5 k f f' x w = some out ∧ RM T tk st ln N p d m q e w res out
section RPARSE
variable {T : List Nat} {tk st ln : Nat → Nat} {N p n : Nat}
theorem rp_use (h : RP T tk st ln N p n) {v d x a m q e k : Nat} {w : Mm} {res : Rz} (hv : v ≤ 3) (hS : MSt T tk st ln N p a d m q w) (hm : m + e ≤ 2 * a) (hq : q ≤ a) (hp : pvk tk a) (hk : ndR v d ≤ k) (g : PZ tk n v d x a = some res) : (∃ b w1, res = .inl b ∧ grpR k (rix v) 0 0 w = some (0, w1) ∧ gI w1 32 0 9 = nI b ∧ FM p m q w w1) ∨ (∃ a1 o w1, res = .inr (a1, o) ∧ grpR k (rix v) 0 0 w = some (1, w1) ∧ MSt T tk st ln N p a1 d (m + (mcs (nva T st ln) o).length) (q + (opn (nva T st ln) m o).length) w1 ∧ MSEG p m (mcs (nva T st ln) o) w1 ∧ OSEG p q (opn (nva T st ln) m o) w1 ∧ m + (mcs (nva T st ln) o).length + e ≤ 2 * a1 ∧ q + (opn (nva T st ln) m o).length ≤ a1 ∧ FM p m q w w1) := by
  obtain ⟨⟨r, w1⟩, h1, h2⟩ := h v d x a m q e k w res hv hS hm hq hp hk g
  match res, h2 with
  | .inl b, h2 =>
    obtain ⟨g1, g2, g3⟩ := h2
    simp only at g1 g2 g3
    subst g1
    exact Or.inl ⟨b, w1, rfl, h1, g2, g3⟩
  | .inr (a1, o), h2 =>
    obtain ⟨g1, g2⟩ := h2
    simp only at g1 g2
    subst g1
    exact Or.inr ⟨a1, o, w1, rfl, h1, g2⟩
/-- a step of one cell behind others -/
theorem rm_op {a d m q a0 : Nat} {o : List Ps} {k : Nat} {v : Int32} {w w1 : Mm} (h : MSt T tk st ln N p a d (m + (mcs (nva T st ln) o).length) (q + (opn (nva T st ln) m o).length) w1) (hv : mc (nva T st ln) (sp k) = [v]) (ho : ∀ m, op1 m (sp k) = []) (hc : MSEG p m (mcs (nva T st ln) o) w1) (hO : OSEG p q (opn (nva T st ln) m o) w1) (u : FM p m q w w1) (hb : m + (mcs (nva T st ln) o).length < 800) : ∃ w2, f_X15_put v w1 = some w2 ∧ MSt T tk st ln N p a d (m + (mcs (nva T st ln) (o ++ [sp k])).length) (q + (opn (nva T st ln) m (o ++ [sp k])).length) w2 ∧ MSEG p m (mcs (nva T st ln) (o ++ [sp k])) w2 ∧ OSEG p q (opn (nva T st ln) m (o ++ [sp k])) w2 ∧ FM p m q w w2 ∧ (mcs (nva T st ln) (o ++ [sp k])).length = (mcs (nva T st ln) o).length + 1 ∧ opn (nva T st ln) m (o ++ [sp k]) = opn (nva T st ln) m o := by
  obtain ⟨w2, u1, u2, u3, u4⟩ := b_put h v hb
  have e1 : mcs (nva T st ln) (o ++ [sp k]) = mcs (nva T st ln) o ++ [v] := by
    rw [mcs_app]; unfold mcs; rw [List.flatMap_cons, hv]; rfl
  have e2 : opn (nva T st ln) m (o ++ [sp k]) = opn (nva T st ln) m o := by
    rw [opn_app, opn, opn, ho]; simp
  have e3 : (mcs (nva T st ln) (o ++ [sp k])).length = (mcs (nva T st ln) o).length + 1 := by rw [e1]; simp
  refine ⟨w2, u1, ?_, ?_, ?_, fm_tr (Nat.le_add_right _ _) (Nat.le_add_right _ _) u u4, e3, e2⟩
  · rw [e3, e2]; exact u2
  · rw [e1]; exact mseg_app (mseg_fm hc u4 (Nat.le_refl _)) (mseg_1 u3)
  · rw [e2]; exact oseg_fm hO u4 (Nat.le_refl _)
theorem mc_sp {nv : Nat → Int32} {k : Nat} (h : k = 25 ∨ k = 26 ∨ k = 27) : mc nv (sp k) = [mk k] := by
  rcases h with rfl | rfl | rfl <;> rfl
theorem mc_sq {nv : Nat → Int32} {k : Nat} (h : k = 28 ∨ k = 29 ∨ (36 ≤ k ∧ k ≤ 44)) : mc nv (sp k) = [mop k] := by
  have : k = 28 ∨ k = 29 ∨ k = 36 ∨ k = 37 ∨ k = 38 ∨ k = 39 ∨ k = 40 ∨ k = 41 ∨ k = 42 ∨ k = 43 ∨ k = 44 := by omega
  rcases this with rfl | rfl | rfl | rfl | rfl | rfl | rfl | rfl | rfl | rfl | rfl <;> rfl
theorem op_sp {k : Nat} (h : k = 5 ∨ 25 ≤ k) : ∀ m, op1 m (sp k) = [] := by
  intro m
  unfold op1 sp
  rw [if_neg (by show ¬ (k = 20 ∨ k = 21 ∨ k = 22); omega), if_neg (by show ¬ k = 24; omega)]
theorem mcs_0 {nv : Nat → Int32} : mcs nv [] = [] := rfl
theorem opn_0 {nv : Nat → Int32} {m : Nat} : opn nv m [] = [] := rfl
theorem rl4_step (hN : ∀ j, j + 1 ≤ N → (tk j = 1 ∨ tk j = 2) ∨ j + 2 ≤ N) (hk : ∀ j, j < N → KK (tk j)) (h1 : RP T tk st ln N p n) (h4 : RL4 T tk st ln N p n) : RL4 T tk st ln N p (n + 1) := by
  intro d x a m q e k f f' w res hS hm hq hx hnd hf hf' g
  have hN4 := hS.2.2.2.2.2.1
  have haN := hS.2.2.2.2.2.2.1
  have ha2 : tk a ≠ 1 → tk a ≠ 2 → a + 2 ≤ N := fun q1 q2 => by have := hN a haN; omega
  have g : zTL tk (PZ tk n) d x a = some res := g
  unfold zTL at g
  obtain ⟨f1, rfl⟩ : ∃ f1, f = f1 + 1 := ⟨f - 1, by omega⟩
  obtain ⟨f2, rfl⟩ : ∃ f2, f' = f2 + 1 := ⟨f' - 1, by omega⟩
  have hnd1 : ndR 1 d ≤ k := hnd
  by_cases q26 : tk a = 26
  · rw [if_pos q26] at g
    have ha2 := ha2 (by omega) (by omega)
    obtain ⟨w1, t1, t2, t3⟩ := b_eatT hS hk 26 19 (by decide) (by decide) q26 ha2 (rol_0 (by omega))
    have hp : pvk tk (a + 1) := ⟨by omega, by rw [Nat.add_sub_cancel]; omega, by rw [Nat.add_sub_cancel]; omega⟩
    rcases bdz_in g with ⟨b, e1, rfl⟩ | ⟨a1, o1, e1, e2⟩
    · rcases rp_use h1 (e := 0) (by omega) t2 (by omega) (by omega) hp hnd1 e1 with ⟨b', w2, r1, r2, r3, r4⟩ | ⟨_, _, _, r1, _⟩
      · cases r1
        refine ⟨(0, w2), ?_, rfl, r3, fm_tr (Nat.le_refl _) (Nat.le_refl _) t3 r4⟩
        unfold M4
        rw [f_X15_isBoth_L9]
        exact bd1T (x := 0) (w := w2) (bd1T t1 (brF (by decide) (bd1T r2 (brT rfl rfl)))) (brT rfl rfl)
      · cases r1
    · have g1 := PZ_g hN n 1 d 0 (a + 1) (by omega) (by omega)
      rw [e1] at g1
      simp only [Gz] at g1
      rcases rp_use h1 (e := pnz 4 x + e + 2) (by omega) t2 (by omega) (by omega) hp hnd1 e1 with ⟨_, _, r1, _⟩ | ⟨a1', o1', w2, r1, r2, r3, r4, r5, r6, r7, r8⟩
      · cases r1
      · cases r1
        obtain ⟨w3, u1, u2, u3, u4, u5, u6, u7⟩ := rm_op (a0 := a) r3 (mc_sp (k := 26) (Or.inr (Or.inl rfl))) (op_sp (Or.inr (by decide))) r4 r5 (fm_tr (Nat.le_refl _) (Nat.le_refl _) t3 r8) (by omega)
        obtain ⟨r', e3, rfl⟩ := emz_pre e2
        obtain ⟨out, q1, q2⟩ := h4 d x a1 _ _ e k f1 (f2 + 1) w3 _ u2 (by rw [u6]; omega) (by rw [u7]; omega) hx hnd (by omega) (by omega) e3
        refine ⟨out, ?_, rm_pre q2 rfl rfl u3 u4 u5⟩
        have hB : f_X15_isBoth_L9 (grpR k) (f1 + 1) w = f_X15_isBoth_L9 (grpR k) f1 w3 := by
          rw [f_X15_isBoth_L9]
          exact bd1T t1 (brF (by decide) (bd1T r2 (brF (by decide) (bd0T u1 rfl))))
        unfold M4 at q1 ⊢
        rw [hB]; exact q1
  · rw [if_neg q26] at g
    have hB : ∀ f1, f_X15_isBoth_L9 (grpR k) (f1 + 1) w = some (1, w) := fun f1 => by
      rw [f_X15_isBoth_L9]
      exact bd1T (b_eatF hS hk 26 19 (by decide) (by decide) q26) (brT rfl rfl)
    -- the or that waits goes first
    have hpre : ∃ w0, M4b k (f2 + 1) x w = M4c k (f2 + 1) w0 ∧ MSt T tk st ln N p a d (m + (mcs (nva T st ln) (if x = 1 then [sp 27] else [])).length) (q + (opn (nva T st ln) m (if x = 1 then [sp 27] else [])).length) w0 ∧ MSEG p m (mcs (nva T st ln) (if x = 1 then [sp 27] else [])) w0 ∧ OSEG p q (opn (nva T st ln) m (if x = 1 then [sp 27] else [])) w0 ∧ FM p m q w w0 ∧ (mcs (nva T st ln) (if x = 1 then [sp 27] else [])).length = pnz 4 x ∧ opn (nva T st ln) m (if x = 1 then [sp 27] else []) = [] := by
      by_cases hx1 : x = 1
      · subst hx1
        have hP : pnz 4 1 = 1 := rfl
        obtain ⟨w3, u1, u2, u3, u4, u5, u6, u7⟩ := rm_op (a0 := a) (o := []) (m := m) (q := q) (w := w) hS (mc_sp (k := 27) (Or.inr (Or.inr rfl))) (op_sp (Or.inr (by decide))) (fun j v x => by simp [mcs] at x) (fun j v x => by simp [opn] at x) fm_rf (by rw [mcs_0, List.length_nil]; omega)
        refine ⟨w3, ?_, u2, u3, u4, u5, u6, u7⟩
        unfold M4b
        rw [if_pos rfl]
        exact bd0T u1 rfl
      · have hP : pnz 4 x = 0 := by unfold pnz; rw [if_pos rfl, if_neg hx1]
        rw [if_neg hx1, hP]
        refine ⟨w, ?_, hS, fun j v x => by simp [mcs] at x, fun j v x => by simp [opn] at x, fm_rf, rfl, rfl⟩
        unfold M4b
        rw [if_neg hx1]
    obtain ⟨w0, hb0, v1, v2, v3, v4, v5, v6⟩ := hpre
    have hM : M4 k (f1 + 1) (f2 + 1) x w = M4c k (f2 + 1) w0 := by
      rw [← hb0]
      unfold M4
      exact bd1T (hB f1) (brF (by decide) rfl)
    rw [hM]
    by_cases q27 : tk a = 27
    · rw [if_pos q27] at g
      have ha2 := ha2 (by omega) (by omega)
      obtain ⟨w1, t1, t2, t3⟩ := b_eatT v1 hk 27 20 (by decide) (by decide) q27 ha2 (rol_0 (by omega))
      have hp : pvk tk (a + 1) := ⟨by omega, by rw [Nat.add_sub_cancel]; omega, by rw [Nat.add_sub_cancel]; omega⟩
      have t4 : FM p m q w w1 := fm_tr (Nat.le_add_right _ _) (Nat.le_add_right _ _) v4 t3
      rcases bdz_in g with ⟨b, e1, rfl⟩ | ⟨a1, o1, e1, e2⟩
      · rcases rp_use h1 (e := 0) (by omega) t2 (by rw [v5]; omega) (by rw [v6]; simp; omega) hp hnd1 e1 with ⟨b', w2, r1, r2, r3, r4⟩ | ⟨_, _, _, r1, _⟩
        · cases r1
          refine ⟨(0, w2), ?_, rfl, r3, fm_tr (Nat.le_add_right _ _) (Nat.le_add_right _ _) t4 r4⟩
          unfold M4c
          rw [f_X15_isTest_L9]
          have hI : grpR (k + 1) 1 0 0 w1 = some (0, w2) := by
            show f_X15_isBoth (grpR k) w1 = _
            unfold f_X15_isBoth
            exact bd1T r2 (brT rfl rfl)
          exact bd1T (x := 0) (w := w2) (bd1T t1 (brF (by decide) (bd1T hI (brT rfl rfl)))) (brT rfl rfl)
        · cases r1
      · have g1 := PZ_g hN n 1 d 0 (a + 1) (by omega) (by omega)
        rw [e1] at g1
        simp only [Gz] at g1
        rcases rp_use h1 (e := e + 1) (by omega) t2 (by rw [v5]; omega) (by rw [v6]; simp; omega) hp hnd1 e1 with ⟨_, _, r1, _⟩ | ⟨a1', o1', w2, r1, r2, r3, r4, r5, r6, r7, r8⟩
        · cases r1
        · cases r1
          obtain ⟨r', e3, rfl⟩ := emz_pre e2
          have hP1 : pnz 4 1 = 1 := rfl
          obtain ⟨out, q1, q2⟩ := h4 d 1 a1 _ _ e k LF f2 w2 _ r3 (by rw [hP1]; omega) r7 (by omega) hnd (by unfold LF; omega) (by omega) e3
          refine ⟨out, ?_, rm_pre q2 ?_ ?_ ?_ ?_ (fm_tr (Nat.le_add_right _ _) (Nat.le_add_right _ _) t4 r8)⟩
          · unfold M4c
            rw [f_X15_isTest_L9]
            refine (?_ : bd1 (bd1 _ _) _ = _)
            have hI : grpR (k + 1) 1 0 0 w1 = bd1 (f_X15_isBoth_L9 (grpR k) LF w2) (fun t9 w8 => br (t9 = 0) (some ((0 : Int32), w8)) (some (1, w8))) := by
              show f_X15_isBoth (grpR k) w1 = _
              unfold f_X15_isBoth
              exact bd1T r2 (brF (by decide) rfl)
            have hE : bd1 (f_X15_eat 20 w0) (fun r3 w4 => br (r3 = 0) (some ((1 : Nat), w4)) (bd1 (grpR (k + 1) 1 0 0 w4) (fun r5 w6 => br (r5 = 0) (some ((0 : Nat), w6)) (bd0 (f_X15_put 20 w6) (fun w7 => f_X15_isTest_L9 (grpR (k + 1)) f2 w7))))) = bd1 (f_X15_isBoth_L9 (grpR k) LF w2) (fun t w' => br (t = 0) (some ((0 : Nat), w')) (bd0 (f_X15_put 20 w') (fun w7 => f_X15_isTest_L9 (grpR (k + 1)) f2 w7))) := by
              refine bd1T t1 (brF (by decide) ?_)
              rw [hI]
              exact bb
            rw [hE]
            rw [← q1]
            unfold M4
            match f_X15_isBoth_L9 (grpR k) LF w2 with
            | none => rfl
            | some (t, w') =>
              by_cases ht : t = 0
              · subst ht; rfl
              · show bd1 (br (t = 0) _ _) _ = br (t = 0) _ _
                unfold br
                rw [if_neg ht, if_neg ht]
                unfold M4b
                rw [if_pos rfl]
                match f_X15_put 20 w' with
                | none => rfl
                | some w7 => rfl
          · rw [mcs_app, List.length_append, Nat.add_assoc]
          · rw [opn_app, List.length_append, Nat.add_assoc]
          · rw [mcs_app]; exact mseg_app (mseg_fm v2 (fm_tr (Nat.le_refl _) (Nat.le_refl _) t3 r8) (Nat.le_refl _)) r4
          · rw [opn_app]; exact oseg_app (oseg_fm v3 (fm_tr (Nat.le_refl _) (Nat.le_refl _) t3 r8) (Nat.le_refl _)) r5
    · rw [if_neg q27] at g
      cases g
      refine ⟨(1, w0), ?_, rfl, v1, v2, v3, by rw [v5]; omega, by rw [v6]; simp; omega, v4⟩
      unfold M4c
      rw [f_X15_isTest_L9]
      exact bd1T (x := 1) (w := w0) (bd1T (b_eatF v1 hk 27 20 (by decide) (by decide) q27) (brT rfl rfl)) (brF (by decide) rfl)
end RPARSE
