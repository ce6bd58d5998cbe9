-- THE PURE PART: the reference's parser follows the grammar: the rest of a sum
section RPARSE
variable {T : List Nat} {tk st ln : Nat → Nat} {N p n : Nat}
theorem b_sT {a d m q : Nat} {w : Mm} (h : MSt T tk st ln N p a d m q w) (hk : ∀ j, j < N → KK (tk j)) (j : Nat) (c : Int32) (hj : KK j) (hc : mk j = 50 + c) (hn : tk a = j) : f_X15_isSign c w = some (1, w) := by rw [b_sign h hk j c hj hc, if_pos hn]
theorem b_sF {a d m q : Nat} {w : Mm} (h : MSt T tk st ln N p a d m q w) (hk : ∀ j, j < N → KK (tk j)) (j : Nat) (c : Int32) (hj : KK j) (hc : mk j = 50 + c) (hn : tk a ≠ j) : f_X15_isSign c w = some (0, w) := by rw [b_sign h hk j c hj hc, if_neg hn]
theorem b_prod {a d m q f k : Nat} {w : Mm} {X : Option (Nat × Mm)} (h : MSt T tk st ln N p a d m q w) (hk : ∀ j, j < N → KK (tk j)) (hn : tk a = 38 ∨ tk a = 39) (hX : bd1 (grpR k 5 0 0 (pI w 32 0 9 ((gI w 32 0 9) + 1))) (fun r w6 => br (r = 0) (some ((0 : Nat), w6)) (bd0 (f_X15_put (mop (tk a)) w6) (fun w7 => f_X15_isProduct_L9 (grpR k) f w7))) = X) : f_X15_isProduct_L9 (grpR k) (f + 1) w = X := by
  rw [f_X15_isProduct_L9]
  rcases hn with hn | hn
  · have s1 := b_sT h hk 38 42 (by decide) (by decide) hn
    rw [hn] at hX
    exact bd1T s1 (brF (by decide) (bd1T s1 (brF (by decide) (sqT hX))))
  · have s1 := b_sF h hk 38 42 (by decide) (by decide) (by omega)
    have s2 := b_sT h hk 39 47 (by decide) (by decide) hn
    rw [hn] at hX
    exact bd1T s1 (brT rfl (bd1T s2 (brF (by decide) (bd1T s1 (brT rfl (sqT hX))))))
theorem b_sums {a d m q f k : Nat} {w : Mm} {X : Option (Nat × Mm)} (h : MSt T tk st ln N p a d m q w) (hk : ∀ j, j < N → KK (tk j)) (hn : tk a = 36 ∨ tk a = 37) (hX : bd1 (grpR k 4 0 0 (pI w 32 0 9 ((gI w 32 0 9) + 1))) (fun r w6 => br (r = 0) (some ((0 : Nat), w6)) (bd0 (f_X15_put (mop (tk a)) w6) (fun w7 => f_X15_isSum_L9 (grpR k) f w7))) = X) : f_X15_isSum_L9 (grpR k) (f + 1) w = X := by
  rw [f_X15_isSum_L9]
  rcases hn with hn | hn
  · have s1 := b_sT h hk 36 43 (by decide) (by decide) hn
    rw [hn] at hX
    exact bd1T s1 (brF (by decide) (bd1T s1 (brF (by decide) (sqT hX))))
  · have s1 := b_sF h hk 36 43 (by decide) (by decide) (by omega)
    have s2 := b_sT h hk 37 45 (by decide) (by decide) hn
    rw [hn] at hX
    exact bd1T s1 (brT rfl (bd1T s2 (brF (by decide) (bd1T s1 (brT rfl (sqT hX))))))
theorem rl5_step (hN : ∀ j, j + 1 ≤ N → (tk j = 1 ∨ tk j = 2) ∨ j + 2 ≤ N) (hk : ∀ j, j < N → KK (tk j)) (h1 : RP T tk st ln N p n) (h5 : RL5 T tk st ln N p n) : RL5 T tk st ln N p (n + 1) := by
  intro d x a m q e k f f' w res hS hm hq hx hnd hf hf' g
  have hN4 := hS.2.2.2.2.2.1
  have haN := hS.2.2.2.2.2.2.1
  have ha2 : tk a ≠ 1 → tk a ≠ 2 → a + 2 ≤ N := fun q1 q2 => by have := hN a haN; omega
  have g : zEL tk (PZ tk n) d x a = some res := g
  unfold zEL at g
  obtain ⟨f1, rfl⟩ : ∃ f1, f = f1 + 1 := ⟨f - 1, by omega⟩
  obtain ⟨f2, rfl⟩ : ∃ f2, f' = f2 + 1 := ⟨f' - 1, by omega⟩
  have hnd1 : ndR 3 d ≤ k := hnd
  by_cases qm : tk a = 38 ∨ tk a = 39
  · rw [if_pos qm] at g
    have ha2 := ha2 (by omega) (by omega)
    obtain ⟨t2, t3⟩ := m_adv hS ha2 (rol_0 (by omega))
    have hp : pvk tk (a + 1) := ⟨by omega, by rw [Nat.add_sub_cancel]; omega, by rw [Nat.add_sub_cancel]; omega⟩
    rcases bdz_in g with ⟨b, e1, rfl⟩ | ⟨a1, o1, e1, e2⟩
    · rcases rp_use h1 (e := 0) (by omega) t2 (by omega) (by omega) hp hnd1 e1 with ⟨b', w2, r1, r2, r3, r4⟩ | ⟨_, _, _, r1, _⟩
      · cases r1
        refine ⟨(0, w2), ?_, rfl, r3, fm_tr (Nat.le_refl _) (Nat.le_refl _) t3 r4⟩
        unfold M5
        exact bd1T (x := 0) (w := w2) (b_prod hS hk qm (bd1T r2 (brT rfl rfl))) (brT rfl rfl)
      · cases r1
    · have g1 := PZ_g hN n 3 d 0 (a + 1) (by omega) (by omega)
      rw [e1] at g1
      simp only [Gz] at g1
      rcases rp_use h1 (e := pnz 5 x + e + 2) (by omega) t2 (by omega) (by omega) hp hnd1 e1 with ⟨_, _, r1, _⟩ | ⟨a1', o1', w2, r1, r2, r3, r4, r5, r6, r7, r8⟩
      · cases r1
      · cases r1
        obtain ⟨w3, u1, u2, u3, u4, u5, u6, u7⟩ := rm_op (a0 := a) r3 (mc_sq (k := tk a) (by omega)) (op_sp (by omega)) r4 r5 (fm_tr (Nat.le_refl _) (Nat.le_refl _) t3 r8) (by omega)
        obtain ⟨r', e3, rfl⟩ := emz_pre e2
        obtain ⟨out, q1, q2⟩ := h5 d x a1 _ _ e k f1 (f2 + 1) w3 _ u2 (by rw [u6]; omega) (by rw [u7]; omega) hx hnd (by omega) (by omega) e3
        refine ⟨out, ?_, rm_pre q2 rfl rfl u3 u4 u5⟩
        have hB : f_X15_isProduct_L9 (grpR k) (f1 + 1) w = f_X15_isProduct_L9 (grpR k) f1 w3 := b_prod hS hk qm (bd1T r2 (brF (by decide) (bd0T u1 rfl)))
        unfold M5 at q1 ⊢
        rw [hB]; exact q1
  · rw [if_neg qm] at g
    have hB : ∀ f1, f_X15_isProduct_L9 (grpR k) (f1 + 1) w = some (1, w) := fun f1 => by
      rw [f_X15_isProduct_L9]
      have s1 := b_sF hS hk 38 42 (by decide) (by decide) (by omega)
      have s2 := b_sF hS hk 39 47 (by decide) (by decide) (by omega)
      exact bd1T s1 (brT rfl (bd1T s2 (brT rfl rfl)))
    -- the sign that waits goes first
    have hpre : ∃ w0, M5b k (f2 + 1) x w = M5c k (f2 + 1) w0 ∧ MSt T tk st ln N p a d (m + (mcs (nva T st ln) (if x = 1 then [] else [sp x])).length) (q + (opn (nva T st ln) m (if x = 1 then [] else [sp x])).length) w0 ∧ MSEG p m (mcs (nva T st ln) (if x = 1 then [] else [sp x])) w0 ∧ OSEG p q (opn (nva T st ln) m (if x = 1 then [] else [sp x])) w0 ∧ FM p m q w w0 ∧ (mcs (nva T st ln) (if x = 1 then [] else [sp x])).length = pnz 5 x ∧ opn (nva T st ln) m (if x = 1 then [] else [sp x]) = [] := by
      have hP : pnz 5 x = if x = 1 then 0 else 1 := rfl
      by_cases hx1 : x = 1
      · rw [if_pos hx1] at hP
        rw [if_pos hx1, hP]
        refine ⟨w, ?_, hS, fun j v x => by simp [mcs] at x, fun j v x => by simp [opn] at x, fm_rf, rfl, rfl⟩
        unfold M5b
        rw [if_pos hx1]
      · rw [if_neg hx1] at hP
        rw [if_neg hx1, hP]
        obtain ⟨w3, u1, u2, u3, u4, u5, u6, u7⟩ := rm_op (a0 := a) (o := []) (m := m) (q := q) (w := w) hS (mc_sq (k := x) (by omega)) (op_sp (by omega)) (fun j v x => by simp [mcs] at x) (fun j v x => by simp [opn] at x) fm_rf (by rw [mcs_0, List.length_nil]; omega)
        refine ⟨w3, ?_, u2, u3, u4, u5, u6, u7⟩
        unfold M5b
        rw [if_neg hx1]
        exact bd0T u1 rfl
    obtain ⟨w0, hb0, v1, v2, v3, v4, v5, v6⟩ := hpre
    have hM : M5 k (f1 + 1) (f2 + 1) x w = M5c k (f2 + 1) w0 := by
      rw [← hb0]
      unfold M5
      exact bd1T (hB f1) (brF (by decide) rfl)
    rw [hM]
    by_cases qa : tk a = 36 ∨ tk a = 37
    · rw [if_pos qa] at g
      have ha2 := ha2 (by omega) (by omega)
      obtain ⟨t2, t3⟩ := m_adv v1 ha2 (rol_0 (by omega))
      have hp : pvk tk (a + 1) := ⟨by omega, by rw [Nat.add_sub_cancel]; omega, by rw [Nat.add_sub_cancel]; omega⟩
      have t4 : FM p m q w (pI w0 32 0 9 ((gI w0 32 0 9) + 1)) := fm_tr (Nat.le_add_right _ _) (Nat.le_add_right _ _) v4 t3
      rcases bdz_in g with ⟨b, e1, rfl⟩ | ⟨a1, o1, e1, e2⟩
      · rcases rp_use h1 (e := 0) (by omega) t2 (by rw [v5]; omega) (by rw [v6]; simp; omega) hp hnd1 e1 with ⟨b', w2, r1, r2, r3, r4⟩ | ⟨_, _, _, r1, _⟩
        · cases r1
          refine ⟨(0, w2), ?_, rfl, r3, fm_tr (Nat.le_add_right _ _) (Nat.le_add_right _ _) t4 r4⟩
          unfold M5c
          have hI : grpR (k + 1) 4 0 0 (pI w0 32 0 9 ((gI w0 32 0 9) + 1)) = some (0, w2) := by
            show f_X15_isProduct (grpR k) _ = _
            unfold f_X15_isProduct
            exact bd1T r2 (brT rfl rfl)
          exact bd1T (x := 0) (w := w2) (b_sums v1 hk qa (bd1T hI (brT rfl rfl))) (brT rfl rfl)
        · cases r1
      · have g1 := PZ_g hN n 3 d 0 (a + 1) (by omega) (by omega)
        rw [e1] at g1
        simp only [Gz] at g1
        rcases rp_use h1 (e := e + 1) (by omega) t2 (by rw [v5]; omega) (by rw [v6]; simp; omega) hp hnd1 e1 with ⟨_, _, r1, _⟩ | ⟨a1', o1', w2, r1, r2, r3, r4, r5, r6, r7, r8⟩
        · cases r1
        · cases r1
          obtain ⟨r', e3, rfl⟩ := emz_pre e2
          have hP1 : pnz 5 (tk a) = 1 := by
            show (if tk a = 1 then 0 else 1) = 1
            rw [if_neg (by omega)]
          obtain ⟨out, q1, q2⟩ := h5 d (tk a) a1 _ _ e k LF f2 w2 _ r3 (by rw [hP1]; omega) r7 (by omega) hnd (by unfold LF; omega) (by omega) e3
          refine ⟨out, ?_, rm_pre q2 ?_ ?_ ?_ ?_ (fm_tr (Nat.le_add_right _ _) (Nat.le_add_right _ _) t4 r8)⟩
          · unfold M5c
            have hI : grpR (k + 1) 4 0 0 (pI w0 32 0 9 ((gI w0 32 0 9) + 1)) = bd1 (f_X15_isProduct_L9 (grpR k) LF w2) (fun t9 w8 => br (t9 = 0) (some ((0 : Int32), w8)) (some (1, w8))) := by
              show f_X15_isProduct (grpR k) _ = _
              unfold f_X15_isProduct
              exact bd1T r2 (brF (by decide) rfl)
            have hE : f_X15_isSum_L9 (grpR (k + 1)) (f2 + 1) w0 = bd1 (f_X15_isProduct_L9 (grpR k) LF w2) (fun t w' => br (t = 0) (some ((0 : Nat), w')) (bd0 (f_X15_put (mop (tk a)) w') (fun w7 => f_X15_isSum_L9 (grpR (k + 1)) f2 w7))) := by
              refine b_sums v1 hk qa ?_
              rw [hI]
              exact bb
            rw [hE]
            rw [← q1]
            unfold M5
            match f_X15_isProduct_L9 (grpR k) LF w2 with
            | none => rfl
            | some (t, w') =>
              by_cases ht : t = 0
              · subst ht; rfl
              · show bd1 (br (t = 0) _ _) _ = br (t = 0) _ _
                unfold br
                rw [if_neg ht, if_neg ht]
                unfold M5b
                rw [if_neg (by omega)]
                match f_X15_put (mop (tk a)) w' with
                | none => rfl
                | some w7 => rfl
          · rw [mcs_app, List.length_append, Nat.add_assoc]
          · rw [opn_app, List.length_append, Nat.add_assoc]
          · rw [mcs_app]; exact mseg_app (mseg_fm v2 (fm_tr (Nat.le_refl _) (Nat.le_refl _) t3 r8) (Nat.le_refl _)) r4
          · rw [opn_app]; exact oseg_app (oseg_fm v3 (fm_tr (Nat.le_refl _) (Nat.le_refl _) t3 r8) (Nat.le_refl _)) r5
    · rw [if_neg qa] at g
      cases g
      refine ⟨(1, w0), ?_, rfl, v1, v2, v3, by rw [v5]; omega, by rw [v6]; simp; omega, v4⟩
      unfold M5c
      rw [f_X15_isSum_L9]
      have s1 := b_sF v1 hk 36 43 (by decide) (by decide) (by omega)
      have s2 := b_sF v1 hk 37 45 (by decide) (by decide) (by omega)
      exact bd1T (x := 1) (w := w0) (bd1T s1 (brT rfl (bd1T s2 (brT rfl rfl)))) (brF (by decide) rfl)
end RPARSE
