def f_X10_add_L3 (z1 : Int32) : Nat → Int32 → Mm → Option (Mm)
  | 0, _, _ => none
  | n + 1, u2, w => br (u2 < 0) (some w) (br ((gI w 2 0 1) < 0) (sq (u2 + (-8)) (fun x1 => f_X10_add_L3 z1 n x1 w)) (br (2000 ≤ (gI w 2 0 1)) (sq (u2 + (-8)) (fun x2 => f_X10_add_L3 z1 n x2 w)) (gd (vB (gI w 2 0 1) 2000) (sq (pI w 3 0 (gI w 2 0 1).toNatClampNeg (vp_nar .byte ((z1 >>> (u2 &&& 31)).toInt8.toInt32))) (fun w4 => sq (pI w4 2 0 1 ((gI w4 2 0 1) + 1)) (fun w5 => sq (u2 + (-8)) (fun x6 => f_X10_add_L3 z1 n x6 w5)))))))

def f_X10_add (a1 : Int32) (w : Mm) : Option (Mm) := bd0 (f_X10_add_L3 a1 LF 24 w) (fun w7 => some w7)

theorem miX10_add : MI RX10 yX10_add cX10_add 3 none 1 := ⟨w4_221, w4_222, w1_2, w4_223, rfl, by decide +kernel, by decide +kernel, by decide +kernel⟩
set_option maxHeartbeats 4000000 in
set_option maxRecDepth 100000 in
theorem l_X10_add_3 {p : Program} {l : Launch} {e : Env} {R : Room} {s : State} {m : MethodId} {args : Array Value} {below : List Frame} {meth : Method} {c : Code} {cells slots : Nat} {Q : State → Prop} {G : GG} (hC : CX p s m args c meth G cX10_add 3 none RX10) (hR : R = { frames := 0, cells := 0, slots := 0, locals := 0 }) (hcs : cells ≤ R.cells ∧ slots ≤ R.slots) (hF : gF G = true) (z1 : Int32) : ∀ (n : Nat) (u2 : Int32) (w : Mm) (w' : Mm), f_X10_add_L3 z1 n u2 w = some w' → ∀ (H : Heap) (locs : List Loc) (ls : Array Slot), HP G w H → va_S (Ab G) s.heap H locs → lv_has ls 3 [(0, .ref (adr (gB G) 2 0)), (1, .int z1), (2, .int u2)] → (∀ (H : Heap) (locs : List Loc) (ls : Array Slot), HP G w' H → va_S (Ab G) s.heap H locs → lv_has ls 3 [] → W p l e R s m args below meth c H locs cells slots Q (F0 m 55 ls [])) → W p l e R s m args below meth c H locs cells slots Q (F0 m 3 ls []) := by
  subst hR
  obtain ⟨hx, hb, hml, hr, hown, hlocks, hts, hE⟩ := id hC
  intro n
  induction n with
  | zero =>
    intro u2 w w' h
    rw [f_X10_add_L3] at h
    cases h
  | succ n ih =>
    intro u2 w w' h H locs ls hP hS hl k0
    rw [f_X10_add_L3] at h
    refine lv_iload_n hx hb dX10_add_3 rfl (lv_at hl 2 rfl) ?_
    refine lv_if_lt (tgt := 55) hx hb dX10_add_4 (by decide) (fun cc => ?_) (fun cc => ?_)
    · have h := br_el h cc
      cases h
      exact k0 _ _ _ hP hS (lv_sub hl [] rfl)
    · have h := br_er h cc
      refine lv_aload_n hx hb dX10_add_7 rfl (lv_at hl 0 rfl) ?_
      refine k_get (ci := 8) (v := .int (gI w 2 0 1)) hx hb hts hE inX10 hown hP (hp_sh hP hF 0 2 (by decide)) (by decide) rfl rfl 1 (by decide) w1_47 rfl rfl dX10_add_8 ?_
      refine lv_if_lt (tgt := 49) hx hb dX10_add_11 (by decide) (fun cc => ?_) (fun cc => ?_)
      · have h := br_el h cc
        obtain ⟨x1, e⟩ : ∃ z : Int32, z = u2 + (-8) := ⟨_, rfl⟩
        have h := sq_at h e
        refine lv_iinc (v := x1) (lv' := [(2, .int x1), (0, .ref (adr (gB G) 2 0)), (1, .int z1)]) hx hb dX10_add_49 hl (k := 2) rfl (by rw [e]; rfl) (by decide) rfl (fun ls hl => ?_)
        refine lv_goto (tgt := 3) hx hb dX10_add_52 (by decide) ?_
        exact ih x1 w w' h _ _ _ hP hS (lv_sub hl [1, 2, 0] rfl) k0
      · have h := br_er h cc
        refine lv_aload_n hx hb dX10_add_14 rfl (lv_at hl 0 rfl) ?_
        refine k_get (ci := 8) (v := .int (gI w 2 0 1)) hx hb hts hE inX10 hown hP (hp_sh hP hF 0 2 (by decide)) (by decide) rfl rfl 1 (by decide) w1_47 rfl rfl dX10_add_15 ?_
        refine lv_aload_n hx hb dX10_add_18 rfl (lv_at hl 0 rfl) ?_
        refine k_get (ci := 8) (v := .ref (adr (gB G) 3 0)) hx hb hts hE inX10 hown hP (hp_sh hP hF 0 2 (by decide)) (by decide) rfl rfl 0 (by decide) w1_45 rfl rfl dX10_add_19 ?_
        refine k_alen (v := 2000) hx hb hE hP (hp_sh hP hF 0 3 (by decide)) (by decide) rfl 2 rfl rfl dX10_add_22 ?_
        refine lv_icmp_ge (tgt := 49) hx hb dX10_add_23 (by decide) (fun cc => ?_) (fun cc => ?_)
        · have h := br_el h cc
          obtain ⟨x2, e⟩ : ∃ z : Int32, z = u2 + (-8) := ⟨_, rfl⟩
          have h := sq_at h e
          refine lv_iinc (v := x2) (lv' := [(2, .int x2), (0, .ref (adr (gB G) 2 0)), (1, .int z1)]) hx hb dX10_add_49 hl (k := 2) rfl (by rw [e]; rfl) (by decide) rfl (fun ls hl => ?_)
          refine lv_goto (tgt := 3) hx hb dX10_add_52 (by decide) ?_
          exact ih x2 w w' h _ _ _ hP hS (lv_sub hl [1, 2, 0] rfl) k0
        · have h := br_er h cc
          refine lv_aload_n hx hb dX10_add_26 rfl (lv_at hl 0 rfl) ?_
          refine k_get (ci := 8) (v := .ref (adr (gB G) 3 0)) hx hb hts hE inX10 hown hP (hp_sh hP hF 0 2 (by decide)) (by decide) rfl rfl 0 (by decide) w1_45 rfl rfl dX10_add_27 ?_
          refine lv_aload_n hx hb dX10_add_30 rfl (lv_at hl 0 rfl) ?_
          refine k_get (ci := 8) (v := .int (gI w 2 0 1)) hx hb hts hE inX10 hown hP (hp_sh hP hF 0 2 (by decide)) (by decide) rfl rfl 1 (by decide) w1_47 rfl rfl dX10_add_31 ?_
          refine lv_iload_n hx hb dX10_add_34 rfl (lv_at hl 1 rfl) ?_
          refine lv_iload_n hx hb dX10_add_35 rfl (lv_at hl 2 rfl) ?_
          refine lv_ishr hx hb dX10_add_36 ?_
          refine lv_i2b hx hb dX10_add_37 rfl ?_
          obtain ⟨g3, h⟩ := gd_el h
          refine k_bast hx hb hE hP hS (hp_sh hP hF 0 3 (by decide)) (by decide) rfl rfl g3 dX10_add_38 (fun w4 H locs e hP hS => ?_)
          have h := sq_at h e
          refine lv_aload_n hx hb dX10_add_39 rfl (lv_at hl 0 rfl) ?_
          refine lv_dup hx hb dX10_add_40 rfl ?_
          refine k_get (ci := 8) (v := .int (gI w4 2 0 1)) hx hb hts hE inX10 hown hP (hp_sh hP hF 0 2 (by decide)) (by decide) rfl rfl 1 (by decide) w1_47 rfl rfl dX10_add_41 ?_
          refine lv_iconst (v := 1) hx hb dX10_add_44 (by decide) ?_
          refine lv_iadd hx hb dX10_add_45 ?_
          refine k_put (ci := 8) (ty := .int) (v := .int ((gI w4 2 0 1) + 1)) (w1 := pI w4 2 0 1 ((gI w4 2 0 1) + 1)) hx hb hts hE inX10 tyX10 tyX10_ok nmX10 hown hP hS (hp_sh hP hF 0 2 (by decide)) (by decide) rfl rfl 1 (by decide) w1_47 rfl rfl rfl rfl rfl (Nat.le_of_ble_eq_true rfl) loc_pI (wce_pI.trans rfl) dX10_add_46 (fun w5 H locs e hP hS => ?_)
          have h := sq_at h e
          obtain ⟨x6, e⟩ : ∃ z : Int32, z = u2 + (-8) := ⟨_, rfl⟩
          have h := sq_at h e
          refine lv_iinc (v := x6) (lv' := [(2, .int x6), (0, .ref (adr (gB G) 2 0)), (1, .int z1)]) hx hb dX10_add_49 hl (k := 2) rfl (by rw [e]; rfl) (by decide) rfl (fun ls hl => ?_)
          refine lv_goto (tgt := 3) hx hb dX10_add_52 (by decide) ?_
          exact ih x6 w5 w' h _ _ _ hP hS (lv_sub hl [1, 2, 0] rfl) k0

set_option maxHeartbeats 4000000 in
set_option maxRecDepth 100000 in
theorem c_X10_add (l : Launch) (G : GG) (hF : gF G = true) (a1 : Int32) (w : Mm) (w' : Mm) (h : f_X10_add a1 w = some w') : Kv l G yX10_add cX10_add 3 none { frames := 0, cells := 0, slots := 0, locals := 0 } [.ref (adr (gB G) 2 0), .int a1] w w' := by
  refine k_of (by decide +kernel) (Nat.le_of_ble_eq_true rfl) ?_
  intro p e s m args below meth c ls hx hb hml hr hown hlocks hts hin hP hE hl
  have hC : CX p s m args c meth G cX10_add 3 none RX10 := ⟨hx, hb, hml, hr, hown, hlocks, hts, hE⟩
  have hS : va_S (Ab G) s.heap s.heap [] := va_S.rf
  have hcs : 0 ≤ 0 ∧ 0 ≤ 0 := ⟨Nat.zero_le _, Nat.zero_le _⟩
  have hl : lv_has ls 3 [(0, .ref (adr (gB G) 2 0)), (1, .int a1)] := hl
  unfold f_X10_add at h
  refine lv_bipush (v := 24) hx hb dX10_add_0 (by decide) ?_
  refine lv_istore_n (i := 2) (lv' := [(2, .int 24), (0, .ref (adr (gB G) 2 0)), (1, .int a1)]) hx hb dX10_add_2 rfl hl (by decide) rfl (fun ls hl => ?_)
  obtain ⟨w7, hf, h⟩ := bd0_el h
  refine l_X10_add_3 hC rfl hcs hF a1 LF 24 w w7 hf _ _ _ hP hS (lv_sub hl [1, 2, 0] rfl) (fun H locs ls hP hS hl => ?_)
  exact e_v hx hb hr hlocks hP hS (Nat.le_of_ble_eq_true rfl) (Nat.le_of_ble_eq_true rfl) (so_el h) dX10_add_55

def f_X3_begin (a0 : Nat) (a1 : Int32) (w : Mm) : Option (Mm) := sq (pI w 22 a0 0 a1) (fun w1 => sq (pI w1 22 a0 1 0) (fun w2 => sq (pI w2 22 a0 2 0) (fun w3 => sq (pI w3 22 a0 3 0) (fun w4 => some w4))))

theorem miX3_begin : MI RX3 yX3_begin cX3_begin 2 none 1 := ⟨w3_164, w3_165, w1_10, w3_166, rfl, by decide +kernel, by decide +kernel, by decide +kernel⟩
set_option maxHeartbeats 4000000 in
set_option maxRecDepth 100000 in
theorem c_X3_begin (l : Launch) (G : GG) (hF : gF G = true) (a0 : Nat) (ha0 : a0 < cnt 22) (a1 : Int32) (w : Mm) (w' : Mm) (h : f_X3_begin a0 a1 w = some w') : Kv l G yX3_begin cX3_begin 2 none { frames := 0, cells := 0, slots := 0, locals := 0 } [.ref (adr (gB G) 22 a0), .int a1] w w' := by
  refine k_of (by decide +kernel) (Nat.le_of_ble_eq_true rfl) ?_
  intro p e s m args below meth c ls hx hb hml hr hown hlocks hts hin hP hE hl
  have hC : CX p s m args c meth G cX3_begin 2 none RX3 := ⟨hx, hb, hml, hr, hown, hlocks, hts, hE⟩
  have hS : va_S (Ab G) s.heap s.heap [] := va_S.rf
  have hcs : 0 ≤ 0 ∧ 0 ≤ 0 := ⟨Nat.zero_le _, Nat.zero_le _⟩
  have hl : lv_has ls 2 [(0, .ref (adr (gB G) 22 a0)), (1, .int a1)] := hl
  unfold f_X3_begin at h
  refine lv_aload_n hx hb dX3_begin_0 rfl (lv_at hl 0 rfl) ?_
  refine lv_iload_n hx hb dX3_begin_1 rfl (lv_at hl 1 rfl) ?_
  refine k_put (ci := 2) (ty := .int) (v := .int a1) (w1 := pI w 22 a0 0 a1) hx hb hts hE inX3 tyX3 tyX3_ok nmX3 hown hP hS (hp_sh hP hF a0 22 ha0) (by decide) rfl rfl 0 (by decide) w1_167 rfl rfl rfl rfl rfl (Nat.le_of_ble_eq_true rfl) loc_pI (wce_pI.trans rfl) dX3_begin_2 (fun w1 H locs e hP hS => ?_)
  have h := sq_at h e
  refine lv_aload_n hx hb dX3_begin_5 rfl (lv_at hl 0 rfl) ?_
  refine lv_iconst (v := 0) hx hb dX3_begin_6 (by decide) ?_
  refine k_put (ci := 2) (ty := .int) (v := .int 0) (w1 := pI w1 22 a0 1 0) hx hb hts hE inX3 tyX3 tyX3_ok nmX3 hown hP hS (hp_sh hP hF a0 22 ha0) (by decide) rfl rfl 1 (by decide) w1_170 rfl rfl rfl rfl rfl (Nat.le_of_ble_eq_true rfl) loc_pI (wce_pI.trans rfl) dX3_begin_7 (fun w2 H locs e hP hS => ?_)
  have h := sq_at h e
  refine lv_aload_n hx hb dX3_begin_10 rfl (lv_at hl 0 rfl) ?_
  refine lv_iconst (v := 0) hx hb dX3_begin_11 (by decide) ?_
  refine k_put (ci := 2) (ty := .int) (v := .int 0) (w1 := pI w2 22 a0 2 0) hx hb hts hE inX3 tyX3 tyX3_ok nmX3 hown hP hS (hp_sh hP hF a0 22 ha0) (by decide) rfl rfl 2 (by decide) w1_174 rfl rfl rfl rfl rfl (Nat.le_of_ble_eq_true rfl) loc_pI (wce_pI.trans rfl) dX3_begin_12 (fun w3 H locs e hP hS => ?_)
  have h := sq_at h e
  refine lv_aload_n hx hb dX3_begin_15 rfl (lv_at hl 0 rfl) ?_
  refine lv_iconst (v := 0) hx hb dX3_begin_16 (by decide) ?_
  refine k_put (ci := 2) (ty := .int) (v := .int 0) (w1 := pI w3 22 a0 3 0) hx hb hts hE inX3 tyX3 tyX3_ok nmX3 hown hP hS (hp_sh hP hF a0 22 ha0) (by decide) rfl rfl 3 (by decide) w1_178 rfl rfl rfl rfl rfl (Nat.le_of_ble_eq_true rfl) loc_pI (wce_pI.trans rfl) dX3_begin_17 (fun w4 H locs e hP hS => ?_)
  have h := sq_at h e
  exact e_v hx hb hr hlocks hP hS (Nat.le_of_ble_eq_true rfl) (Nat.le_of_ble_eq_true rfl) (so_el h) dX3_begin_20

def f_X9_begin (a0 : Nat) (a1 : Int32) (w : Mm) : Option (Mm) := sq (pI w 24 a0 0 a1) (fun w1 => sq (pI w1 24 a0 1 0) (fun w2 => sq (pI w2 24 a0 2 0) (fun w3 => sq (pI w3 24 a0 3 0) (fun w4 => some w4))))

theorem miX9_begin : MI RX9 yX9_begin cX9_begin 2 none 1 := ⟨w3_168, w3_169, w1_11, w3_170, rfl, by decide +kernel, by decide +kernel, by decide +kernel⟩
set_option maxHeartbeats 4000000 in
set_option maxRecDepth 100000 in
theorem c_X9_begin (l : Launch) (G : GG) (hF : gF G = true) (a0 : Nat) (ha0 : a0 < cnt 24) (a1 : Int32) (w : Mm) (w' : Mm) (h : f_X9_begin a0 a1 w = some w') : Kv l G yX9_begin cX9_begin 2 none { frames := 0, cells := 0, slots := 0, locals := 0 } [.ref (adr (gB G) 24 a0), .int a1] w w' := by
  refine k_of (by decide +kernel) (Nat.le_of_ble_eq_true rfl) ?_
  intro p e s m args below meth c ls hx hb hml hr hown hlocks hts hin hP hE hl
  have hC : CX p s m args c meth G cX9_begin 2 none RX9 := ⟨hx, hb, hml, hr, hown, hlocks, hts, hE⟩
  have hS : va_S (Ab G) s.heap s.heap [] := va_S.rf
  have hcs : 0 ≤ 0 ∧ 0 ≤ 0 := ⟨Nat.zero_le _, Nat.zero_le _⟩
  have hl : lv_has ls 2 [(0, .ref (adr (gB G) 24 a0)), (1, .int a1)] := hl
  unfold f_X9_begin at h
  refine lv_aload_n hx hb dX9_begin_0 rfl (lv_at hl 0 rfl) ?_
  refine lv_iload_n hx hb dX9_begin_1 rfl (lv_at hl 1 rfl) ?_
  refine k_put (ci := 7) (ty := .int) (v := .int a1) (w1 := pI w 24 a0 0 a1) hx hb hts hE inX9 tyX9 tyX9_ok nmX9 hown hP hS (hp_sh hP hF a0 24 ha0) (by decide) rfl rfl 0 (by decide) w1_198 rfl rfl rfl rfl rfl (Nat.le_of_ble_eq_true rfl) loc_pI (wce_pI.trans rfl) dX9_begin_2 (fun w1 H locs e hP hS => ?_)
  have h := sq_at h e
  refine lv_aload_n hx hb dX9_begin_5 rfl (lv_at hl 0 rfl) ?_
  refine lv_iconst (v := 0) hx hb dX9_begin_6 (by decide) ?_
  refine k_put (ci := 7) (ty := .int) (v := .int 0) (w1 := pI w1 24 a0 1 0) hx hb hts hE inX9 tyX9 tyX9_ok nmX9 hown hP hS (hp_sh hP hF a0 24 ha0) (by decide) rfl rfl 1 (by decide) w1_201 rfl rfl rfl rfl rfl (Nat.le_of_ble_eq_true rfl) loc_pI (wce_pI.trans rfl) dX9_begin_7 (fun w2 H locs e hP hS => ?_)
  have h := sq_at h e
  refine lv_aload_n hx hb dX9_begin_10 rfl (lv_at hl 0 rfl) ?_
  refine lv_iconst (v := 0) hx hb dX9_begin_11 (by decide) ?_
  refine k_put (ci := 7) (ty := .int) (v := .int 0) (w1 := pI w2 24 a0 2 0) hx hb hts hE inX9 tyX9 tyX9_ok nmX9 hown hP hS (hp_sh hP hF a0 24 ha0) (by decide) rfl rfl 2 (by decide) w1_204 rfl rfl rfl rfl rfl (Nat.le_of_ble_eq_true rfl) loc_pI (wce_pI.trans rfl) dX9_begin_12 (fun w3 H locs e hP hS => ?_)
  have h := sq_at h e
  refine lv_aload_n hx hb dX9_begin_15 rfl (lv_at hl 0 rfl) ?_
  refine lv_iconst (v := 0) hx hb dX9_begin_16 (by decide) ?_
  refine k_put (ci := 7) (ty := .int) (v := .int 0) (w1 := pI w3 24 a0 3 0) hx hb hts hE inX9 tyX9 tyX9_ok nmX9 hown hP hS (hp_sh hP hF a0 24 ha0) (by decide) rfl rfl 3 (by decide) w1_207 rfl rfl rfl rfl rfl (Nat.le_of_ble_eq_true rfl) loc_pI (wce_pI.trans rfl) dX9_begin_17 (fun w4 H locs e hP hS => ?_)
  have h := sq_at h e
  exact e_v hx hb hr hlocks hP hS (Nat.le_of_ble_eq_true rfl) (Nat.le_of_ble_eq_true rfl) (so_el h) dX9_begin_20

def f_X1_begin_L18 (z0 : Nat) (z1 : Nat) : Nat → Int32 → Mm → Option (Mm)
  | 0, _, _ => none
  | n + 1, u2, w => br (8 ≤ u2) (some w) (br (8 ≤ u2) (some w) (gd (vB u2 8) (gd (vB u2 8) (bd0 (f_X3_begin (8 * z0 + u2.toNatClampNeg) (gI w 26 z1 u2.toNatClampNeg) w) (fun w5 => sq (u2 + 1) (fun x6 => f_X1_begin_L18 z0 z1 n x6 w5))))))

def f_X1_begin_L59 (z0 : Nat) (z1 : Nat) : Nat → Int32 → Mm → Option (Mm)
  | 0, _, _ => none
  | n + 1, u2, w => br (8 ≤ u2) (some w) (br (8 ≤ u2) (some w) (gd (vB u2 8) (gd (vB u2 8) (bd0 (f_X9_begin (8 * z0 + u2.toNatClampNeg) (gI w 27 z1 u2.toNatClampNeg) w) (fun w10 => sq (u2 + 1) (fun x11 => f_X1_begin_L59 z0 z1 n x11 w10))))))

def f_X1_begin (a0 : Nat) (a1 : Nat) (w : Mm) : Option (Mm) := sq (pI w 19 a0 2 (gI w 25 a1 2)) (fun w1 => sq (pI w1 19 a0 3 (gI w1 25 a1 3)) (fun w2 => bd0 (f_X1_begin_L18 a0 a1 LF 0 w2) (fun w7 => bd0 (f_X1_begin_L59 a0 a1 LF 0 w7) (fun w12 => sq (pI w12 19 a0 4 0) (fun w13 => sq (pI w13 19 a0 5 0) (fun w14 => sq (pI w14 19 a0 6 0) (fun w15 => sq (pI w15 19 a0 7 0) (fun w16 => sq (pI w16 19 a0 8 0) (fun w17 => some w17)))))))))

theorem miX1_begin : MI RX1 yX1_begin cX1_begin 3 none 1 := ⟨w3_160, w3_161, w1_9, w3_162, rfl, by decide +kernel, by decide +kernel, by decide +kernel⟩
set_option maxHeartbeats 4000000 in
set_option maxRecDepth 100000 in
theorem l_X1_begin_18 {p : Program} {l : Launch} {e : Env} {R : Room} {s : State} {m : MethodId} {args : Array Value} {below : List Frame} {meth : Method} {c : Code} {cells slots : Nat} {Q : State → Prop} {G : GG} (hC : CX p s m args c meth G cX1_begin 3 none RX1) (hR : R = { frames := 1, cells := 0, slots := 0, locals := 21 }) (hcs : cells ≤ R.cells ∧ slots ≤ R.slots) (hF : gF G = true) (z0 : Nat) (hz0 : z0 < cnt 19) (z1 : Nat) (hz1 : z1 < cnt 25) : ∀ (n : Nat) (u2 : Int32) (w : Mm) (w' : Mm), f_X1_begin_L18 z0 z1 n u2 w = some w' → ∀ (H : Heap) (locs : List Loc) (ls : Array Slot), HP G w H → va_S (Ab G) s.heap H locs → lv_has ls 3 [(0, .ref (adr (gB G) 19 z0)), (1, .ref (adr (gB G) 25 z1)), (2, .int u2)] → (∀ (H : Heap) (locs : List Loc) (ls : Array Slot), HP G w' H → va_S (Ab G) s.heap H locs → lv_has ls 3 [(0, .ref (adr (gB G) 19 z0)), (1, .ref (adr (gB G) 25 z1))] → W p l e R s m args below meth c H locs cells slots Q (F0 m 57 ls [])) → W p l e R s m args below meth c H locs cells slots Q (F0 m 18 ls []) := by
  subst hR
  obtain ⟨hx, hb, hml, hr, hown, hlocks, hts, hE⟩ := id hC
  intro n
  induction n with
  | zero =>
    intro u2 w w' h
    rw [f_X1_begin_L18] at h
    cases h
  | succ n ih =>
    intro u2 w w' h H locs ls hP hS hl k0
    rw [f_X1_begin_L18] at h
    refine lv_iload_n hx hb dX1_begin_18 rfl (lv_at hl 2 rfl) ?_
    refine lv_aload_n hx hb dX1_begin_19 rfl (lv_at hl 0 rfl) ?_
    refine k_get (ci := 0) (v := .ref (adr (gB G) 20 z0)) hx hb hts hE inX1 hown hP (hp_sh hP hF z0 19 hz0) (by decide) rfl rfl 0 (by decide) w1_219 rfl rfl dX1_begin_20 ?_
    refine k_alen (v := 8) hx hb hE hP (hp_sh hP hF z0 20 hz0) (by decide) rfl 4 rfl rfl dX1_begin_23 ?_
    refine lv_icmp_ge (tgt := 57) hx hb dX1_begin_24 (by decide) (fun cc => ?_) (fun cc => ?_)
    · have h := br_el h cc
      cases h
      exact k0 _ _ _ hP hS (lv_sub hl [0, 1] rfl)
    · have h := br_er h cc
      refine lv_iload_n hx hb dX1_begin_27 rfl (lv_at hl 2 rfl) ?_
      refine lv_aload_n hx hb dX1_begin_28 rfl (lv_at hl 1 rfl) ?_
      refine k_getN (host := "HedgeNews") (ci := 6) (v := .ref (adr (gB G) 26 z1)) hx hb hts hE inX8 hown hP (hp_sh hP hF z1 25 hz1) (by decide) rfl rfl 0 (by decide) (List.mem_of_getElem? (i := 1) rfl) rfl rfl dX1_begin_29 ?_
      refine k_alen (v := 8) hx hb hE hP (hp_sh hP hF z1 26 hz1) (by decide) rfl 0 rfl rfl dX1_begin_32 ?_
      refine lv_icmp_ge (tgt := 57) hx hb dX1_begin_33 (by decide) (fun cc => ?_) (fun cc => ?_)
      · have h := br_el h cc
        cases h
        exact k0 _ _ _ hP hS (lv_sub hl [0, 1] rfl)
      · have h := br_er h cc
        refine lv_aload_n hx hb dX1_begin_36 rfl (lv_at hl 0 rfl) ?_
        refine k_get (ci := 0) (v := .ref (adr (gB G) 20 z0)) hx hb hts hE inX1 hown hP (hp_sh hP hF z0 19 hz0) (by decide) rfl rfl 0 (by decide) w1_219 rfl rfl dX1_begin_37 ?_
        refine lv_iload_n hx hb dX1_begin_40 rfl (lv_at hl 2 rfl) ?_
        obtain ⟨g3, h⟩ := gd_el h
        refine k_aald (t0 := 4) hx hb hE hP (hp_sh hP hF z0 20 hz0) (by decide) rfl rfl g3 dX1_begin_41 ?_
        refine k_aref (b0 := gB G) (c0 := 22) (k0 := z0) g3 (by decide) ?_
        refine lv_aload_n hx hb dX1_begin_42 rfl (lv_at hl 1 rfl) ?_
        refine k_getN (host := "HedgeNews") (ci := 6) (v := .ref (adr (gB G) 26 z1)) hx hb hts hE inX8 hown hP (hp_sh hP hF z1 25 hz1) (by decide) rfl rfl 0 (by decide) (List.mem_of_getElem? (i := 1) rfl) rfl rfl dX1_begin_43 ?_
        refine lv_iload_n hx hb dX1_begin_46 rfl (lv_at hl 2 rfl) ?_
        obtain ⟨g4, h⟩ := gd_el h
        refine k_iald hx hb hE hP (hp_sh hP hF z1 26 hz1) (by decide) rfl g4 dX1_begin_47 ?_
        obtain ⟨w5, hf, h⟩ := bd0_el h
        refine c_onv (c_runV (b := adr (gB G) 22 (8 * z0 + u2.toNatClampNeg)) (As := [.int (gI w 26 z1 u2.toNatClampNeg)]) (rest := []) hx hb hml hown hts hE hP hS (c_X3_begin l G hF (8 * z0 + u2.toNatClampNeg) (key8 hz0 g3) (gI w 26 z1 u2.toNatClampNeg) w w5 hf) (c_rec hE hP (hp_sh hP hF (8 * z0 + u2.toNatClampNeg) 22 (key8 hz0 g3)) (by decide) rfl rfl) w3_163 miX3_begin ⟨Nat.le_of_ble_eq_true rfl, Nat.le_of_ble_eq_true rfl⟩ rfl hl.1 rfl (Nat.le_of_ble_eq_true rfl) dX1_begin_48 hcs) hS (fun H locs hP hS => ?_)
        obtain ⟨x6, e⟩ : ∃ z : Int32, z = u2 + 1 := ⟨_, rfl⟩
        have h := sq_at h e
        refine lv_iinc (v := x6) (lv' := [(2, .int x6), (0, .ref (adr (gB G) 19 z0)), (1, .ref (adr (gB G) 25 z1))]) hx hb dX1_begin_51 hl (k := 2) rfl (by rw [e]; rfl) (by decide) rfl (fun ls hl => ?_)
        refine lv_goto (tgt := 18) hx hb dX1_begin_54 (by decide) ?_
        exact ih x6 w5 w' h _ _ _ hP hS (lv_sub hl [1, 2, 0] rfl) k0

set_option maxHeartbeats 4000000 in
set_option maxRecDepth 100000 in
theorem l_X1_begin_59 {p : Program} {l : Launch} {e : Env} {R : Room} {s : State} {m : MethodId} {args : Array Value} {below : List Frame} {meth : Method} {c : Code} {cells slots : Nat} {Q : State → Prop} {G : GG} (hC : CX p s m args c meth G cX1_begin 3 none RX1) (hR : R = { frames := 1, cells := 0, slots := 0, locals := 21 }) (hcs : cells ≤ R.cells ∧ slots ≤ R.slots) (hF : gF G = true) (z0 : Nat) (hz0 : z0 < cnt 19) (z1 : Nat) (hz1 : z1 < cnt 25) : ∀ (n : Nat) (u2 : Int32) (w : Mm) (w' : Mm), f_X1_begin_L59 z0 z1 n u2 w = some w' → ∀ (H : Heap) (locs : List Loc) (ls : Array Slot), HP G w H → va_S (Ab G) s.heap H locs → lv_has ls 3 [(0, .ref (adr (gB G) 19 z0)), (1, .ref (adr (gB G) 25 z1)), (2, .int u2)] → (∀ (H : Heap) (locs : List Loc) (ls : Array Slot), HP G w' H → va_S (Ab G) s.heap H locs → lv_has ls 3 [(0, .ref (adr (gB G) 19 z0))] → W p l e R s m args below meth c H locs cells slots Q (F0 m 98 ls [])) → W p l e R s m args below meth c H locs cells slots Q (F0 m 59 ls []) := by
  subst hR
  obtain ⟨hx, hb, hml, hr, hown, hlocks, hts, hE⟩ := id hC
  intro n
  induction n with
  | zero =>
    intro u2 w w' h
    rw [f_X1_begin_L59] at h
    cases h
  | succ n ih =>
    intro u2 w w' h H locs ls hP hS hl k0
    rw [f_X1_begin_L59] at h
    refine lv_iload_n hx hb dX1_begin_59 rfl (lv_at hl 2 rfl) ?_
    refine lv_aload_n hx hb dX1_begin_60 rfl (lv_at hl 0 rfl) ?_
    refine k_get (ci := 0) (v := .ref (adr (gB G) 21 z0)) hx hb hts hE inX1 hown hP (hp_sh hP hF z0 19 hz0) (by decide) rfl rfl 1 (by decide) w1_220 rfl rfl dX1_begin_61 ?_
    refine k_alen (v := 8) hx hb hE hP (hp_sh hP hF z0 21 hz0) (by decide) rfl 5 rfl rfl dX1_begin_64 ?_
    refine lv_icmp_ge (tgt := 98) hx hb dX1_begin_65 (by decide) (fun cc => ?_) (fun cc => ?_)
    · have h := br_el h cc
      cases h
      exact k0 _ _ _ hP hS (lv_sub hl [0] rfl)
    · have h := br_er h cc
      refine lv_iload_n hx hb dX1_begin_68 rfl (lv_at hl 2 rfl) ?_
      refine lv_aload_n hx hb dX1_begin_69 rfl (lv_at hl 1 rfl) ?_
      refine k_getN (host := "HedgeNews") (ci := 6) (v := .ref (adr (gB G) 27 z1)) hx hb hts hE inX8 hown hP (hp_sh hP hF z1 25 hz1) (by decide) rfl rfl 1 (by decide) (List.mem_of_getElem? (i := 2) rfl) rfl rfl dX1_begin_70 ?_
      refine k_alen (v := 8) hx hb hE hP (hp_sh hP hF z1 27 hz1) (by decide) rfl 0 rfl rfl dX1_begin_73 ?_
      refine lv_icmp_ge (tgt := 98) hx hb dX1_begin_74 (by decide) (fun cc => ?_) (fun cc => ?_)
      · have h := br_el h cc
        cases h
        exact k0 _ _ _ hP hS (lv_sub hl [0] rfl)
      · have h := br_er h cc
        refine lv_aload_n hx hb dX1_begin_77 rfl (lv_at hl 0 rfl) ?_
        refine k_get (ci := 0) (v := .ref (adr (gB G) 21 z0)) hx hb hts hE inX1 hown hP (hp_sh hP hF z0 19 hz0) (by decide) rfl rfl 1 (by decide) w1_220 rfl rfl dX1_begin_78 ?_
        refine lv_iload_n hx hb dX1_begin_81 rfl (lv_at hl 2 rfl) ?_
        obtain ⟨g8, h⟩ := gd_el h
        refine k_aald (t0 := 5) hx hb hE hP (hp_sh hP hF z0 21 hz0) (by decide) rfl rfl g8 dX1_begin_82 ?_
        refine k_aref (b0 := gB G) (c0 := 24) (k0 := z0) g8 (by decide) ?_
        refine lv_aload_n hx hb dX1_begin_83 rfl (lv_at hl 1 rfl) ?_
        refine k_getN (host := "HedgeNews") (ci := 6) (v := .ref (adr (gB G) 27 z1)) hx hb hts hE inX8 hown hP (hp_sh hP hF z1 25 hz1) (by decide) rfl rfl 1 (by decide) (List.mem_of_getElem? (i := 2) rfl) rfl rfl dX1_begin_84 ?_
        refine lv_iload_n hx hb dX1_begin_87 rfl (lv_at hl 2 rfl) ?_
        obtain ⟨g9, h⟩ := gd_el h
        refine k_iald hx hb hE hP (hp_sh hP hF z1 27 hz1) (by decide) rfl g9 dX1_begin_88 ?_
        obtain ⟨w10, hf, h⟩ := bd0_el h
        refine c_onv (c_runV (b := adr (gB G) 24 (8 * z0 + u2.toNatClampNeg)) (As := [.int (gI w 27 z1 u2.toNatClampNeg)]) (rest := []) hx hb hml hown hts hE hP hS (c_X9_begin l G hF (8 * z0 + u2.toNatClampNeg) (key8 hz0 g8) (gI w 27 z1 u2.toNatClampNeg) w w10 hf) (c_rec hE hP (hp_sh hP hF (8 * z0 + u2.toNatClampNeg) 24 (key8 hz0 g8)) (by decide) rfl rfl) w3_167 miX9_begin ⟨Nat.le_of_ble_eq_true rfl, Nat.le_of_ble_eq_true rfl⟩ rfl hl.1 rfl (Nat.le_of_ble_eq_true rfl) dX1_begin_89 hcs) hS (fun H locs hP hS => ?_)
        obtain ⟨x11, e⟩ : ∃ z : Int32, z = u2 + 1 := ⟨_, rfl⟩
        have h := sq_at h e
        refine lv_iinc (v := x11) (lv' := [(2, .int x11), (0, .ref (adr (gB G) 19 z0)), (1, .ref (adr (gB G) 25 z1))]) hx hb dX1_begin_92 hl (k := 2) rfl (by rw [e]; rfl) (by decide) rfl (fun ls hl => ?_)
        refine lv_goto (tgt := 59) hx hb dX1_begin_95 (by decide) ?_
        exact ih x11 w10 w' h _ _ _ hP hS (lv_sub hl [1, 2, 0] rfl) k0

set_option maxHeartbeats 4000000 in
set_option maxRecDepth 100000 in
theorem c_X1_begin (l : Launch) (G : GG) (hF : gF G = true) (a0 : Nat) (ha0 : a0 < cnt 19) (a1 : Nat) (ha1 : a1 < cnt 25) (w : Mm) (w' : Mm) (h : f_X1_begin a0 a1 w = some w') : Kv l G yX1_begin cX1_begin 3 none { frames := 1, cells := 0, slots := 0, locals := 21 } [.ref (adr (gB G) 19 a0), .ref (adr (gB G) 25 a1)] w w' := by
  refine k_of (by decide +kernel) (Nat.le_of_ble_eq_true rfl) ?_
  intro p e s m args below meth c ls hx hb hml hr hown hlocks hts hin hP hE hl
  have hC : CX p s m args c meth G cX1_begin 3 none RX1 := ⟨hx, hb, hml, hr, hown, hlocks, hts, hE⟩
  have hS : va_S (Ab G) s.heap s.heap [] := va_S.rf
  have hcs : 0 ≤ 0 ∧ 0 ≤ 0 := ⟨Nat.zero_le _, Nat.zero_le _⟩
  have hl : lv_has ls 3 [(0, .ref (adr (gB G) 19 a0)), (1, .ref (adr (gB G) 25 a1))] := hl
  unfold f_X1_begin at h
  refine lv_aload_n hx hb dX1_begin_0 rfl (lv_at hl 0 rfl) ?_
  refine lv_aload_n hx hb dX1_begin_1 rfl (lv_at hl 1 rfl) ?_
  refine k_getN (host := "HedgeNews") (ci := 6) (v := .int (gI w 25 a1 2)) hx hb hts hE inX8 hown hP (hp_sh hP hF a1 25 ha1) (by decide) rfl rfl 2 (by decide) (List.mem_of_getElem? (i := 3) rfl) rfl rfl dX1_begin_2 ?_
  refine k_put (ci := 0) (ty := .int) (v := .int (gI w 25 a1 2)) (w1 := pI w 19 a0 2 (gI w 25 a1 2)) hx hb hts hE inX1 tyX1 tyX1_ok nmX1 hown hP hS (hp_sh hP hF a0 19 ha0) (by decide) rfl rfl 2 (by decide) w1_221 rfl rfl rfl rfl rfl (Nat.le_of_ble_eq_true rfl) loc_pI (wce_pI.trans rfl) dX1_begin_5 (fun w1 H locs e hP hS => ?_)
  have h := sq_at h e
  refine lv_aload_n hx hb dX1_begin_8 rfl (lv_at hl 0 rfl) ?_
  refine lv_aload_n hx hb dX1_begin_9 rfl (lv_at hl 1 rfl) ?_
  refine k_getN (host := "HedgeNews") (ci := 6) (v := .int (gI w1 25 a1 3)) hx hb hts hE inX8 hown hP (hp_sh hP hF a1 25 ha1) (by decide) rfl rfl 3 (by decide) (List.mem_of_getElem? (i := 5) rfl) rfl rfl dX1_begin_10 ?_
  refine k_put (ci := 0) (ty := .int) (v := .int (gI w1 25 a1 3)) (w1 := pI w1 19 a0 3 (gI w1 25 a1 3)) hx hb hts hE inX1 tyX1 tyX1_ok nmX1 hown hP hS (hp_sh hP hF a0 19 ha0) (by decide) rfl rfl 3 (by decide) w1_223 rfl rfl rfl rfl rfl (Nat.le_of_ble_eq_true rfl) loc_pI (wce_pI.trans rfl) dX1_begin_13 (fun w2 H locs e hP hS => ?_)
  have h := sq_at h e
  refine lv_iconst (v := 0) hx hb dX1_begin_16 (by decide) ?_
  refine lv_istore_n (i := 2) (lv' := [(2, .int 0), (0, .ref (adr (gB G) 19 a0)), (1, .ref (adr (gB G) 25 a1))]) hx hb dX1_begin_17 rfl hl (by decide) rfl (fun ls hl => ?_)
  obtain ⟨w7, hf, h⟩ := bd0_el h
  refine l_X1_begin_18 hC rfl hcs hF a0 ha0 a1 ha1 LF 0 w2 w7 hf _ _ _ hP hS (lv_sub hl [1, 2, 0] rfl) (fun H locs ls hP hS hl => ?_)
  refine lv_iconst (v := 0) hx hb dX1_begin_57 (by decide) ?_
  refine lv_istore_n (i := 2) (lv' := [(2, .int 0), (0, .ref (adr (gB G) 19 a0)), (1, .ref (adr (gB G) 25 a1))]) hx hb dX1_begin_58 rfl hl (by decide) rfl (fun ls hl => ?_)
  obtain ⟨w12, hf, h⟩ := bd0_el h
  refine l_X1_begin_59 hC rfl hcs hF a0 ha0 a1 ha1 LF 0 w7 w12 hf _ _ _ hP hS (lv_sub hl [1, 2, 0] rfl) (fun H locs ls hP hS hl => ?_)
  refine lv_aload_n hx hb dX1_begin_98 rfl (lv_at hl 0 rfl) ?_
  refine lv_iconst (v := 0) hx hb dX1_begin_99 (by decide) ?_
  refine k_put (ci := 0) (ty := .int) (v := .int 0) (w1 := pI w12 19 a0 4 0) hx hb hts hE inX1 tyX1 tyX1_ok nmX1 hown hP hS (hp_sh hP hF a0 19 ha0) (by decide) rfl rfl 4 (by decide) w1_226 rfl rfl rfl rfl rfl (Nat.le_of_ble_eq_true rfl) loc_pI (wce_pI.trans rfl) dX1_begin_100 (fun w13 H locs e hP hS => ?_)
  have h := sq_at h e
  refine lv_aload_n hx hb dX1_begin_103 rfl (lv_at hl 0 rfl) ?_
  refine lv_iconst (v := 0) hx hb dX1_begin_104 (by decide) ?_
  refine k_put (ci := 0) (ty := .int) (v := .int 0) (w1 := pI w13 19 a0 5 0) hx hb hts hE inX1 tyX1 tyX1_ok nmX1 hown hP hS (hp_sh hP hF a0 19 ha0) (by decide) rfl rfl 5 (by decide) w1_228 rfl rfl rfl rfl rfl (Nat.le_of_ble_eq_true rfl) loc_pI (wce_pI.trans rfl) dX1_begin_105 (fun w14 H locs e hP hS => ?_)
  have h := sq_at h e
  refine lv_aload_n hx hb dX1_begin_108 rfl (lv_at hl 0 rfl) ?_
  refine lv_iconst (v := 0) hx hb dX1_begin_109 (by decide) ?_
  refine k_put (ci := 0) (ty := .int) (v := .int 0) (w1 := pI w14 19 a0 6 0) hx hb hts hE inX1 tyX1 tyX1_ok nmX1 hown hP hS (hp_sh hP hF a0 19 ha0) (by decide) rfl rfl 6 (by decide) w1_233 rfl rfl rfl rfl rfl (Nat.le_of_ble_eq_true rfl) loc_pI (wce_pI.trans rfl) dX1_begin_110 (fun w15 H locs e hP hS => ?_)
  have h := sq_at h e
  refine lv_aload_n hx hb dX1_begin_113 rfl (lv_at hl 0 rfl) ?_
  refine lv_iconst (v := 0) hx hb dX1_begin_114 (by decide) ?_
  refine k_put (ci := 0) (ty := .int) (v := .int 0) (w1 := pI w15 19 a0 7 0) hx hb hts hE inX1 tyX1 tyX1_ok nmX1 hown hP hS (hp_sh hP hF a0 19 ha0) (by decide) rfl rfl 7 (by decide) w1_237 rfl rfl rfl rfl rfl (Nat.le_of_ble_eq_true rfl) loc_pI (wce_pI.trans rfl) dX1_begin_115 (fun w16 H locs e hP hS => ?_)
  have h := sq_at h e
  refine lv_aload_n hx hb dX1_begin_118 rfl (lv_at hl 0 rfl) ?_
  refine lv_iconst (v := 0) hx hb dX1_begin_119 (by decide) ?_
  refine k_put (ci := 0) (ty := .int) (v := .int 0) (w1 := pI w16 19 a0 8 0) hx hb hts hE inX1 tyX1 tyX1_ok nmX1 hown hP hS (hp_sh hP hF a0 19 ha0) (by decide) rfl rfl 8 (by decide) w1_239 rfl rfl rfl rfl rfl (Nat.le_of_ble_eq_true rfl) loc_pI (wce_pI.trans rfl) dX1_begin_120 (fun w17 H locs e hP hS => ?_)
  have h := sq_at h e
  exact e_v hx hb hr hlocks hP hS (Nat.le_of_ble_eq_true rfl) (Nat.le_of_ble_eq_true rfl) (so_el h) dX1_begin_123

def f_X4_isOrder (a0 : Nat) (w : Mm) : Option (Int32 × Mm) := br (a0 = 11) (some (1, w)) (br (a0 = 12) (some (1, w)) (br (a0 = 14) (some (1, w)) (some (0, w))))

theorem miX4_isOrder : MI RX4 yX4_isOrder cX4_isOrder 1 (some .boolean) 0 := ⟨w3_92, w3_93, w1_5, w3_94, rfl, by decide +kernel, by decide +kernel, by decide +kernel⟩
set_option maxHeartbeats 4000000 in
set_option maxRecDepth 100000 in
theorem c_X4_isOrder (l : Launch) (G : GG) (hF : gF G = true) (a0 : Nat) (w : Mm) (r : Int32) (w' : Mm) (h : f_X4_isOrder a0 w = some (r, w')) : Ki l G yX4_isOrder cX4_isOrder 1 (some .boolean) { frames := 0, cells := 0, slots := 0, locals := 0 } [kR G a0] w r w' := by
  refine k_of (by decide +kernel) (by simp [lg_sl, cat_kR, cat_ref, cat_int, cat_long]) ?_
  intro p e s m args below meth c ls hx hb hml hr hown hlocks hts hin hP hE hl
  have hC : CX p s m args c meth G cX4_isOrder 1 (some .boolean) RX4 := ⟨hx, hb, hml, hr, hown, hlocks, hts, hE⟩
  have hS : va_S (Ab G) s.heap s.heap [] := va_S.rf
  have hcs : 0 ≤ 0 ∧ 0 ≤ 0 := ⟨Nat.zero_le _, Nat.zero_le _⟩
  have hl : lv_has ls 1 [(0, kR G a0)] := by simpa [lv_args, cat_kR, cat_ref, cat_int, cat_long] using hl
  unfold f_X4_isOrder at h
  refine k_aload_n hx hb dX4_isOrder_0 rfl (lv_at hl 0 rfl) ?_
  refine k_kind (i := 10) (nm := "LISTEN") hx hb hE hS hown rfl (by decide) (hts _ w3_95) dX4_isOrder_1 ?_
  refine k_acmp_eq (x := a0) (y := 11) (tgt := 21) hx hb hE dX4_isOrder_4 (by decide) (fun cc => ?_) (fun cc => ?_)
  · have h := br_el h cc
    refine lv_iconst (v := 1) hx hb dX4_isOrder_21 (by decide) ?_
    refine lv_goto (tgt := 26) hx hb dX4_isOrder_22 (by decide) ?_
    exact e_i hx hb hr rfl hlocks hP hS (Nat.le_of_ble_eq_true rfl) (Nat.le_of_ble_eq_true rfl) (Prod.mk.inj (so_el h)) dX4_isOrder_26
  · have h := br_er h cc
    refine k_aload_n hx hb dX4_isOrder_7 rfl (lv_at hl 0 rfl) ?_
    refine k_kind (i := 11) (nm := "LEAVE") hx hb hE hS hown rfl (by decide) (hts _ w3_97) dX4_isOrder_8 ?_
    refine k_acmp_eq (x := a0) (y := 12) (tgt := 21) hx hb hE dX4_isOrder_11 (by decide) (fun cc => ?_) (fun cc => ?_)
    · have h := br_el h cc
      refine lv_iconst (v := 1) hx hb dX4_isOrder_21 (by decide) ?_
      refine lv_goto (tgt := 26) hx hb dX4_isOrder_22 (by decide) ?_
      exact e_i hx hb hr rfl hlocks hP hS (Nat.le_of_ble_eq_true rfl) (Nat.le_of_ble_eq_true rfl) (Prod.mk.inj (so_el h)) dX4_isOrder_26
    · have h := br_er h cc
      refine k_aload_n hx hb dX4_isOrder_14 rfl (lv_at hl 0 rfl) ?_
      refine k_kind (i := 13) (nm := "TELL") hx hb hE hS hown rfl (by decide) (hts _ w3_99) dX4_isOrder_15 ?_
      refine k_acmp_ne (x := a0) (y := 14) (tgt := 25) hx hb hE dX4_isOrder_18 (by decide) (fun cc => ?_) (fun cc => ?_)
      · have h := br_er h cc
        refine lv_iconst (v := 0) hx hb dX4_isOrder_25 (by decide) ?_
        exact e_i hx hb hr rfl hlocks hP hS (Nat.le_of_ble_eq_true rfl) (Nat.le_of_ble_eq_true rfl) (Prod.mk.inj (so_el h)) dX4_isOrder_26
      · have h := br_el h cc
        refine lv_iconst (v := 1) hx hb dX4_isOrder_21 (by decide) ?_
        refine lv_goto (tgt := 26) hx hb dX4_isOrder_22 (by decide) ?_
        exact e_i hx hb hr rfl hlocks hP hS (Nat.le_of_ble_eq_true rfl) (Nat.le_of_ble_eq_true rfl) (Prod.mk.inj (so_el h)) dX4_isOrder_26

def f_X5_listenerNamed_L3 (z1 : Int64) (z3 : Nat) : Nat → Int32 → Mm → Option (Nat × Int32 × Mm)
  | 0, _, _ => none
  | n + 1, u4, w => br (16 ≤ u4) (some ((1 : Nat), u4, w)) (br (8 ≤ u4) (br ((gI w 25 z3 3) ≤ (u4 - 8)) (br ((0 : Int32) = 0) (sq (u4 + 1) (fun x1 => f_X5_listenerNamed_L3 z1 z3 n x1 w)) (gd (vB u4 16) (br ((lg_cmp (gL w 10 0 u4.toNatClampNeg) z1) = 0) (some ((0 : Nat), u4, w)) (sq (u4 + 1) (fun x3 => f_X5_listenerNamed_L3 z1 z3 n x3 w))))) (br ((1 : Int32) = 0) (sq (u4 + 1) (fun x4 => f_X5_listenerNamed_L3 z1 z3 n x4 w)) (gd (vB u4 16) (br ((lg_cmp (gL w 10 0 u4.toNatClampNeg) z1) = 0) (some ((0 : Nat), u4, w)) (sq (u4 + 1) (fun x6 => f_X5_listenerNamed_L3 z1 z3 n x6 w)))))) (br ((gI w 25 z3 2) ≤ u4) (br ((0 : Int32) = 0) (sq (u4 + 1) (fun x7 => f_X5_listenerNamed_L3 z1 z3 n x7 w)) (gd (vB u4 16) (br ((lg_cmp (gL w 10 0 u4.toNatClampNeg) z1) = 0) (some ((0 : Nat), u4, w)) (sq (u4 + 1) (fun x9 => f_X5_listenerNamed_L3 z1 z3 n x9 w))))) (br ((1 : Int32) = 0) (sq (u4 + 1) (fun x10 => f_X5_listenerNamed_L3 z1 z3 n x10 w)) (gd (vB u4 16) (br ((lg_cmp (gL w 10 0 u4.toNatClampNeg) z1) = 0) (some ((0 : Nat), u4, w)) (sq (u4 + 1) (fun x12 => f_X5_listenerNamed_L3 z1 z3 n x12 w)))))))

def f_X5_listenerNamed (a1 : Int64) (a3 : Nat) (w : Mm) : Option (Int32 × Mm) := bd2 (f_X5_listenerNamed_L3 a1 a3 LF 0 w) (fun t15 y13 w14 => br (t15 = 0) (some (y13, w14)) (some ((-1), w14)))

theorem miX5_listenerNamed : MI RX5 yX5_listenerNamed cX5_listenerNamed 6 (some .int) 2 := ⟨w3_134, (tb_sel 17 rfl rfl), w1_6, w3_135, rfl, by decide +kernel, by decide +kernel, by decide +kernel⟩
set_option maxHeartbeats 4000000 in
set_option maxRecDepth 100000 in
theorem l_X5_listenerNamed_3 {p : Program} {l : Launch} {e : Env} {R : Room} {s : State} {m : MethodId} {args : Array Value} {below : List Frame} {meth : Method} {c : Code} {cells slots : Nat} {Q : State → Prop} {G : GG} (hC : CX p s m args c meth G cX5_listenerNamed 6 (some .int) RX5) (hR : R = { frames := 0, cells := 0, slots := 0, locals := 0 }) (hcs : cells ≤ R.cells ∧ slots ≤ R.slots) (hF : gF G = true) (z1 : Int64) (z3 : Nat) (hz3 : z3 < cnt 25) : ∀ (n : Nat) (u4 : Int32) (w : Mm) (t : Nat) (v4 : Int32) (w' : Mm), f_X5_listenerNamed_L3 z1 z3 n u4 w = some (t, v4, w') → ∀ (H : Heap) (locs : List Loc) (ls : Array Slot), HP G w H → va_S (Ab G) s.heap H locs → lv_has ls 6 [(0, .ref (adr (gB G) 9 0)), (1, .long z1), (3, .ref (adr (gB G) 25 z3)), (4, .int u4)] → (t = 0 → ∀ (H : Heap) (locs : List Loc) (ls : Array Slot), HP G w' H → va_S (Ab G) s.heap H locs → lv_has ls 6 [(4, .int v4)] → W p l e R s m args below meth c H locs cells slots Q (F0 m 73 ls [])) → (t = 1 → ∀ (H : Heap) (locs : List Loc) (ls : Array Slot), HP G w' H → va_S (Ab G) s.heap H locs → lv_has ls 6 [] → W p l e R s m args below meth c H locs cells slots Q (F0 m 82 ls [])) → W p l e R s m args below meth c H locs cells slots Q (F0 m 3 ls []) := by
  subst hR
  obtain ⟨hx, hb, hml, hr, hown, hlocks, hts, hE⟩ := id hC
  intro n
  induction n with
  | zero =>
    intro u4 w t v4 w' h
    rw [f_X5_listenerNamed_L3] at h
    cases h
  | succ n ih =>
    intro u4 w t v4 w' h H locs ls hP hS hl k0 k1
    rw [f_X5_listenerNamed_L3] at h
    refine lv_iload hx hb dX5_listenerNamed_3 (lv_at hl 3 rfl) ?_
    refine lv_aload_n hx hb dX5_listenerNamed_5 rfl (lv_at hl 0 rfl) ?_
    refine k_get (ci := 3) (v := .ref (adr (gB G) 10 0)) hx hb hts hE inX5 hown hP (hp_sh hP hF 0 9 (by decide)) (by decide) rfl rfl 0 (by decide) w1_99 rfl rfl dX5_listenerNamed_6 ?_
    refine k_alen (v := 16) hx hb hE hP (hp_sh hP hF 0 10 (by decide)) (by decide) rfl 1 rfl rfl dX5_listenerNamed_9 ?_
    refine lv_icmp_ge (tgt := 82) hx hb dX5_listenerNamed_10 (by decide) (fun cc => ?_) (fun cc => ?_)
    · have h := br_el h cc
      cases h
      exact k1 rfl _ _ _ hP hS (lv_sub hl [] rfl)
    · have h := br_er h cc
      refine lv_iload hx hb dX5_listenerNamed_13 (lv_at hl 3 rfl) ?_
      refine lv_bipush (v := 8) hx hb dX5_listenerNamed_15 (by decide) ?_
      refine lv_icmp_ge (tgt := 37) hx hb dX5_listenerNamed_17 (by decide) (fun cc => ?_) (fun cc => ?_)
      · have h := br_el h cc
        refine lv_iload hx hb dX5_listenerNamed_37 (lv_at hl 3 rfl) ?_
        refine lv_bipush (v := 8) hx hb dX5_listenerNamed_39 (by decide) ?_
        refine lv_isub hx hb dX5_listenerNamed_41 ?_
        refine lv_aload_n hx hb dX5_listenerNamed_42 rfl (lv_at hl 2 rfl) ?_
        refine k_getN (host := "HedgeNews") (ci := 6) (v := .int (gI w 25 z3 3)) hx hb hts hE inX8 hown hP (hp_sh hP hF z3 25 hz3) (by decide) rfl rfl 3 (by decide) (List.mem_of_getElem? (i := 6) rfl) rfl rfl dX5_listenerNamed_43 ?_
        refine lv_icmp_ge (tgt := 53) hx hb dX5_listenerNamed_46 (by decide) (fun cc => ?_) (fun cc => ?_)
        · have h := br_el h cc
          refine lv_iconst (v := 0) hx hb dX5_listenerNamed_53 (by decide) ?_
          refine lv_istore (i := 5) (lv' := [(5, .int 0), (0, .ref (adr (gB G) 9 0)), (1, .long z1), (3, .ref (adr (gB G) 25 z3)), (4, .int u4)]) hx hb dX5_listenerNamed_54 hl (by decide) rfl (fun ls hl => ?_)
          refine lv_iload hx hb dX5_listenerNamed_56 (lv_at hl 0 rfl) ?_
          refine lv_if_eq (tgt := 76) hx hb dX5_listenerNamed_58 (by decide) (fun cc => ?_) (fun cc => ?_)
          · have h := br_el h cc
            obtain ⟨x1, e⟩ : ∃ z : Int32, z = u4 + 1 := ⟨_, rfl⟩
            have h := sq_at h e
            refine lv_iinc (v := x1) (lv' := [(4, .int x1), (5, .int 0), (0, .ref (adr (gB G) 9 0)), (1, .long z1), (3, .ref (adr (gB G) 25 z3))]) hx hb dX5_listenerNamed_76 hl (k := 4) rfl (by rw [e]; rfl) (by decide) rfl (fun ls hl => ?_)
            refine lv_goto (tgt := 3) hx hb dX5_listenerNamed_79 (by decide) ?_
            exact ih x1 w t v4 w' h _ _ _ hP hS (lv_sub hl [2, 3, 4, 0] rfl) k0 k1
          · have h := br_er h cc
            refine lv_aload_n hx hb dX5_listenerNamed_61 rfl (lv_at hl 1 rfl) ?_
            refine k_get (ci := 3) (v := .ref (adr (gB G) 10 0)) hx hb hts hE inX5 hown hP (hp_sh hP hF 0 9 (by decide)) (by decide) rfl rfl 0 (by decide) w1_99 rfl rfl dX5_listenerNamed_62 ?_
            refine lv_iload hx hb dX5_listenerNamed_65 (lv_at hl 4 rfl) ?_
            obtain ⟨g2, h⟩ := gd_el h
            refine k_lald hx hb hE hP (hp_sh hP hF 0 10 (by decide)) (by decide) rfl g2 dX5_listenerNamed_67 ?_
            refine lv_lload_n hx hb dX5_listenerNamed_68 rfl (lv_at hl 2 rfl) ?_
            refine W.lcmp hx hb dX5_listenerNamed_69 ?_
            refine lv_if_ne (tgt := 76) hx hb dX5_listenerNamed_70 (by decide) (fun cc => ?_) (fun cc => ?_)
            · have h := br_er h cc
              obtain ⟨x3, e⟩ : ∃ z : Int32, z = u4 + 1 := ⟨_, rfl⟩
              have h := sq_at h e
              refine lv_iinc (v := x3) (lv' := [(4, .int x3), (5, .int 0), (0, .ref (adr (gB G) 9 0)), (1, .long z1), (3, .ref (adr (gB G) 25 z3))]) hx hb dX5_listenerNamed_76 hl (k := 4) rfl (by rw [e]; rfl) (by decide) rfl (fun ls hl => ?_)
              refine lv_goto (tgt := 3) hx hb dX5_listenerNamed_79 (by decide) ?_
              exact ih x3 w t v4 w' h _ _ _ hP hS (lv_sub hl [2, 3, 4, 0] rfl) k0 k1
            · have h := br_el h cc
              cases h
              exact k0 rfl _ _ _ hP hS (lv_sub hl [4] rfl)
        · have h := br_er h cc
          refine lv_iconst (v := 1) hx hb dX5_listenerNamed_49 (by decide) ?_
          refine lv_goto (tgt := 54) hx hb dX5_listenerNamed_50 (by decide) ?_
          refine lv_istore (i := 5) (lv' := [(5, .int 1), (0, .ref (adr (gB G) 9 0)), (1, .long z1), (3, .ref (adr (gB G) 25 z3)), (4, .int u4)]) hx hb dX5_listenerNamed_54 hl (by decide) rfl (fun ls hl => ?_)
          refine lv_iload hx hb dX5_listenerNamed_56 (lv_at hl 0 rfl) ?_
          refine lv_if_eq (tgt := 76) hx hb dX5_listenerNamed_58 (by decide) (fun cc => ?_) (fun cc => ?_)
          · have h := br_el h cc
            obtain ⟨x4, e⟩ : ∃ z : Int32, z = u4 + 1 := ⟨_, rfl⟩
            have h := sq_at h e
            refine lv_iinc (v := x4) (lv' := [(4, .int x4), (5, .int 1), (0, .ref (adr (gB G) 9 0)), (1, .long z1), (3, .ref (adr (gB G) 25 z3))]) hx hb dX5_listenerNamed_76 hl (k := 4) rfl (by rw [e]; rfl) (by decide) rfl (fun ls hl => ?_)
            refine lv_goto (tgt := 3) hx hb dX5_listenerNamed_79 (by decide) ?_
            exact ih x4 w t v4 w' h _ _ _ hP hS (lv_sub hl [2, 3, 4, 0] rfl) k0 k1
          · have h := br_er h cc
            refine lv_aload_n hx hb dX5_listenerNamed_61 rfl (lv_at hl 1 rfl) ?_
            refine k_get (ci := 3) (v := .ref (adr (gB G) 10 0)) hx hb hts hE inX5 hown hP (hp_sh hP hF 0 9 (by decide)) (by decide) rfl rfl 0 (by decide) w1_99 rfl rfl dX5_listenerNamed_62 ?_
            refine lv_iload hx hb dX5_listenerNamed_65 (lv_at hl 4 rfl) ?_
            obtain ⟨g5, h⟩ := gd_el h
            refine k_lald hx hb hE hP (hp_sh hP hF 0 10 (by decide)) (by decide) rfl g5 dX5_listenerNamed_67 ?_
            refine lv_lload_n hx hb dX5_listenerNamed_68 rfl (lv_at hl 2 rfl) ?_
            refine W.lcmp hx hb dX5_listenerNamed_69 ?_
            refine lv_if_ne (tgt := 76) hx hb dX5_listenerNamed_70 (by decide) (fun cc => ?_) (fun cc => ?_)
            · have h := br_er h cc
              obtain ⟨x6, e⟩ : ∃ z : Int32, z = u4 + 1 := ⟨_, rfl⟩
              have h := sq_at h e
              refine lv_iinc (v := x6) (lv' := [(4, .int x6), (5, .int 1), (0, .ref (adr (gB G) 9 0)), (1, .long z1), (3, .ref (adr (gB G) 25 z3))]) hx hb dX5_listenerNamed_76 hl (k := 4) rfl (by rw [e]; rfl) (by decide) rfl (fun ls hl => ?_)
              refine lv_goto (tgt := 3) hx hb dX5_listenerNamed_79 (by decide) ?_
              exact ih x6 w t v4 w' h _ _ _ hP hS (lv_sub hl [2, 3, 4, 0] rfl) k0 k1
            · have h := br_el h cc
              cases h
              exact k0 rfl _ _ _ hP hS (lv_sub hl [4] rfl)
      · have h := br_er h cc
        refine lv_iload hx hb dX5_listenerNamed_20 (lv_at hl 3 rfl) ?_
        refine lv_aload_n hx hb dX5_listenerNamed_22 rfl (lv_at hl 2 rfl) ?_
        refine k_getN (host := "HedgeNews") (ci := 6) (v := .int (gI w 25 z3 2)) hx hb hts hE inX8 hown hP (hp_sh hP hF z3 25 hz3) (by decide) rfl rfl 2 (by decide) (List.mem_of_getElem? (i := 4) rfl) rfl rfl dX5_listenerNamed_23 ?_
        refine lv_icmp_ge (tgt := 33) hx hb dX5_listenerNamed_26 (by decide) (fun cc => ?_) (fun cc => ?_)
        · have h := br_el h cc
          refine lv_iconst (v := 0) hx hb dX5_listenerNamed_33 (by decide) ?_
          refine lv_goto (tgt := 54) hx hb dX5_listenerNamed_34 (by decide) ?_
          refine lv_istore (i := 5) (lv' := [(5, .int 0), (0, .ref (adr (gB G) 9 0)), (1, .long z1), (3, .ref (adr (gB G) 25 z3)), (4, .int u4)]) hx hb dX5_listenerNamed_54 hl (by decide) rfl (fun ls hl => ?_)
          refine lv_iload hx hb dX5_listenerNamed_56 (lv_at hl 0 rfl) ?_
          refine lv_if_eq (tgt := 76) hx hb dX5_listenerNamed_58 (by decide) (fun cc => ?_) (fun cc => ?_)
          · have h := br_el h cc
            obtain ⟨x7, e⟩ : ∃ z : Int32, z = u4 + 1 := ⟨_, rfl⟩
            have h := sq_at h e
            refine lv_iinc (v := x7) (lv' := [(4, .int x7), (5, .int 0), (0, .ref (adr (gB G) 9 0)), (1, .long z1), (3, .ref (adr (gB G) 25 z3))]) hx hb dX5_listenerNamed_76 hl (k := 4) rfl (by rw [e]; rfl) (by decide) rfl (fun ls hl => ?_)
            refine lv_goto (tgt := 3) hx hb dX5_listenerNamed_79 (by decide) ?_
            exact ih x7 w t v4 w' h _ _ _ hP hS (lv_sub hl [2, 3, 4, 0] rfl) k0 k1
          · have h := br_er h cc
            refine lv_aload_n hx hb dX5_listenerNamed_61 rfl (lv_at hl 1 rfl) ?_
            refine k_get (ci := 3) (v := .ref (adr (gB G) 10 0)) hx hb hts hE inX5 hown hP (hp_sh hP hF 0 9 (by decide)) (by decide) rfl rfl 0 (by decide) w1_99 rfl rfl dX5_listenerNamed_62 ?_
            refine lv_iload hx hb dX5_listenerNamed_65 (lv_at hl 4 rfl) ?_
            obtain ⟨g8, h⟩ := gd_el h
            refine k_lald hx hb hE hP (hp_sh hP hF 0 10 (by decide)) (by decide) rfl g8 dX5_listenerNamed_67 ?_
            refine lv_lload_n hx hb dX5_listenerNamed_68 rfl (lv_at hl 2 rfl) ?_
            refine W.lcmp hx hb dX5_listenerNamed_69 ?_
            refine lv_if_ne (tgt := 76) hx hb dX5_listenerNamed_70 (by decide) (fun cc => ?_) (fun cc => ?_)
            · have h := br_er h cc
              obtain ⟨x9, e⟩ : ∃ z : Int32, z = u4 + 1 := ⟨_, rfl⟩
              have h := sq_at h e
              refine lv_iinc (v := x9) (lv' := [(4, .int x9), (5, .int 0), (0, .ref (adr (gB G) 9 0)), (1, .long z1), (3, .ref (adr (gB G) 25 z3))]) hx hb dX5_listenerNamed_76 hl (k := 4) rfl (by rw [e]; rfl) (by decide) rfl (fun ls hl => ?_)
              refine lv_goto (tgt := 3) hx hb dX5_listenerNamed_79 (by decide) ?_
              exact ih x9 w t v4 w' h _ _ _ hP hS (lv_sub hl [2, 3, 4, 0] rfl) k0 k1
            · have h := br_el h cc
              cases h
              exact k0 rfl _ _ _ hP hS (lv_sub hl [4] rfl)
        · have h := br_er h cc
          refine lv_iconst (v := 1) hx hb dX5_listenerNamed_29 (by decide) ?_
          refine lv_goto (tgt := 54) hx hb dX5_listenerNamed_30 (by decide) ?_
          refine lv_istore (i := 5) (lv' := [(5, .int 1), (0, .ref (adr (gB G) 9 0)), (1, .long z1), (3, .ref (adr (gB G) 25 z3)), (4, .int u4)]) hx hb dX5_listenerNamed_54 hl (by decide) rfl (fun ls hl => ?_)
          refine lv_iload hx hb dX5_listenerNamed_56 (lv_at hl 0 rfl) ?_
          refine lv_if_eq (tgt := 76) hx hb dX5_listenerNamed_58 (by decide) (fun cc => ?_) (fun cc => ?_)
          · have h := br_el h cc
            obtain ⟨x10, e⟩ : ∃ z : Int32, z = u4 + 1 := ⟨_, rfl⟩
            have h := sq_at h e
            refine lv_iinc (v := x10) (lv' := [(4, .int x10), (5, .int 1), (0, .ref (adr (gB G) 9 0)), (1, .long z1), (3, .ref (adr (gB G) 25 z3))]) hx hb dX5_listenerNamed_76 hl (k := 4) rfl (by rw [e]; rfl) (by decide) rfl (fun ls hl => ?_)
            refine lv_goto (tgt := 3) hx hb dX5_listenerNamed_79 (by decide) ?_
            exact ih x10 w t v4 w' h _ _ _ hP hS (lv_sub hl [2, 3, 4, 0] rfl) k0 k1
          · have h := br_er h cc
            refine lv_aload_n hx hb dX5_listenerNamed_61 rfl (lv_at hl 1 rfl) ?_
            refine k_get (ci := 3) (v := .ref (adr (gB G) 10 0)) hx hb hts hE inX5 hown hP (hp_sh hP hF 0 9 (by decide)) (by decide) rfl rfl 0 (by decide) w1_99 rfl rfl dX5_listenerNamed_62 ?_
            refine lv_iload hx hb dX5_listenerNamed_65 (lv_at hl 4 rfl) ?_
            obtain ⟨g11, h⟩ := gd_el h
            refine k_lald hx hb hE hP (hp_sh hP hF 0 10 (by decide)) (by decide) rfl g11 dX5_listenerNamed_67 ?_
            refine lv_lload_n hx hb dX5_listenerNamed_68 rfl (lv_at hl 2 rfl) ?_
            refine W.lcmp hx hb dX5_listenerNamed_69 ?_
            refine lv_if_ne (tgt := 76) hx hb dX5_listenerNamed_70 (by decide) (fun cc => ?_) (fun cc => ?_)
            · have h := br_er h cc
              obtain ⟨x12, e⟩ : ∃ z : Int32, z = u4 + 1 := ⟨_, rfl⟩
              have h := sq_at h e
              refine lv_iinc (v := x12) (lv' := [(4, .int x12), (5, .int 1), (0, .ref (adr (gB G) 9 0)), (1, .long z1), (3, .ref (adr (gB G) 25 z3))]) hx hb dX5_listenerNamed_76 hl (k := 4) rfl (by rw [e]; rfl) (by decide) rfl (fun ls hl => ?_)
              refine lv_goto (tgt := 3) hx hb dX5_listenerNamed_79 (by decide) ?_
              exact ih x12 w t v4 w' h _ _ _ hP hS (lv_sub hl [2, 3, 4, 0] rfl) k0 k1
            · have h := br_el h cc
              cases h
              exact k0 rfl _ _ _ hP hS (lv_sub hl [4] rfl)

set_option maxHeartbeats 4000000 in
set_option maxRecDepth 100000 in
theorem c_X5_listenerNamed (l : Launch) (G : GG) (hF : gF G = true) (a1 : Int64) (a3 : Nat) (ha3 : a3 < cnt 25) (w : Mm) (r : Int32) (w' : Mm) (h : f_X5_listenerNamed a1 a3 w = some (r, w')) : Ki l G yX5_listenerNamed cX5_listenerNamed 6 (some .int) { frames := 0, cells := 0, slots := 0, locals := 0 } [.ref (adr (gB G) 9 0), .long a1, .ref (adr (gB G) 25 a3)] w r w' := by
  refine k_of (by decide +kernel) (Nat.le_of_ble_eq_true rfl) ?_
  intro p e s m args below meth c ls hx hb hml hr hown hlocks hts hin hP hE hl
  have hC : CX p s m args c meth G cX5_listenerNamed 6 (some .int) RX5 := ⟨hx, hb, hml, hr, hown, hlocks, hts, hE⟩
  have hS : va_S (Ab G) s.heap s.heap [] := va_S.rf
  have hcs : 0 ≤ 0 ∧ 0 ≤ 0 := ⟨Nat.zero_le _, Nat.zero_le _⟩
  have hl : lv_has ls 6 [(0, .ref (adr (gB G) 9 0)), (1, .long a1), (3, .ref (adr (gB G) 25 a3))] := hl
  unfold f_X5_listenerNamed at h
  refine lv_iconst (v := 0) hx hb dX5_listenerNamed_0 (by decide) ?_
  refine lv_istore (i := 4) (lv' := [(4, .int 0), (0, .ref (adr (gB G) 9 0)), (1, .long a1), (3, .ref (adr (gB G) 25 a3))]) hx hb dX5_listenerNamed_1 hl (by decide) rfl (fun ls hl => ?_)
  obtain ⟨t15, y13, w14, hf, h⟩ := bd2_el h
  refine l_X5_listenerNamed_3 hC rfl hcs hF a1 a3 ha3 LF 0 w t15 y13 w14 hf _ _ _ hP hS (lv_sub hl [1, 2, 3, 0] rfl) (fun ht H locs ls hP hS hl => ?_) (fun ht H locs ls hP hS hl => ?_)
  · have h := br_el h ht
    refine lv_iload hx hb dX5_listenerNamed_73 (lv_at hl 0 rfl) ?_
    exact e_i hx hb hr rfl hlocks hP hS (Nat.le_of_ble_eq_true rfl) (Nat.le_of_ble_eq_true rfl) (Prod.mk.inj (so_el h)) dX5_listenerNamed_75
  · have h := br_er h (by rw [ht]; decide)
    refine lv_iconst (v := (-1)) hx hb dX5_listenerNamed_82 (by decide) ?_
    exact e_i hx hb hr rfl hlocks hP hS (Nat.le_of_ble_eq_true rfl) (Nat.le_of_ble_eq_true rfl) (Prod.mk.inj (so_el h)) dX5_listenerNamed_83

def f_X5_errorOfNewName (a1 : Int64) (a3 : Nat) (a4 : Nat) (w : Mm) : Option (Int32 × Mm) := bd1 (f_X5_listenerNamed a1 a4 w) (fun r1 w2 => br (r1 = (-1)) (br (a3 = 7) (sq (gI w2 25 a4 2) (fun x14 => br (a3 = 7) (br (a3 = 7) (br (8 ≤ x14) (some (4, w2)) (br (x14 < 0) (some (4, w2)) (br (x14 < 16) (gd (vB x14 16) (sq (pL w2 10 0 x14.toNatClampNeg a1) (fun w24 => some (0, w24)))) (some (4, w2))))) (sq (8 + x14) (fun x20 => br (8 ≤ x14) (some (4, w2)) (br (x20 < 0) (some (4, w2)) (br (x20 < 16) (gd (vB x20 16) (sq (pL w2 10 0 x20.toNatClampNeg a1) (fun w22 => some (0, w22)))) (some (4, w2))))))) (br (a3 = 7) (br (8 ≤ x14) (some (4, w2)) (br (x14 < 0) (some (4, w2)) (br (x14 < 16) (gd (vB x14 16) (sq (pL w2 10 0 x14.toNatClampNeg a1) (fun w19 => some (0, w19)))) (some (4, w2))))) (sq (8 + x14) (fun x15 => br (8 ≤ x14) (some (4, w2)) (br (x15 < 0) (some (4, w2)) (br (x15 < 16) (gd (vB x15 16) (sq (pL w2 10 0 x15.toNatClampNeg a1) (fun w17 => some (0, w17)))) (some (4, w2))))))))) (sq (gI w2 25 a4 3) (fun x3 => br (a3 = 7) (br (a3 = 7) (br (8 ≤ x3) (some (4, w2)) (br (x3 < 0) (some (4, w2)) (br (x3 < 16) (gd (vB x3 16) (sq (pL w2 10 0 x3.toNatClampNeg a1) (fun w13 => some (0, w13)))) (some (4, w2))))) (sq (8 + x3) (fun x9 => br (8 ≤ x3) (some (4, w2)) (br (x9 < 0) (some (4, w2)) (br (x9 < 16) (gd (vB x9 16) (sq (pL w2 10 0 x9.toNatClampNeg a1) (fun w11 => some (0, w11)))) (some (4, w2))))))) (br (a3 = 7) (br (8 ≤ x3) (some (4, w2)) (br (x3 < 0) (some (4, w2)) (br (x3 < 16) (gd (vB x3 16) (sq (pL w2 10 0 x3.toNatClampNeg a1) (fun w8 => some (0, w8)))) (some (4, w2))))) (sq (8 + x3) (fun x4 => br (8 ≤ x3) (some (4, w2)) (br (x4 < 0) (some (4, w2)) (br (x4 < 16) (gd (vB x4 16) (sq (pL w2 10 0 x4.toNatClampNeg a1) (fun w6 => some (0, w6)))) (some (4, w2)))))))))) (some (2, w2)))

theorem miX5_errorOfNewName : MI RX5 yX5_errorOfNewName cX5_errorOfNewName 8 (some .int) 3 := ⟨w3_130, (tb_sel 16 rfl rfl), w1_6, w3_131, rfl, by decide +kernel, by decide +kernel, by decide +kernel⟩
set_option maxHeartbeats 4000000 in
set_option maxRecDepth 100000 in
theorem c_X5_errorOfNewName (l : Launch) (G : GG) (hF : gF G = true) (a1 : Int64) (a3 : Nat) (a4 : Nat) (ha4 : a4 < cnt 25) (w : Mm) (r : Int32) (w' : Mm) (h : f_X5_errorOfNewName a1 a3 a4 w = some (r, w')) : Ki l G yX5_errorOfNewName cX5_errorOfNewName 8 (some .int) { frames := 1, cells := 0, slots := 0, locals := 25 } [.ref (adr (gB G) 9 0), .long a1, kR G a3, .ref (adr (gB G) 25 a4)] w r w' := by
  refine k_of (by decide +kernel) (by simp [lg_sl, cat_kR, cat_ref, cat_int, cat_long]) ?_
  intro p e s m args below meth c ls hx hb hml hr hown hlocks hts hin hP hE hl
  have hC : CX p s m args c meth G cX5_errorOfNewName 8 (some .int) RX5 := ⟨hx, hb, hml, hr, hown, hlocks, hts, hE⟩
  have hS : va_S (Ab G) s.heap s.heap [] := va_S.rf
  have hcs : 0 ≤ 0 ∧ 0 ≤ 0 := ⟨Nat.zero_le _, Nat.zero_le _⟩
  have hl : lv_has ls 8 [(0, .ref (adr (gB G) 9 0)), (1, .long a1), (3, kR G a3), (4, .ref (adr (gB G) 25 a4))] := by simpa [lv_args, cat_kR, cat_ref, cat_int, cat_long] using hl
  unfold f_X5_errorOfNewName at h
  refine lv_aload_n hx hb dX5_errorOfNewName_0 rfl (lv_at hl 0 rfl) ?_
  refine lv_lload_n hx hb dX5_errorOfNewName_1 rfl (lv_at hl 1 rfl) ?_
  refine lv_aload hx hb dX5_errorOfNewName_2 (lv_at hl 3 rfl) ?_
  obtain ⟨r1, w2, hf, h⟩ := bd1_el h
  refine c_oni (c_runV (b := adr (gB G) 9 0) (As := [.long a1, .ref (adr (gB G) 25 a4)]) (rest := []) hx hb hml hown hts hE hP hS (c_X5_listenerNamed l G hF a1 a4 ha4 w r1 w2 hf) (c_rec hE hP (hp_sh hP hF 0 9 (by decide)) (by decide) rfl rfl) w3_132 miX5_listenerNamed ⟨Nat.le_of_ble_eq_true rfl, Nat.le_of_ble_eq_true rfl⟩ rfl hl.1 rfl (Nat.le_of_ble_eq_true rfl) dX5_errorOfNewName_4 hcs) hS (fun H locs hP hS => ?_)
  refine lv_iconst (v := (-1)) hx hb dX5_errorOfNewName_7 (by decide) ?_
  refine lv_icmp_eq (tgt := 13) hx hb dX5_errorOfNewName_8 (by decide) (fun cc => ?_) (fun cc => ?_)
  · have h := br_el h cc
    refine k_aload_n hx hb dX5_errorOfNewName_13 rfl (lv_at hl 2 rfl) ?_
    refine k_kind (i := 6) (nm := "HEDGE") hx hb hE hS hown rfl (by decide) (hts _ w3_120) dX5_errorOfNewName_14 ?_
    refine k_acmp_ne (x := a3) (y := 7) (tgt := 28) hx hb hE dX5_errorOfNewName_17 (by decide) (fun cc => ?_) (fun cc => ?_)
    · have h := br_er h cc
      refine lv_aload hx hb dX5_errorOfNewName_28 (lv_at hl 3 rfl) ?_
      refine k_getN (host := "HedgeNews") (ci := 6) (v := .int (gI w2 25 a4 3)) hx hb hts hE inX8 hown hP (hp_sh hP hF a4 25 ha4) (by decide) rfl rfl 3 (by decide) (List.mem_of_getElem? (i := 6) rfl) rfl rfl dX5_errorOfNewName_30 ?_
      refine lv_topi (fun x3 e => ?_)
      have h := sq_at h e
      refine lv_istore (i := 5) (lv' := [(5, .int x3), (0, .ref (adr (gB G) 9 0)), (1, .long a1), (3, kR G a3), (4, .ref (adr (gB G) 25 a4))]) hx hb dX5_errorOfNewName_33 hl (by decide) (by simp [kR, cat_rf, cat_ref, cat_int, cat_long, cat_null]) (fun ls hl => ?_)
      refine k_aload_n hx hb dX5_errorOfNewName_35 rfl (lv_at hl 3 rfl) ?_
      refine k_kind (i := 6) (nm := "HEDGE") hx hb hE hS hown rfl (by decide) (hts _ w3_120) dX5_errorOfNewName_36 ?_
      refine k_acmp_ne (x := a3) (y := 7) (tgt := 47) hx hb hE dX5_errorOfNewName_39 (by decide) (fun cc => ?_) (fun cc => ?_)
      · have h := br_er h cc
        refine lv_bipush (v := 8) hx hb dX5_errorOfNewName_47 (by decide) ?_
        refine lv_istore (i := 6) (lv' := [(6, .int 8), (5, .int x3), (0, .ref (adr (gB G) 9 0)), (1, .long a1), (3, kR G a3), (4, .ref (adr (gB G) 25 a4))]) hx hb dX5_errorOfNewName_49 hl (by decide) (by simp [kR, cat_rf, cat_ref, cat_int, cat_long, cat_null]) (fun ls hl => ?_)
        refine k_aload_n hx hb dX5_errorOfNewName_51 rfl (lv_at hl 4 rfl) ?_
        refine k_kind (i := 6) (nm := "HEDGE") hx hb hE hS hown rfl (by decide) (hts _ w3_120) dX5_errorOfNewName_52 ?_
        refine k_acmp_ne (x := a3) (y := 7) (tgt := 63) hx hb hE dX5_errorOfNewName_55 (by decide) (fun cc => ?_) (fun cc => ?_)
        · have h := br_er h cc
          refine lv_bipush (v := 8) hx hb dX5_errorOfNewName_63 (by decide) ?_
          refine lv_iload hx hb dX5_errorOfNewName_65 (lv_at hl 1 rfl) ?_
          refine lv_iadd hx hb dX5_errorOfNewName_67 ?_
          refine lv_topi (fun x4 e => ?_)
          have h := sq_at h e
          refine lv_istore (i := 7) (lv' := [(7, .int x4), (6, .int 8), (5, .int x3), (0, .ref (adr (gB G) 9 0)), (1, .long a1), (3, kR G a3), (4, .ref (adr (gB G) 25 a4))]) hx hb dX5_errorOfNewName_68 hl (by decide) (by simp [kR, cat_rf, cat_ref, cat_int, cat_long, cat_null]) (fun ls hl => ?_)
          refine lv_iload hx hb dX5_errorOfNewName_70 (lv_at hl 2 rfl) ?_
          refine lv_iload hx hb dX5_errorOfNewName_72 (lv_at hl 1 rfl) ?_
          refine lv_icmp_ge (tgt := 92) hx hb dX5_errorOfNewName_74 (by decide) (fun cc => ?_) (fun cc => ?_)
          · have h := br_el h cc
            refine lv_iconst (v := 4) hx hb dX5_errorOfNewName_92 (by decide) ?_
            exact e_i hx hb hr rfl hlocks hP hS (Nat.le_of_ble_eq_true rfl) (Nat.le_of_ble_eq_true rfl) (Prod.mk.inj (so_el h)) dX5_errorOfNewName_93
          · have h := br_er h cc
            refine lv_iload hx hb dX5_errorOfNewName_77 (lv_at hl 0 rfl) ?_
            refine lv_if_lt (tgt := 92) hx hb dX5_errorOfNewName_79 (by decide) (fun cc => ?_) (fun cc => ?_)
            · have h := br_el h cc
              refine lv_iconst (v := 4) hx hb dX5_errorOfNewName_92 (by decide) ?_
              exact e_i hx hb hr rfl hlocks hP hS (Nat.le_of_ble_eq_true rfl) (Nat.le_of_ble_eq_true rfl) (Prod.mk.inj (so_el h)) dX5_errorOfNewName_93
            · have h := br_er h cc
              refine lv_iload hx hb dX5_errorOfNewName_82 (lv_at hl 0 rfl) ?_
              refine lv_aload_n hx hb dX5_errorOfNewName_84 rfl (lv_at hl 3 rfl) ?_
              refine k_get (ci := 3) (v := .ref (adr (gB G) 10 0)) hx hb hts hE inX5 hown hP (hp_sh hP hF 0 9 (by decide)) (by decide) rfl rfl 0 (by decide) w1_99 rfl rfl dX5_errorOfNewName_85 ?_
              refine k_alen (v := 16) hx hb hE hP (hp_sh hP hF 0 10 (by decide)) (by decide) rfl 1 rfl rfl dX5_errorOfNewName_88 ?_
              refine lv_icmp_lt (tgt := 94) hx hb dX5_errorOfNewName_89 (by decide) (fun cc => ?_) (fun cc => ?_)
              · have h := br_el h cc
                refine lv_aload_n hx hb dX5_errorOfNewName_94 rfl (lv_at hl 3 rfl) ?_
                refine k_get (ci := 3) (v := .ref (adr (gB G) 10 0)) hx hb hts hE inX5 hown hP (hp_sh hP hF 0 9 (by decide)) (by decide) rfl rfl 0 (by decide) w1_99 rfl rfl dX5_errorOfNewName_95 ?_
                refine lv_iload hx hb dX5_errorOfNewName_98 (lv_at hl 0 rfl) ?_
                refine lv_lload_n hx hb dX5_errorOfNewName_100 rfl (lv_at hl 4 rfl) ?_
                obtain ⟨g5, h⟩ := gd_el h
                refine k_last hx hb hE hP hS (hp_sh hP hF 0 10 (by decide)) (by decide) rfl rfl g5 dX5_errorOfNewName_101 (fun w6 H locs e hP hS => ?_)
                have h := sq_at h e
                refine lv_iconst (v := 0) hx hb dX5_errorOfNewName_102 (by decide) ?_
                exact e_i hx hb hr rfl hlocks hP hS (Nat.le_of_ble_eq_true rfl) (Nat.le_of_ble_eq_true rfl) (Prod.mk.inj (so_el h)) dX5_errorOfNewName_103
              · have h := br_er h cc
                refine lv_iconst (v := 4) hx hb dX5_errorOfNewName_92 (by decide) ?_
                exact e_i hx hb hr rfl hlocks hP hS (Nat.le_of_ble_eq_true rfl) (Nat.le_of_ble_eq_true rfl) (Prod.mk.inj (so_el h)) dX5_errorOfNewName_93
        · have h := br_el h cc
          refine lv_iload hx hb dX5_errorOfNewName_58 (lv_at hl 1 rfl) ?_
          refine lv_goto (tgt := 68) hx hb dX5_errorOfNewName_60 (by decide) ?_
          refine lv_istore (i := 7) (lv' := [(7, .int x3), (6, .int 8), (5, .int x3), (0, .ref (adr (gB G) 9 0)), (1, .long a1), (3, kR G a3), (4, .ref (adr (gB G) 25 a4))]) hx hb dX5_errorOfNewName_68 hl (by decide) (by simp [kR, cat_rf, cat_ref, cat_int, cat_long, cat_null]) (fun ls hl => ?_)
          refine lv_iload hx hb dX5_errorOfNewName_70 (lv_at hl 2 rfl) ?_
          refine lv_iload hx hb dX5_errorOfNewName_72 (lv_at hl 1 rfl) ?_
          refine lv_icmp_ge (tgt := 92) hx hb dX5_errorOfNewName_74 (by decide) (fun cc => ?_) (fun cc => ?_)
          · have h := br_el h cc
            refine lv_iconst (v := 4) hx hb dX5_errorOfNewName_92 (by decide) ?_
            exact e_i hx hb hr rfl hlocks hP hS (Nat.le_of_ble_eq_true rfl) (Nat.le_of_ble_eq_true rfl) (Prod.mk.inj (so_el h)) dX5_errorOfNewName_93
          · have h := br_er h cc
            refine lv_iload hx hb dX5_errorOfNewName_77 (lv_at hl 0 rfl) ?_
            refine lv_if_lt (tgt := 92) hx hb dX5_errorOfNewName_79 (by decide) (fun cc => ?_) (fun cc => ?_)
            · have h := br_el h cc
              refine lv_iconst (v := 4) hx hb dX5_errorOfNewName_92 (by decide) ?_
              exact e_i hx hb hr rfl hlocks hP hS (Nat.le_of_ble_eq_true rfl) (Nat.le_of_ble_eq_true rfl) (Prod.mk.inj (so_el h)) dX5_errorOfNewName_93
            · have h := br_er h cc
              refine lv_iload hx hb dX5_errorOfNewName_82 (lv_at hl 0 rfl) ?_
              refine lv_aload_n hx hb dX5_errorOfNewName_84 rfl (lv_at hl 3 rfl) ?_
              refine k_get (ci := 3) (v := .ref (adr (gB G) 10 0)) hx hb hts hE inX5 hown hP (hp_sh hP hF 0 9 (by decide)) (by decide) rfl rfl 0 (by decide) w1_99 rfl rfl dX5_errorOfNewName_85 ?_
              refine k_alen (v := 16) hx hb hE hP (hp_sh hP hF 0 10 (by decide)) (by decide) rfl 1 rfl rfl dX5_errorOfNewName_88 ?_
              refine lv_icmp_lt (tgt := 94) hx hb dX5_errorOfNewName_89 (by decide) (fun cc => ?_) (fun cc => ?_)
              · have h := br_el h cc
                refine lv_aload_n hx hb dX5_errorOfNewName_94 rfl (lv_at hl 3 rfl) ?_
                refine k_get (ci := 3) (v := .ref (adr (gB G) 10 0)) hx hb hts hE inX5 hown hP (hp_sh hP hF 0 9 (by decide)) (by decide) rfl rfl 0 (by decide) w1_99 rfl rfl dX5_errorOfNewName_95 ?_
                refine lv_iload hx hb dX5_errorOfNewName_98 (lv_at hl 0 rfl) ?_
                refine lv_lload_n hx hb dX5_errorOfNewName_100 rfl (lv_at hl 4 rfl) ?_
                obtain ⟨g7, h⟩ := gd_el h
                refine k_last hx hb hE hP hS (hp_sh hP hF 0 10 (by decide)) (by decide) rfl rfl g7 dX5_errorOfNewName_101 (fun w8 H locs e hP hS => ?_)
                have h := sq_at h e
                refine lv_iconst (v := 0) hx hb dX5_errorOfNewName_102 (by decide) ?_
                exact e_i hx hb hr rfl hlocks hP hS (Nat.le_of_ble_eq_true rfl) (Nat.le_of_ble_eq_true rfl) (Prod.mk.inj (so_el h)) dX5_errorOfNewName_103
              · have h := br_er h cc
                refine lv_iconst (v := 4) hx hb dX5_errorOfNewName_92 (by decide) ?_
                exact e_i hx hb hr rfl hlocks hP hS (Nat.le_of_ble_eq_true rfl) (Nat.le_of_ble_eq_true rfl) (Prod.mk.inj (so_el h)) dX5_errorOfNewName_93
      · have h := br_el h cc
        refine lv_bipush (v := 8) hx hb dX5_errorOfNewName_42 (by decide) ?_
        refine lv_goto (tgt := 49) hx hb dX5_errorOfNewName_44 (by decide) ?_
        refine lv_istore (i := 6) (lv' := [(6, .int 8), (5, .int x3), (0, .ref (adr (gB G) 9 0)), (1, .long a1), (3, kR G a3), (4, .ref (adr (gB G) 25 a4))]) hx hb dX5_errorOfNewName_49 hl (by decide) (by simp [kR, cat_rf, cat_ref, cat_int, cat_long, cat_null]) (fun ls hl => ?_)
        refine k_aload_n hx hb dX5_errorOfNewName_51 rfl (lv_at hl 4 rfl) ?_
        refine k_kind (i := 6) (nm := "HEDGE") hx hb hE hS hown rfl (by decide) (hts _ w3_120) dX5_errorOfNewName_52 ?_
        refine k_acmp_ne (x := a3) (y := 7) (tgt := 63) hx hb hE dX5_errorOfNewName_55 (by decide) (fun cc => ?_) (fun cc => ?_)
        · have h := br_er h cc
          refine lv_bipush (v := 8) hx hb dX5_errorOfNewName_63 (by decide) ?_
          refine lv_iload hx hb dX5_errorOfNewName_65 (lv_at hl 1 rfl) ?_
          refine lv_iadd hx hb dX5_errorOfNewName_67 ?_
          refine lv_topi (fun x9 e => ?_)
          have h := sq_at h e
          refine lv_istore (i := 7) (lv' := [(7, .int x9), (6, .int 8), (5, .int x3), (0, .ref (adr (gB G) 9 0)), (1, .long a1), (3, kR G a3), (4, .ref (adr (gB G) 25 a4))]) hx hb dX5_errorOfNewName_68 hl (by decide) (by simp [kR, cat_rf, cat_ref, cat_int, cat_long, cat_null]) (fun ls hl => ?_)
          refine lv_iload hx hb dX5_errorOfNewName_70 (lv_at hl 2 rfl) ?_
          refine lv_iload hx hb dX5_errorOfNewName_72 (lv_at hl 1 rfl) ?_
          refine lv_icmp_ge (tgt := 92) hx hb dX5_errorOfNewName_74 (by decide) (fun cc => ?_) (fun cc => ?_)
          · have h := br_el h cc
            refine lv_iconst (v := 4) hx hb dX5_errorOfNewName_92 (by decide) ?_
            exact e_i hx hb hr rfl hlocks hP hS (Nat.le_of_ble_eq_true rfl) (Nat.le_of_ble_eq_true rfl) (Prod.mk.inj (so_el h)) dX5_errorOfNewName_93
          · have h := br_er h cc
            refine lv_iload hx hb dX5_errorOfNewName_77 (lv_at hl 0 rfl) ?_
            refine lv_if_lt (tgt := 92) hx hb dX5_errorOfNewName_79 (by decide) (fun cc => ?_) (fun cc => ?_)
            · have h := br_el h cc
              refine lv_iconst (v := 4) hx hb dX5_errorOfNewName_92 (by decide) ?_
              exact e_i hx hb hr rfl hlocks hP hS (Nat.le_of_ble_eq_true rfl) (Nat.le_of_ble_eq_true rfl) (Prod.mk.inj (so_el h)) dX5_errorOfNewName_93
            · have h := br_er h cc
              refine lv_iload hx hb dX5_errorOfNewName_82 (lv_at hl 0 rfl) ?_
              refine lv_aload_n hx hb dX5_errorOfNewName_84 rfl (lv_at hl 3 rfl) ?_
              refine k_get (ci := 3) (v := .ref (adr (gB G) 10 0)) hx hb hts hE inX5 hown hP (hp_sh hP hF 0 9 (by decide)) (by decide) rfl rfl 0 (by decide) w1_99 rfl rfl dX5_errorOfNewName_85 ?_
              refine k_alen (v := 16) hx hb hE hP (hp_sh hP hF 0 10 (by decide)) (by decide) rfl 1 rfl rfl dX5_errorOfNewName_88 ?_
              refine lv_icmp_lt (tgt := 94) hx hb dX5_errorOfNewName_89 (by decide) (fun cc => ?_) (fun cc => ?_)
              · have h := br_el h cc
                refine lv_aload_n hx hb dX5_errorOfNewName_94 rfl (lv_at hl 3 rfl) ?_
                refine k_get (ci := 3) (v := .ref (adr (gB G) 10 0)) hx hb hts hE inX5 hown hP (hp_sh hP hF 0 9 (by decide)) (by decide) rfl rfl 0 (by decide) w1_99 rfl rfl dX5_errorOfNewName_95 ?_
                refine lv_iload hx hb dX5_errorOfNewName_98 (lv_at hl 0 rfl) ?_
                refine lv_lload_n hx hb dX5_errorOfNewName_100 rfl (lv_at hl 4 rfl) ?_
                obtain ⟨g10, h⟩ := gd_el h
                refine k_last hx hb hE hP hS (hp_sh hP hF 0 10 (by decide)) (by decide) rfl rfl g10 dX5_errorOfNewName_101 (fun w11 H locs e hP hS => ?_)
                have h := sq_at h e
                refine lv_iconst (v := 0) hx hb dX5_errorOfNewName_102 (by decide) ?_
                exact e_i hx hb hr rfl hlocks hP hS (Nat.le_of_ble_eq_true rfl) (Nat.le_of_ble_eq_true rfl) (Prod.mk.inj (so_el h)) dX5_errorOfNewName_103
              · have h := br_er h cc
                refine lv_iconst (v := 4) hx hb dX5_errorOfNewName_92 (by decide) ?_
                exact e_i hx hb hr rfl hlocks hP hS (Nat.le_of_ble_eq_true rfl) (Nat.le_of_ble_eq_true rfl) (Prod.mk.inj (so_el h)) dX5_errorOfNewName_93
        · have h := br_el h cc
          refine lv_iload hx hb dX5_errorOfNewName_58 (lv_at hl 1 rfl) ?_
          refine lv_goto (tgt := 68) hx hb dX5_errorOfNewName_60 (by decide) ?_
          refine lv_istore (i := 7) (lv' := [(7, .int x3), (6, .int 8), (5, .int x3), (0, .ref (adr (gB G) 9 0)), (1, .long a1), (3, kR G a3), (4, .ref (adr (gB G) 25 a4))]) hx hb dX5_errorOfNewName_68 hl (by decide) (by simp [kR, cat_rf, cat_ref, cat_int, cat_long, cat_null]) (fun ls hl => ?_)
          refine lv_iload hx hb dX5_errorOfNewName_70 (lv_at hl 2 rfl) ?_
          refine lv_iload hx hb dX5_errorOfNewName_72 (lv_at hl 1 rfl) ?_
          refine lv_icmp_ge (tgt := 92) hx hb dX5_errorOfNewName_74 (by decide) (fun cc => ?_) (fun cc => ?_)
          · have h := br_el h cc
            refine lv_iconst (v := 4) hx hb dX5_errorOfNewName_92 (by decide) ?_
            exact e_i hx hb hr rfl hlocks hP hS (Nat.le_of_ble_eq_true rfl) (Nat.le_of_ble_eq_true rfl) (Prod.mk.inj (so_el h)) dX5_errorOfNewName_93
          · have h := br_er h cc
            refine lv_iload hx hb dX5_errorOfNewName_77 (lv_at hl 0 rfl) ?_
            refine lv_if_lt (tgt := 92) hx hb dX5_errorOfNewName_79 (by decide) (fun cc => ?_) (fun cc => ?_)
            · have h := br_el h cc
              refine lv_iconst (v := 4) hx hb dX5_errorOfNewName_92 (by decide) ?_
              exact e_i hx hb hr rfl hlocks hP hS (Nat.le_of_ble_eq_true rfl) (Nat.le_of_ble_eq_true rfl) (Prod.mk.inj (so_el h)) dX5_errorOfNewName_93
            · have h := br_er h cc
              refine lv_iload hx hb dX5_errorOfNewName_82 (lv_at hl 0 rfl) ?_
              refine lv_aload_n hx hb dX5_errorOfNewName_84 rfl (lv_at hl 3 rfl) ?_
              refine k_get (ci := 3) (v := .ref (adr (gB G) 10 0)) hx hb hts hE inX5 hown hP (hp_sh hP hF 0 9 (by decide)) (by decide) rfl rfl 0 (by decide) w1_99 rfl rfl dX5_errorOfNewName_85 ?_
              refine k_alen (v := 16) hx hb hE hP (hp_sh hP hF 0 10 (by decide)) (by decide) rfl 1 rfl rfl dX5_errorOfNewName_88 ?_
              refine lv_icmp_lt (tgt := 94) hx hb dX5_errorOfNewName_89 (by decide) (fun cc => ?_) (fun cc => ?_)
              · have h := br_el h cc
                refine lv_aload_n hx hb dX5_errorOfNewName_94 rfl (lv_at hl 3 rfl) ?_
                refine k_get (ci := 3) (v := .ref (adr (gB G) 10 0)) hx hb hts hE inX5 hown hP (hp_sh hP hF 0 9 (by decide)) (by decide) rfl rfl 0 (by decide) w1_99 rfl rfl dX5_errorOfNewName_95 ?_
                refine lv_iload hx hb dX5_errorOfNewName_98 (lv_at hl 0 rfl) ?_
                refine lv_lload_n hx hb dX5_errorOfNewName_100 rfl (lv_at hl 4 rfl) ?_
                obtain ⟨g12, h⟩ := gd_el h
                refine k_last hx hb hE hP hS (hp_sh hP hF 0 10 (by decide)) (by decide) rfl rfl g12 dX5_errorOfNewName_101 (fun w13 H locs e hP hS => ?_)
                have h := sq_at h e
                refine lv_iconst (v := 0) hx hb dX5_errorOfNewName_102 (by decide) ?_
                exact e_i hx hb hr rfl hlocks hP hS (Nat.le_of_ble_eq_true rfl) (Nat.le_of_ble_eq_true rfl) (Prod.mk.inj (so_el h)) dX5_errorOfNewName_103
              · have h := br_er h cc
                refine lv_iconst (v := 4) hx hb dX5_errorOfNewName_92 (by decide) ?_
                exact e_i hx hb hr rfl hlocks hP hS (Nat.le_of_ble_eq_true rfl) (Nat.le_of_ble_eq_true rfl) (Prod.mk.inj (so_el h)) dX5_errorOfNewName_93
    · have h := br_el h cc
      refine lv_aload hx hb dX5_errorOfNewName_20 (lv_at hl 3 rfl) ?_
      refine k_getN (host := "HedgeNews") (ci := 6) (v := .int (gI w2 25 a4 2)) hx hb hts hE inX8 hown hP (hp_sh hP hF a4 25 ha4) (by decide) rfl rfl 2 (by decide) (List.mem_of_getElem? (i := 4) rfl) rfl rfl dX5_errorOfNewName_22 ?_
      refine lv_goto (tgt := 33) hx hb dX5_errorOfNewName_25 (by decide) ?_
      refine lv_topi (fun x14 e => ?_)
      have h := sq_at h e
      refine lv_istore (i := 5) (lv' := [(5, .int x14), (0, .ref (adr (gB G) 9 0)), (1, .long a1), (3, kR G a3), (4, .ref (adr (gB G) 25 a4))]) hx hb dX5_errorOfNewName_33 hl (by decide) (by simp [kR, cat_rf, cat_ref, cat_int, cat_long, cat_null]) (fun ls hl => ?_)
      refine k_aload_n hx hb dX5_errorOfNewName_35 rfl (lv_at hl 3 rfl) ?_
      refine k_kind (i := 6) (nm := "HEDGE") hx hb hE hS hown rfl (by decide) (hts _ w3_120) dX5_errorOfNewName_36 ?_
      refine k_acmp_ne (x := a3) (y := 7) (tgt := 47) hx hb hE dX5_errorOfNewName_39 (by decide) (fun cc => ?_) (fun cc => ?_)
      · have h := br_er h cc
        refine lv_bipush (v := 8) hx hb dX5_errorOfNewName_47 (by decide) ?_
        refine lv_istore (i := 6) (lv' := [(6, .int 8), (5, .int x14), (0, .ref (adr (gB G) 9 0)), (1, .long a1), (3, kR G a3), (4, .ref (adr (gB G) 25 a4))]) hx hb dX5_errorOfNewName_49 hl (by decide) (by simp [kR, cat_rf, cat_ref, cat_int, cat_long, cat_null]) (fun ls hl => ?_)
        refine k_aload_n hx hb dX5_errorOfNewName_51 rfl (lv_at hl 4 rfl) ?_
        refine k_kind (i := 6) (nm := "HEDGE") hx hb hE hS hown rfl (by decide) (hts _ w3_120) dX5_errorOfNewName_52 ?_
        refine k_acmp_ne (x := a3) (y := 7) (tgt := 63) hx hb hE dX5_errorOfNewName_55 (by decide) (fun cc => ?_) (fun cc => ?_)
        · have h := br_er h cc
          refine lv_bipush (v := 8) hx hb dX5_errorOfNewName_63 (by decide) ?_
          refine lv_iload hx hb dX5_errorOfNewName_65 (lv_at hl 1 rfl) ?_
          refine lv_iadd hx hb dX5_errorOfNewName_67 ?_
          refine lv_topi (fun x15 e => ?_)
          have h := sq_at h e
          refine lv_istore (i := 7) (lv' := [(7, .int x15), (6, .int 8), (5, .int x14), (0, .ref (adr (gB G) 9 0)), (1, .long a1), (3, kR G a3), (4, .ref (adr (gB G) 25 a4))]) hx hb dX5_errorOfNewName_68 hl (by decide) (by simp [kR, cat_rf, cat_ref, cat_int, cat_long, cat_null]) (fun ls hl => ?_)
          refine lv_iload hx hb dX5_errorOfNewName_70 (lv_at hl 2 rfl) ?_
          refine lv_iload hx hb dX5_errorOfNewName_72 (lv_at hl 1 rfl) ?_
          refine lv_icmp_ge (tgt := 92) hx hb dX5_errorOfNewName_74 (by decide) (fun cc => ?_) (fun cc => ?_)
          · have h := br_el h cc
            refine lv_iconst (v := 4) hx hb dX5_errorOfNewName_92 (by decide) ?_
            exact e_i hx hb hr rfl hlocks hP hS (Nat.le_of_ble_eq_true rfl) (Nat.le_of_ble_eq_true rfl) (Prod.mk.inj (so_el h)) dX5_errorOfNewName_93
          · have h := br_er h cc
            refine lv_iload hx hb dX5_errorOfNewName_77 (lv_at hl 0 rfl) ?_
            refine lv_if_lt (tgt := 92) hx hb dX5_errorOfNewName_79 (by decide) (fun cc => ?_) (fun cc => ?_)
            · have h := br_el h cc
              refine lv_iconst (v := 4) hx hb dX5_errorOfNewName_92 (by decide) ?_
              exact e_i hx hb hr rfl hlocks hP hS (Nat.le_of_ble_eq_true rfl) (Nat.le_of_ble_eq_true rfl) (Prod.mk.inj (so_el h)) dX5_errorOfNewName_93
            · have h := br_er h cc
              refine lv_iload hx hb dX5_errorOfNewName_82 (lv_at hl 0 rfl) ?_
              refine lv_aload_n hx hb dX5_errorOfNewName_84 rfl (lv_at hl 3 rfl) ?_
              refine k_get (ci := 3) (v := .ref (adr (gB G) 10 0)) hx hb hts hE inX5 hown hP (hp_sh hP hF 0 9 (by decide)) (by decide) rfl rfl 0 (by decide) w1_99 rfl rfl dX5_errorOfNewName_85 ?_
              refine k_alen (v := 16) hx hb hE hP (hp_sh hP hF 0 10 (by decide)) (by decide) rfl 1 rfl rfl dX5_errorOfNewName_88 ?_
              refine lv_icmp_lt (tgt := 94) hx hb dX5_errorOfNewName_89 (by decide) (fun cc => ?_) (fun cc => ?_)
              · have h := br_el h cc
                refine lv_aload_n hx hb dX5_errorOfNewName_94 rfl (lv_at hl 3 rfl) ?_
                refine k_get (ci := 3) (v := .ref (adr (gB G) 10 0)) hx hb hts hE inX5 hown hP (hp_sh hP hF 0 9 (by decide)) (by decide) rfl rfl 0 (by decide) w1_99 rfl rfl dX5_errorOfNewName_95 ?_
                refine lv_iload hx hb dX5_errorOfNewName_98 (lv_at hl 0 rfl) ?_
                refine lv_lload_n hx hb dX5_errorOfNewName_100 rfl (lv_at hl 4 rfl) ?_
                obtain ⟨g16, h⟩ := gd_el h
                refine k_last hx hb hE hP hS (hp_sh hP hF 0 10 (by decide)) (by decide) rfl rfl g16 dX5_errorOfNewName_101 (fun w17 H locs e hP hS => ?_)
                have h := sq_at h e
                refine lv_iconst (v := 0) hx hb dX5_errorOfNewName_102 (by decide) ?_
                exact e_i hx hb hr rfl hlocks hP hS (Nat.le_of_ble_eq_true rfl) (Nat.le_of_ble_eq_true rfl) (Prod.mk.inj (so_el h)) dX5_errorOfNewName_103
              · have h := br_er h cc
                refine lv_iconst (v := 4) hx hb dX5_errorOfNewName_92 (by decide) ?_
                exact e_i hx hb hr rfl hlocks hP hS (Nat.le_of_ble_eq_true rfl) (Nat.le_of_ble_eq_true rfl) (Prod.mk.inj (so_el h)) dX5_errorOfNewName_93
        · have h := br_el h cc
          refine lv_iload hx hb dX5_errorOfNewName_58 (lv_at hl 1 rfl) ?_
          refine lv_goto (tgt := 68) hx hb dX5_errorOfNewName_60 (by decide) ?_
          refine lv_istore (i := 7) (lv' := [(7, .int x14), (6, .int 8), (5, .int x14), (0, .ref (adr (gB G) 9 0)), (1, .long a1), (3, kR G a3), (4, .ref (adr (gB G) 25 a4))]) hx hb dX5_errorOfNewName_68 hl (by decide) (by simp [kR, cat_rf, cat_ref, cat_int, cat_long, cat_null]) (fun ls hl => ?_)
          refine lv_iload hx hb dX5_errorOfNewName_70 (lv_at hl 2 rfl) ?_
          refine lv_iload hx hb dX5_errorOfNewName_72 (lv_at hl 1 rfl) ?_
          refine lv_icmp_ge (tgt := 92) hx hb dX5_errorOfNewName_74 (by decide) (fun cc => ?_) (fun cc => ?_)
          · have h := br_el h cc
            refine lv_iconst (v := 4) hx hb dX5_errorOfNewName_92 (by decide) ?_
            exact e_i hx hb hr rfl hlocks hP hS (Nat.le_of_ble_eq_true rfl) (Nat.le_of_ble_eq_true rfl) (Prod.mk.inj (so_el h)) dX5_errorOfNewName_93
          · have h := br_er h cc
            refine lv_iload hx hb dX5_errorOfNewName_77 (lv_at hl 0 rfl) ?_
            refine lv_if_lt (tgt := 92) hx hb dX5_errorOfNewName_79 (by decide) (fun cc => ?_) (fun cc => ?_)
            · have h := br_el h cc
              refine lv_iconst (v := 4) hx hb dX5_errorOfNewName_92 (by decide) ?_
              exact e_i hx hb hr rfl hlocks hP hS (Nat.le_of_ble_eq_true rfl) (Nat.le_of_ble_eq_true rfl) (Prod.mk.inj (so_el h)) dX5_errorOfNewName_93
            · have h := br_er h cc
              refine lv_iload hx hb dX5_errorOfNewName_82 (lv_at hl 0 rfl) ?_
              refine lv_aload_n hx hb dX5_errorOfNewName_84 rfl (lv_at hl 3 rfl) ?_
              refine k_get (ci := 3) (v := .ref (adr (gB G) 10 0)) hx hb hts hE inX5 hown hP (hp_sh hP hF 0 9 (by decide)) (by decide) rfl rfl 0 (by decide) w1_99 rfl rfl dX5_errorOfNewName_85 ?_
              refine k_alen (v := 16) hx hb hE hP (hp_sh hP hF 0 10 (by decide)) (by decide) rfl 1 rfl rfl dX5_errorOfNewName_88 ?_
              refine lv_icmp_lt (tgt := 94) hx hb dX5_errorOfNewName_89 (by decide) (fun cc => ?_) (fun cc => ?_)
              · have h := br_el h cc
                refine lv_aload_n hx hb dX5_errorOfNewName_94 rfl (lv_at hl 3 rfl) ?_
                refine k_get (ci := 3) (v := .ref (adr (gB G) 10 0)) hx hb hts hE inX5 hown hP (hp_sh hP hF 0 9 (by decide)) (by decide) rfl rfl 0 (by decide) w1_99 rfl rfl dX5_errorOfNewName_95 ?_
                refine lv_iload hx hb dX5_errorOfNewName_98 (lv_at hl 0 rfl) ?_
                refine lv_lload_n hx hb dX5_errorOfNewName_100 rfl (lv_at hl 4 rfl) ?_
                obtain ⟨g18, h⟩ := gd_el h
                refine k_last hx hb hE hP hS (hp_sh hP hF 0 10 (by decide)) (by decide) rfl rfl g18 dX5_errorOfNewName_101 (fun w19 H locs e hP hS => ?_)
                have h := sq_at h e
                refine lv_iconst (v := 0) hx hb dX5_errorOfNewName_102 (by decide) ?_
                exact e_i hx hb hr rfl hlocks hP hS (Nat.le_of_ble_eq_true rfl) (Nat.le_of_ble_eq_true rfl) (Prod.mk.inj (so_el h)) dX5_errorOfNewName_103
              · have h := br_er h cc
                refine lv_iconst (v := 4) hx hb dX5_errorOfNewName_92 (by decide) ?_
                exact e_i hx hb hr rfl hlocks hP hS (Nat.le_of_ble_eq_true rfl) (Nat.le_of_ble_eq_true rfl) (Prod.mk.inj (so_el h)) dX5_errorOfNewName_93
      · have h := br_el h cc
        refine lv_bipush (v := 8) hx hb dX5_errorOfNewName_42 (by decide) ?_
        refine lv_goto (tgt := 49) hx hb dX5_errorOfNewName_44 (by decide) ?_
        refine lv_istore (i := 6) (lv' := [(6, .int 8), (5, .int x14), (0, .ref (adr (gB G) 9 0)), (1, .long a1), (3, kR G a3), (4, .ref (adr (gB G) 25 a4))]) hx hb dX5_errorOfNewName_49 hl (by decide) (by simp [kR, cat_rf, cat_ref, cat_int, cat_long, cat_null]) (fun ls hl => ?_)
        refine k_aload_n hx hb dX5_errorOfNewName_51 rfl (lv_at hl 4 rfl) ?_
        refine k_kind (i := 6) (nm := "HEDGE") hx hb hE hS hown rfl (by decide) (hts _ w3_120) dX5_errorOfNewName_52 ?_
        refine k_acmp_ne (x := a3) (y := 7) (tgt := 63) hx hb hE dX5_errorOfNewName_55 (by decide) (fun cc => ?_) (fun cc => ?_)
        · have h := br_er h cc
          refine lv_bipush (v := 8) hx hb dX5_errorOfNewName_63 (by decide) ?_
          refine lv_iload hx hb dX5_errorOfNewName_65 (lv_at hl 1 rfl) ?_
          refine lv_iadd hx hb dX5_errorOfNewName_67 ?_
          refine lv_topi (fun x20 e => ?_)
          have h := sq_at h e
          refine lv_istore (i := 7) (lv' := [(7, .int x20), (6, .int 8), (5, .int x14), (0, .ref (adr (gB G) 9 0)), (1, .long a1), (3, kR G a3), (4, .ref (adr (gB G) 25 a4))]) hx hb dX5_errorOfNewName_68 hl (by decide) (by simp [kR, cat_rf, cat_ref, cat_int, cat_long, cat_null]) (fun ls hl => ?_)
          refine lv_iload hx hb dX5_errorOfNewName_70 (lv_at hl 2 rfl) ?_
          refine lv_iload hx hb dX5_errorOfNewName_72 (lv_at hl 1 rfl) ?_
          refine lv_icmp_ge (tgt := 92) hx hb dX5_errorOfNewName_74 (by decide) (fun cc => ?_) (fun cc => ?_)
          · have h := br_el h cc
            refine lv_iconst (v := 4) hx hb dX5_errorOfNewName_92 (by decide) ?_
            exact e_i hx hb hr rfl hlocks hP hS (Nat.le_of_ble_eq_true rfl) (Nat.le_of_ble_eq_true rfl) (Prod.mk.inj (so_el h)) dX5_errorOfNewName_93
          · have h := br_er h cc
            refine lv_iload hx hb dX5_errorOfNewName_77 (lv_at hl 0 rfl) ?_
            refine lv_if_lt (tgt := 92) hx hb dX5_errorOfNewName_79 (by decide) (fun cc => ?_) (fun cc => ?_)
            · have h := br_el h cc
              refine lv_iconst (v := 4) hx hb dX5_errorOfNewName_92 (by decide) ?_
              exact e_i hx hb hr rfl hlocks hP hS (Nat.le_of_ble_eq_true rfl) (Nat.le_of_ble_eq_true rfl) (Prod.mk.inj (so_el h)) dX5_errorOfNewName_93
            · have h := br_er h cc
              refine lv_iload hx hb dX5_errorOfNewName_82 (lv_at hl 0 rfl) ?_
              refine lv_aload_n hx hb dX5_errorOfNewName_84 rfl (lv_at hl 3 rfl) ?_
              refine k_get (ci := 3) (v := .ref (adr (gB G) 10 0)) hx hb hts hE inX5 hown hP (hp_sh hP hF 0 9 (by decide)) (by decide) rfl rfl 0 (by decide) w1_99 rfl rfl dX5_errorOfNewName_85 ?_
              refine k_alen (v := 16) hx hb hE hP (hp_sh hP hF 0 10 (by decide)) (by decide) rfl 1 rfl rfl dX5_errorOfNewName_88 ?_
              refine lv_icmp_lt (tgt := 94) hx hb dX5_errorOfNewName_89 (by decide) (fun cc => ?_) (fun cc => ?_)
              · have h := br_el h cc
                refine lv_aload_n hx hb dX5_errorOfNewName_94 rfl (lv_at hl 3 rfl) ?_
                refine k_get (ci := 3) (v := .ref (adr (gB G) 10 0)) hx hb hts hE inX5 hown hP (hp_sh hP hF 0 9 (by decide)) (by decide) rfl rfl 0 (by decide) w1_99 rfl rfl dX5_errorOfNewName_95 ?_
                refine lv_iload hx hb dX5_errorOfNewName_98 (lv_at hl 0 rfl) ?_
                refine lv_lload_n hx hb dX5_errorOfNewName_100 rfl (lv_at hl 4 rfl) ?_
                obtain ⟨g21, h⟩ := gd_el h
                refine k_last hx hb hE hP hS (hp_sh hP hF 0 10 (by decide)) (by decide) rfl rfl g21 dX5_errorOfNewName_101 (fun w22 H locs e hP hS => ?_)
                have h := sq_at h e
                refine lv_iconst (v := 0) hx hb dX5_errorOfNewName_102 (by decide) ?_
                exact e_i hx hb hr rfl hlocks hP hS (Nat.le_of_ble_eq_true rfl) (Nat.le_of_ble_eq_true rfl) (Prod.mk.inj (so_el h)) dX5_errorOfNewName_103
              · have h := br_er h cc
                refine lv_iconst (v := 4) hx hb dX5_errorOfNewName_92 (by decide) ?_
                exact e_i hx hb hr rfl hlocks hP hS (Nat.le_of_ble_eq_true rfl) (Nat.le_of_ble_eq_true rfl) (Prod.mk.inj (so_el h)) dX5_errorOfNewName_93
        · have h := br_el h cc
          refine lv_iload hx hb dX5_errorOfNewName_58 (lv_at hl 1 rfl) ?_
          refine lv_goto (tgt := 68) hx hb dX5_errorOfNewName_60 (by decide) ?_
          refine lv_istore (i := 7) (lv' := [(7, .int x14), (6, .int 8), (5, .int x14), (0, .ref (adr (gB G) 9 0)), (1, .long a1), (3, kR G a3), (4, .ref (adr (gB G) 25 a4))]) hx hb dX5_errorOfNewName_68 hl (by decide) (by simp [kR, cat_rf, cat_ref, cat_int, cat_long, cat_null]) (fun ls hl => ?_)
          refine lv_iload hx hb dX5_errorOfNewName_70 (lv_at hl 2 rfl) ?_
          refine lv_iload hx hb dX5_errorOfNewName_72 (lv_at hl 1 rfl) ?_
          refine lv_icmp_ge (tgt := 92) hx hb dX5_errorOfNewName_74 (by decide) (fun cc => ?_) (fun cc => ?_)
          · have h := br_el h cc
            refine lv_iconst (v := 4) hx hb dX5_errorOfNewName_92 (by decide) ?_
            exact e_i hx hb hr rfl hlocks hP hS (Nat.le_of_ble_eq_true rfl) (Nat.le_of_ble_eq_true rfl) (Prod.mk.inj (so_el h)) dX5_errorOfNewName_93
          · have h := br_er h cc
            refine lv_iload hx hb dX5_errorOfNewName_77 (lv_at hl 0 rfl) ?_
            refine lv_if_lt (tgt := 92) hx hb dX5_errorOfNewName_79 (by decide) (fun cc => ?_) (fun cc => ?_)
            · have h := br_el h cc
              refine lv_iconst (v := 4) hx hb dX5_errorOfNewName_92 (by decide) ?_
              exact e_i hx hb hr rfl hlocks hP hS (Nat.le_of_ble_eq_true rfl) (Nat.le_of_ble_eq_true rfl) (Prod.mk.inj (so_el h)) dX5_errorOfNewName_93
            · have h := br_er h cc
              refine lv_iload hx hb dX5_errorOfNewName_82 (lv_at hl 0 rfl) ?_
              refine lv_aload_n hx hb dX5_errorOfNewName_84 rfl (lv_at hl 3 rfl) ?_
              refine k_get (ci := 3) (v := .ref (adr (gB G) 10 0)) hx hb hts hE inX5 hown hP (hp_sh hP hF 0 9 (by decide)) (by decide) rfl rfl 0 (by decide) w1_99 rfl rfl dX5_errorOfNewName_85 ?_
              refine k_alen (v := 16) hx hb hE hP (hp_sh hP hF 0 10 (by decide)) (by decide) rfl 1 rfl rfl dX5_errorOfNewName_88 ?_
              refine lv_icmp_lt (tgt := 94) hx hb dX5_errorOfNewName_89 (by decide) (fun cc => ?_) (fun cc => ?_)
              · have h := br_el h cc
                refine lv_aload_n hx hb dX5_errorOfNewName_94 rfl (lv_at hl 3 rfl) ?_
                refine k_get (ci := 3) (v := .ref (adr (gB G) 10 0)) hx hb hts hE inX5 hown hP (hp_sh hP hF 0 9 (by decide)) (by decide) rfl rfl 0 (by decide) w1_99 rfl rfl dX5_errorOfNewName_95 ?_
                refine lv_iload hx hb dX5_errorOfNewName_98 (lv_at hl 0 rfl) ?_
                refine lv_lload_n hx hb dX5_errorOfNewName_100 rfl (lv_at hl 4 rfl) ?_
                obtain ⟨g23, h⟩ := gd_el h
                refine k_last hx hb hE hP hS (hp_sh hP hF 0 10 (by decide)) (by decide) rfl rfl g23 dX5_errorOfNewName_101 (fun w24 H locs e hP hS => ?_)
                have h := sq_at h e
                refine lv_iconst (v := 0) hx hb dX5_errorOfNewName_102 (by decide) ?_
                exact e_i hx hb hr rfl hlocks hP hS (Nat.le_of_ble_eq_true rfl) (Nat.le_of_ble_eq_true rfl) (Prod.mk.inj (so_el h)) dX5_errorOfNewName_103
              · have h := br_er h cc
                refine lv_iconst (v := 4) hx hb dX5_errorOfNewName_92 (by decide) ?_
                exact e_i hx hb hr rfl hlocks hP hS (Nat.le_of_ble_eq_true rfl) (Nat.le_of_ble_eq_true rfl) (Prod.mk.inj (so_el h)) dX5_errorOfNewName_93
  · have h := br_er h cc
    refine lv_iconst (v := 2) hx hb dX5_errorOfNewName_11 (by decide) ?_
    exact e_i hx hb hr rfl hlocks hP hS (Nat.le_of_ble_eq_true rfl) (Nat.le_of_ble_eq_true rfl) (Prod.mk.inj (so_el h)) dX5_errorOfNewName_12

def f_X8_addHedge (a0 : Nat) (a1 : Int32) (w : Mm) : Option (Mm) := br ((gI w 25 a0 2) < 0) (some w) (br (8 ≤ (gI w 25 a0 2)) (some w) (gd (vB (gI w 25 a0 2) 8) (sq (pI w 26 a0 (gI w 25 a0 2).toNatClampNeg a1) (fun w2 => sq (pI w2 25 a0 2 ((gI w2 25 a0 2) + 1)) (fun w3 => some w3)))))

theorem miX8_addHedge : MI RX8 yX8_addHedge cX8_addHedge 2 none 1 := ⟨w3_112, w3_113, w1_12, w3_114, rfl, by decide +kernel, by decide +kernel, by decide +kernel⟩
set_option maxHeartbeats 4000000 in
set_option maxRecDepth 100000 in
theorem c_X8_addHedge (l : Launch) (G : GG) (hF : gF G = true) (a0 : Nat) (ha0 : a0 < cnt 25) (a1 : Int32) (w : Mm) (w' : Mm) (h : f_X8_addHedge a0 a1 w = some w') : Kv l G yX8_addHedge cX8_addHedge 2 none { frames := 0, cells := 0, slots := 0, locals := 0 } [.ref (adr (gB G) 25 a0), .int a1] w w' := by
  refine k_of (by decide +kernel) (Nat.le_of_ble_eq_true rfl) ?_
  intro p e s m args below meth c ls hx hb hml hr hown hlocks hts hin hP hE hl
  have hC : CX p s m args c meth G cX8_addHedge 2 none RX8 := ⟨hx, hb, hml, hr, hown, hlocks, hts, hE⟩
  have hS : va_S (Ab G) s.heap s.heap [] := va_S.rf
  have hcs : 0 ≤ 0 ∧ 0 ≤ 0 := ⟨Nat.zero_le _, Nat.zero_le _⟩
  have hl : lv_has ls 2 [(0, .ref (adr (gB G) 25 a0)), (1, .int a1)] := hl
  unfold f_X8_addHedge at h
  refine lv_aload_n hx hb dX8_addHedge_0 rfl (lv_at hl 0 rfl) ?_
  refine k_get (ci := 6) (v := .int (gI w 25 a0 2)) hx hb hts hE inX8 hown hP (hp_sh hP hF a0 25 ha0) (by decide) rfl rfl 2 (by decide) w2_32 rfl rfl dX8_addHedge_1 ?_
  refine lv_if_lt (tgt := 39) hx hb dX8_addHedge_4 (by decide) (fun cc => ?_) (fun cc => ?_)
  · have h := br_el h cc
    exact e_v hx hb hr hlocks hP hS (Nat.le_of_ble_eq_true rfl) (Nat.le_of_ble_eq_true rfl) (so_el h) dX8_addHedge_39
  · have h := br_er h cc
    refine lv_aload_n hx hb dX8_addHedge_7 rfl (lv_at hl 0 rfl) ?_
    refine k_get (ci := 6) (v := .int (gI w 25 a0 2)) hx hb hts hE inX8 hown hP (hp_sh hP hF a0 25 ha0) (by decide) rfl rfl 2 (by decide) w2_32 rfl rfl dX8_addHedge_8 ?_
    refine lv_aload_n hx hb dX8_addHedge_11 rfl (lv_at hl 0 rfl) ?_
    refine k_get (ci := 6) (v := .ref (adr (gB G) 26 a0)) hx hb hts hE inX8 hown hP (hp_sh hP hF a0 25 ha0) (by decide) rfl rfl 0 (by decide) w2_28 rfl rfl dX8_addHedge_12 ?_
    refine k_alen (v := 8) hx hb hE hP (hp_sh hP hF a0 26 ha0) (by decide) rfl 0 rfl rfl dX8_addHedge_15 ?_
    refine lv_icmp_ge (tgt := 39) hx hb dX8_addHedge_16 (by decide) (fun cc => ?_) (fun cc => ?_)
    · have h := br_el h cc
      exact e_v hx hb hr hlocks hP hS (Nat.le_of_ble_eq_true rfl) (Nat.le_of_ble_eq_true rfl) (so_el h) dX8_addHedge_39
    · have h := br_er h cc
      refine lv_aload_n hx hb dX8_addHedge_19 rfl (lv_at hl 0 rfl) ?_
      refine k_get (ci := 6) (v := .ref (adr (gB G) 26 a0)) hx hb hts hE inX8 hown hP (hp_sh hP hF a0 25 ha0) (by decide) rfl rfl 0 (by decide) w2_28 rfl rfl dX8_addHedge_20 ?_
      refine lv_aload_n hx hb dX8_addHedge_23 rfl (lv_at hl 0 rfl) ?_
      refine k_get (ci := 6) (v := .int (gI w 25 a0 2)) hx hb hts hE inX8 hown hP (hp_sh hP hF a0 25 ha0) (by decide) rfl rfl 2 (by decide) w2_32 rfl rfl dX8_addHedge_24 ?_
      refine lv_iload_n hx hb dX8_addHedge_27 rfl (lv_at hl 1 rfl) ?_
      obtain ⟨g1, h⟩ := gd_el h
      refine k_iast hx hb hE hP hS (hp_sh hP hF a0 26 ha0) (by decide) rfl rfl g1 dX8_addHedge_28 (fun w2 H locs e hP hS => ?_)
      have h := sq_at h e
      refine lv_aload_n hx hb dX8_addHedge_29 rfl (lv_at hl 0 rfl) ?_
      refine lv_dup hx hb dX8_addHedge_30 rfl ?_
      refine k_get (ci := 6) (v := .int (gI w2 25 a0 2)) hx hb hts hE inX8 hown hP (hp_sh hP hF a0 25 ha0) (by decide) rfl rfl 2 (by decide) w2_32 rfl rfl dX8_addHedge_31 ?_
      refine lv_iconst (v := 1) hx hb dX8_addHedge_34 (by decide) ?_
      refine lv_iadd hx hb dX8_addHedge_35 ?_
      refine k_put (ci := 6) (ty := .int) (v := .int ((gI w2 25 a0 2) + 1)) (w1 := pI w2 25 a0 2 ((gI w2 25 a0 2) + 1)) hx hb hts hE inX8 tyX8 tyX8_ok nmX8 hown hP hS (hp_sh hP hF a0 25 ha0) (by decide) rfl rfl 2 (by decide) w2_32 rfl rfl rfl rfl rfl (Nat.le_of_ble_eq_true rfl) loc_pI (wce_pI.trans rfl) dX8_addHedge_36 (fun w3 H locs e hP hS => ?_)
      have h := sq_at h e
      exact e_v hx hb hr hlocks hP hS (Nat.le_of_ble_eq_true rfl) (Nat.le_of_ble_eq_true rfl) (so_el h) dX8_addHedge_39

def f_X8_addRose (a0 : Nat) (a1 : Int32) (w : Mm) : Option (Mm) := br ((gI w 25 a0 3) < 0) (some w) (br (8 ≤ (gI w 25 a0 3)) (some w) (gd (vB (gI w 25 a0 3) 8) (sq (pI w 27 a0 (gI w 25 a0 3).toNatClampNeg a1) (fun w2 => sq (pI w2 25 a0 3 ((gI w2 25 a0 3) + 1)) (fun w3 => some w3)))))

theorem miX8_addRose : MI RX8 yX8_addRose cX8_addRose 2 none 1 := ⟨w3_116, w3_117, w1_12, w3_118, rfl, by decide +kernel, by decide +kernel, by decide +kernel⟩
set_option maxHeartbeats 4000000 in
set_option maxRecDepth 100000 in
theorem c_X8_addRose (l : Launch) (G : GG) (hF : gF G = true) (a0 : Nat) (ha0 : a0 < cnt 25) (a1 : Int32) (w : Mm) (w' : Mm) (h : f_X8_addRose a0 a1 w = some w') : Kv l G yX8_addRose cX8_addRose 2 none { frames := 0, cells := 0, slots := 0, locals := 0 } [.ref (adr (gB G) 25 a0), .int a1] w w' := by
  refine k_of (by decide +kernel) (Nat.le_of_ble_eq_true rfl) ?_
  intro p e s m args below meth c ls hx hb hml hr hown hlocks hts hin hP hE hl
  have hC : CX p s m args c meth G cX8_addRose 2 none RX8 := ⟨hx, hb, hml, hr, hown, hlocks, hts, hE⟩
  have hS : va_S (Ab G) s.heap s.heap [] := va_S.rf
  have hcs : 0 ≤ 0 ∧ 0 ≤ 0 := ⟨Nat.zero_le _, Nat.zero_le _⟩
  have hl : lv_has ls 2 [(0, .ref (adr (gB G) 25 a0)), (1, .int a1)] := hl
  unfold f_X8_addRose at h
  refine lv_aload_n hx hb dX8_addRose_0 rfl (lv_at hl 0 rfl) ?_
  refine k_get (ci := 6) (v := .int (gI w 25 a0 3)) hx hb hts hE inX8 hown hP (hp_sh hP hF a0 25 ha0) (by decide) rfl rfl 3 (by decide) w2_35 rfl rfl dX8_addRose_1 ?_
  refine lv_if_lt (tgt := 39) hx hb dX8_addRose_4 (by decide) (fun cc => ?_) (fun cc => ?_)
  · have h := br_el h cc
    exact e_v hx hb hr hlocks hP hS (Nat.le_of_ble_eq_true rfl) (Nat.le_of_ble_eq_true rfl) (so_el h) dX8_addRose_39
  · have h := br_er h cc
    refine lv_aload_n hx hb dX8_addRose_7 rfl (lv_at hl 0 rfl) ?_
    refine k_get (ci := 6) (v := .int (gI w 25 a0 3)) hx hb hts hE inX8 hown hP (hp_sh hP hF a0 25 ha0) (by decide) rfl rfl 3 (by decide) w2_35 rfl rfl dX8_addRose_8 ?_
    refine lv_aload_n hx hb dX8_addRose_11 rfl (lv_at hl 0 rfl) ?_
    refine k_get (ci := 6) (v := .ref (adr (gB G) 27 a0)) hx hb hts hE inX8 hown hP (hp_sh hP hF a0 25 ha0) (by decide) rfl rfl 1 (by decide) w2_30 rfl rfl dX8_addRose_12 ?_
    refine k_alen (v := 8) hx hb hE hP (hp_sh hP hF a0 27 ha0) (by decide) rfl 0 rfl rfl dX8_addRose_15 ?_
    refine lv_icmp_ge (tgt := 39) hx hb dX8_addRose_16 (by decide) (fun cc => ?_) (fun cc => ?_)
    · have h := br_el h cc
      exact e_v hx hb hr hlocks hP hS (Nat.le_of_ble_eq_true rfl) (Nat.le_of_ble_eq_true rfl) (so_el h) dX8_addRose_39
    · have h := br_er h cc
      refine lv_aload_n hx hb dX8_addRose_19 rfl (lv_at hl 0 rfl) ?_
      refine k_get (ci := 6) (v := .ref (adr (gB G) 27 a0)) hx hb hts hE inX8 hown hP (hp_sh hP hF a0 25 ha0) (by decide) rfl rfl 1 (by decide) w2_30 rfl rfl dX8_addRose_20 ?_
      refine lv_aload_n hx hb dX8_addRose_23 rfl (lv_at hl 0 rfl) ?_
      refine k_get (ci := 6) (v := .int (gI w 25 a0 3)) hx hb hts hE inX8 hown hP (hp_sh hP hF a0 25 ha0) (by decide) rfl rfl 3 (by decide) w2_35 rfl rfl dX8_addRose_24 ?_
      refine lv_iload_n hx hb dX8_addRose_27 rfl (lv_at hl 1 rfl) ?_
      obtain ⟨g1, h⟩ := gd_el h
      refine k_iast hx hb hE hP hS (hp_sh hP hF a0 27 ha0) (by decide) rfl rfl g1 dX8_addRose_28 (fun w2 H locs e hP hS => ?_)
      have h := sq_at h e
      refine lv_aload_n hx hb dX8_addRose_29 rfl (lv_at hl 0 rfl) ?_
      refine lv_dup hx hb dX8_addRose_30 rfl ?_
      refine k_get (ci := 6) (v := .int (gI w2 25 a0 3)) hx hb hts hE inX8 hown hP (hp_sh hP hF a0 25 ha0) (by decide) rfl rfl 3 (by decide) w2_35 rfl rfl dX8_addRose_31 ?_
      refine lv_iconst (v := 1) hx hb dX8_addRose_34 (by decide) ?_
      refine lv_iadd hx hb dX8_addRose_35 ?_
      refine k_put (ci := 6) (ty := .int) (v := .int ((gI w2 25 a0 3) + 1)) (w1 := pI w2 25 a0 3 ((gI w2 25 a0 3) + 1)) hx hb hts hE inX8 tyX8 tyX8_ok nmX8 hown hP hS (hp_sh hP hF a0 25 ha0) (by decide) rfl rfl 3 (by decide) w2_35 rfl rfl rfl rfl rfl (Nat.le_of_ble_eq_true rfl) loc_pI (wce_pI.trans rfl) dX8_addRose_36 (fun w3 H locs e hP hS => ?_)
      have h := sq_at h e
      exact e_v hx hb hr hlocks hP hS (Nat.le_of_ble_eq_true rfl) (Nat.le_of_ble_eq_true rfl) (so_el h) dX8_addRose_39

def f_X5_errorOfNumber (a1 : Int32) (a2 : Nat) (a3 : Nat) (w : Mm) : Option (Int32 × Mm) := br (a2 = 8) (br (a1 < 1) (some (5, w)) (br (a1 ≤ 9) (br (a2 = 8) (bd0 (f_X8_addHedge a3 a1 w) (fun w2 => some (0, w2))) (bd0 (f_X8_addRose a3 a1 w) (fun w1 => some (0, w1)))) (some (5, w)))) (br (a2 = 10) (br (a1 < 1) (some (5, w)) (br (a1 ≤ 9) (br (a2 = 8) (bd0 (f_X8_addHedge a3 a1 w) (fun w4 => some (0, w4))) (bd0 (f_X8_addRose a3 a1 w) (fun w3 => some (0, w3)))) (some (5, w)))) (some (0, w)))

theorem miX5_errorOfNumber : MI RX5 yX5_errorOfNumber cX5_errorOfNumber 4 (some .int) 3 := ⟨w3_107, (tb_sel 15 rfl rfl), w1_6, w3_108, rfl, by decide +kernel, by decide +kernel, by decide +kernel⟩
set_option maxHeartbeats 4000000 in
set_option maxRecDepth 100000 in
theorem c_X5_errorOfNumber (l : Launch) (G : GG) (hF : gF G = true) (a1 : Int32) (a2 : Nat) (a3 : Nat) (ha3 : a3 < cnt 25) (w : Mm) (r : Int32) (w' : Mm) (h : f_X5_errorOfNumber a1 a2 a3 w = some (r, w')) : Ki l G yX5_errorOfNumber cX5_errorOfNumber 4 (some .int) { frames := 1, cells := 0, slots := 0, locals := 21 } [.ref (adr (gB G) 9 0), .int a1, kR G a2, .ref (adr (gB G) 25 a3)] w r w' := by
  refine k_of (by decide +kernel) (by simp [lg_sl, cat_kR, cat_ref, cat_int, cat_long]) ?_
  intro p e s m args below meth c ls hx hb hml hr hown hlocks hts hin hP hE hl
  have hC : CX p s m args c meth G cX5_errorOfNumber 4 (some .int) RX5 := ⟨hx, hb, hml, hr, hown, hlocks, hts, hE⟩
  have hS : va_S (Ab G) s.heap s.heap [] := va_S.rf
  have hcs : 0 ≤ 0 ∧ 0 ≤ 0 := ⟨Nat.zero_le _, Nat.zero_le _⟩
  have hl : lv_has ls 4 [(0, .ref (adr (gB G) 9 0)), (1, .int a1), (2, kR G a2), (3, .ref (adr (gB G) 25 a3))] := by simpa [lv_args, cat_kR, cat_ref, cat_int, cat_long] using hl
  unfold f_X5_errorOfNumber at h
  refine k_aload_n hx hb dX5_errorOfNumber_0 rfl (lv_at hl 2 rfl) ?_
  refine k_kind (i := 7) (nm := "HUSH") hx hb hE hS hown rfl (by decide) (hts _ w3_109) dX5_errorOfNumber_1 ?_
  refine k_acmp_eq (x := a2) (y := 8) (tgt := 16) hx hb hE dX5_errorOfNumber_4 (by decide) (fun cc => ?_) (fun cc => ?_)
  · have h := br_el h cc
    refine lv_iload_n hx hb dX5_errorOfNumber_16 rfl (lv_at hl 1 rfl) ?_
    refine lv_iconst (v := 1) hx hb dX5_errorOfNumber_17 (by decide) ?_
    refine lv_icmp_lt (tgt := 27) hx hb dX5_errorOfNumber_18 (by decide) (fun cc => ?_) (fun cc => ?_)
    · have h := br_el h cc
      refine lv_iconst (v := 5) hx hb dX5_errorOfNumber_27 (by decide) ?_
      exact e_i hx hb hr rfl hlocks hP hS (Nat.le_of_ble_eq_true rfl) (Nat.le_of_ble_eq_true rfl) (Prod.mk.inj (so_el h)) dX5_errorOfNumber_28
    · have h := br_er h cc
      refine lv_iload_n hx hb dX5_errorOfNumber_21 rfl (lv_at hl 1 rfl) ?_
      refine lv_bipush (v := 9) hx hb dX5_errorOfNumber_22 (by decide) ?_
      refine lv_icmp_le (tgt := 29) hx hb dX5_errorOfNumber_24 (by decide) (fun cc => ?_) (fun cc => ?_)
      · have h := br_el h cc
        refine k_aload_n hx hb dX5_errorOfNumber_29 rfl (lv_at hl 2 rfl) ?_
        refine k_kind (i := 7) (nm := "HUSH") hx hb hE hS hown rfl (by decide) (hts _ w3_109) dX5_errorOfNumber_30 ?_
        refine k_acmp_ne (x := a2) (y := 8) (tgt := 44) hx hb hE dX5_errorOfNumber_33 (by decide) (fun cc => ?_) (fun cc => ?_)
        · have h := br_er h cc
          refine lv_aload_n hx hb dX5_errorOfNumber_44 rfl (lv_at hl 3 rfl) ?_
          refine lv_iload_n hx hb dX5_errorOfNumber_45 rfl (lv_at hl 1 rfl) ?_
          obtain ⟨w1, hf, h⟩ := bd0_el h
          refine c_onv (c_runV (b := adr (gB G) 25 a3) (As := [.int a1]) (rest := []) hx hb hml hown hts hE hP hS (c_X8_addRose l G hF a3 ha3 a1 w w1 hf) (c_rec hE hP (hp_sh hP hF a3 25 ha3) (by decide) rfl rfl) w3_115 miX8_addRose ⟨Nat.le_of_ble_eq_true rfl, Nat.le_of_ble_eq_true rfl⟩ rfl hl.1 rfl (Nat.le_of_ble_eq_true rfl) dX5_errorOfNumber_46 hcs) hS (fun H locs hP hS => ?_)
          refine lv_iconst (v := 0) hx hb dX5_errorOfNumber_49 (by decide) ?_
          exact e_i hx hb hr rfl hlocks hP hS (Nat.le_of_ble_eq_true rfl) (Nat.le_of_ble_eq_true rfl) (Prod.mk.inj (so_el h)) dX5_errorOfNumber_50
        · have h := br_el h cc
          refine lv_aload_n hx hb dX5_errorOfNumber_36 rfl (lv_at hl 3 rfl) ?_
          refine lv_iload_n hx hb dX5_errorOfNumber_37 rfl (lv_at hl 1 rfl) ?_
          obtain ⟨w2, hf, h⟩ := bd0_el h
          refine c_onv (c_runV (b := adr (gB G) 25 a3) (As := [.int a1]) (rest := []) hx hb hml hown hts hE hP hS (c_X8_addHedge l G hF a3 ha3 a1 w w2 hf) (c_rec hE hP (hp_sh hP hF a3 25 ha3) (by decide) rfl rfl) w3_111 miX8_addHedge ⟨Nat.le_of_ble_eq_true rfl, Nat.le_of_ble_eq_true rfl⟩ rfl hl.1 rfl (Nat.le_of_ble_eq_true rfl) dX5_errorOfNumber_38 hcs) hS (fun H locs hP hS => ?_)
          refine lv_goto (tgt := 49) hx hb dX5_errorOfNumber_41 (by decide) ?_
          refine lv_iconst (v := 0) hx hb dX5_errorOfNumber_49 (by decide) ?_
          exact e_i hx hb hr rfl hlocks hP hS (Nat.le_of_ble_eq_true rfl) (Nat.le_of_ble_eq_true rfl) (Prod.mk.inj (so_el h)) dX5_errorOfNumber_50
      · have h := br_er h cc
        refine lv_iconst (v := 5) hx hb dX5_errorOfNumber_27 (by decide) ?_
        exact e_i hx hb hr rfl hlocks hP hS (Nat.le_of_ble_eq_true rfl) (Nat.le_of_ble_eq_true rfl) (Prod.mk.inj (so_el h)) dX5_errorOfNumber_28
  · have h := br_er h cc
    refine k_aload_n hx hb dX5_errorOfNumber_7 rfl (lv_at hl 2 rfl) ?_
    refine k_kind (i := 9) (nm := "PATIENCE") hx hb hE hS hown rfl (by decide) (hts _ w3_110) dX5_errorOfNumber_8 ?_
    refine k_acmp_eq (x := a2) (y := 10) (tgt := 16) hx hb hE dX5_errorOfNumber_11 (by decide) (fun cc => ?_) (fun cc => ?_)
    · have h := br_el h cc
      refine lv_iload_n hx hb dX5_errorOfNumber_16 rfl (lv_at hl 1 rfl) ?_
      refine lv_iconst (v := 1) hx hb dX5_errorOfNumber_17 (by decide) ?_
      refine lv_icmp_lt (tgt := 27) hx hb dX5_errorOfNumber_18 (by decide) (fun cc => ?_) (fun cc => ?_)
      · have h := br_el h cc
        refine lv_iconst (v := 5) hx hb dX5_errorOfNumber_27 (by decide) ?_
        exact e_i hx hb hr rfl hlocks hP hS (Nat.le_of_ble_eq_true rfl) (Nat.le_of_ble_eq_true rfl) (Prod.mk.inj (so_el h)) dX5_errorOfNumber_28
      · have h := br_er h cc
        refine lv_iload_n hx hb dX5_errorOfNumber_21 rfl (lv_at hl 1 rfl) ?_
        refine lv_bipush (v := 9) hx hb dX5_errorOfNumber_22 (by decide) ?_
        refine lv_icmp_le (tgt := 29) hx hb dX5_errorOfNumber_24 (by decide) (fun cc => ?_) (fun cc => ?_)
        · have h := br_el h cc
          refine k_aload_n hx hb dX5_errorOfNumber_29 rfl (lv_at hl 2 rfl) ?_
          refine k_kind (i := 7) (nm := "HUSH") hx hb hE hS hown rfl (by decide) (hts _ w3_109) dX5_errorOfNumber_30 ?_
          refine k_acmp_ne (x := a2) (y := 8) (tgt := 44) hx hb hE dX5_errorOfNumber_33 (by decide) (fun cc => ?_) (fun cc => ?_)
          · have h := br_er h cc
            refine lv_aload_n hx hb dX5_errorOfNumber_44 rfl (lv_at hl 3 rfl) ?_
            refine lv_iload_n hx hb dX5_errorOfNumber_45 rfl (lv_at hl 1 rfl) ?_
            obtain ⟨w3, hf, h⟩ := bd0_el h
            refine c_onv (c_runV (b := adr (gB G) 25 a3) (As := [.int a1]) (rest := []) hx hb hml hown hts hE hP hS (c_X8_addRose l G hF a3 ha3 a1 w w3 hf) (c_rec hE hP (hp_sh hP hF a3 25 ha3) (by decide) rfl rfl) w3_115 miX8_addRose ⟨Nat.le_of_ble_eq_true rfl, Nat.le_of_ble_eq_true rfl⟩ rfl hl.1 rfl (Nat.le_of_ble_eq_true rfl) dX5_errorOfNumber_46 hcs) hS (fun H locs hP hS => ?_)
            refine lv_iconst (v := 0) hx hb dX5_errorOfNumber_49 (by decide) ?_
            exact e_i hx hb hr rfl hlocks hP hS (Nat.le_of_ble_eq_true rfl) (Nat.le_of_ble_eq_true rfl) (Prod.mk.inj (so_el h)) dX5_errorOfNumber_50
          · have h := br_el h cc
            refine lv_aload_n hx hb dX5_errorOfNumber_36 rfl (lv_at hl 3 rfl) ?_
            refine lv_iload_n hx hb dX5_errorOfNumber_37 rfl (lv_at hl 1 rfl) ?_
            obtain ⟨w4, hf, h⟩ := bd0_el h
            refine c_onv (c_runV (b := adr (gB G) 25 a3) (As := [.int a1]) (rest := []) hx hb hml hown hts hE hP hS (c_X8_addHedge l G hF a3 ha3 a1 w w4 hf) (c_rec hE hP (hp_sh hP hF a3 25 ha3) (by decide) rfl rfl) w3_111 miX8_addHedge ⟨Nat.le_of_ble_eq_true rfl, Nat.le_of_ble_eq_true rfl⟩ rfl hl.1 rfl (Nat.le_of_ble_eq_true rfl) dX5_errorOfNumber_38 hcs) hS (fun H locs hP hS => ?_)
            refine lv_goto (tgt := 49) hx hb dX5_errorOfNumber_41 (by decide) ?_
            refine lv_iconst (v := 0) hx hb dX5_errorOfNumber_49 (by decide) ?_
            exact e_i hx hb hr rfl hlocks hP hS (Nat.le_of_ble_eq_true rfl) (Nat.le_of_ble_eq_true rfl) (Prod.mk.inj (so_el h)) dX5_errorOfNumber_50
        · have h := br_er h cc
          refine lv_iconst (v := 5) hx hb dX5_errorOfNumber_27 (by decide) ?_
          exact e_i hx hb hr rfl hlocks hP hS (Nat.le_of_ble_eq_true rfl) (Nat.le_of_ble_eq_true rfl) (Prod.mk.inj (so_el h)) dX5_errorOfNumber_28
    · have h := br_er h cc
      refine lv_iconst (v := 0) hx hb dX5_errorOfNumber_14 (by decide) ?_
      exact e_i hx hb hr rfl hlocks hP hS (Nat.le_of_ble_eq_true rfl) (Nat.le_of_ble_eq_true rfl) (Prod.mk.inj (so_el h)) dX5_errorOfNumber_15

def f_X11_has (a1 : Int32) (w : Mm) : Option (Int32 × Mm) := br (a1 < 0) (some (0, w)) (br ((gI w 4 0 4) < a1) (some (0, w)) (br (400 < a1) (some (0, w)) (some (1, w))))

theorem miX11_has : MI RX11 yX11_has cX11_has 2 (some .boolean) 1 := ⟨w3_76, (tb_sel 13 rfl rfl), w1_3, w3_77, rfl, by decide +kernel, by decide +kernel, by decide +kernel⟩
set_option maxHeartbeats 4000000 in
set_option maxRecDepth 100000 in
theorem c_X11_has (l : Launch) (G : GG) (hF : gF G = true) (a1 : Int32) (w : Mm) (r : Int32) (w' : Mm) (h : f_X11_has a1 w = some (r, w')) : Ki l G yX11_has cX11_has 2 (some .boolean) { frames := 0, cells := 0, slots := 0, locals := 0 } [.ref (adr (gB G) 4 0), .int a1] w r w' := by
  refine k_of (by decide +kernel) (Nat.le_of_ble_eq_true rfl) ?_
  intro p e s m args below meth c ls hx hb hml hr hown hlocks hts hin hP hE hl
  have hC : CX p s m args c meth G cX11_has 2 (some .boolean) RX11 := ⟨hx, hb, hml, hr, hown, hlocks, hts, hE⟩
  have hS : va_S (Ab G) s.heap s.heap [] := va_S.rf
  have hcs : 0 ≤ 0 ∧ 0 ≤ 0 := ⟨Nat.zero_le _, Nat.zero_le _⟩
  have hl : lv_has ls 2 [(0, .ref (adr (gB G) 4 0)), (1, .int a1)] := hl
  unfold f_X11_has at h
  refine lv_iload_n hx hb dX11_has_0 rfl (lv_at hl 1 rfl) ?_
  refine lv_if_lt (tgt := 23) hx hb dX11_has_1 (by decide) (fun cc => ?_) (fun cc => ?_)
  · have h := br_el h cc
    refine lv_iconst (v := 0) hx hb dX11_has_23 (by decide) ?_
    exact e_i hx hb hr rfl hlocks hP hS (Nat.le_of_ble_eq_true rfl) (Nat.le_of_ble_eq_true rfl) (Prod.mk.inj (so_el h)) dX11_has_24
  · have h := br_er h cc
    refine lv_iload_n hx hb dX11_has_4 rfl (lv_at hl 1 rfl) ?_
    refine lv_aload_n hx hb dX11_has_5 rfl (lv_at hl 0 rfl) ?_
    refine k_get (ci := 9) (v := .int (gI w 4 0 4)) hx hb hts hE inX11 hown hP (hp_sh hP hF 0 4 (by decide)) (by decide) rfl rfl 4 (by decide) w1_70 rfl rfl dX11_has_6 ?_
    refine lv_icmp_gt (tgt := 23) hx hb dX11_has_9 (by decide) (fun cc => ?_) (fun cc => ?_)
    · have h := br_el h cc
      refine lv_iconst (v := 0) hx hb dX11_has_23 (by decide) ?_
      exact e_i hx hb hr rfl hlocks hP hS (Nat.le_of_ble_eq_true rfl) (Nat.le_of_ble_eq_true rfl) (Prod.mk.inj (so_el h)) dX11_has_24
    · have h := br_er h cc
      refine lv_iload_n hx hb dX11_has_12 rfl (lv_at hl 1 rfl) ?_
      refine lv_sipush (v := 400) hx hb dX11_has_13 (by decide) ?_
      refine lv_icmp_gt (tgt := 23) hx hb dX11_has_16 (by decide) (fun cc => ?_) (fun cc => ?_)
      · have h := br_el h cc
        refine lv_iconst (v := 0) hx hb dX11_has_23 (by decide) ?_
        exact e_i hx hb hr rfl hlocks hP hS (Nat.le_of_ble_eq_true rfl) (Nat.le_of_ble_eq_true rfl) (Prod.mk.inj (so_el h)) dX11_has_24
      · have h := br_er h cc
        refine lv_iconst (v := 1) hx hb dX11_has_19 (by decide) ?_
        refine lv_goto (tgt := 24) hx hb dX11_has_20 (by decide) ?_
        exact e_i hx hb hr rfl hlocks hP hS (Nat.le_of_ble_eq_true rfl) (Nat.le_of_ble_eq_true rfl) (Prod.mk.inj (so_el h)) dX11_has_24

def f_X11_key (a1 : Int32) (w : Mm) : Option (Int64 × Mm) := bd1 (f_X11_has a1 w) (fun r1 w2 => br (r1 = 0) (some (0, w2)) (gd (vB a1 401) (some (gL w2 7 0 a1.toNatClampNeg, w2))))

theorem miX11_key : MI RX11 yX11_key cX11_key 2 (some .long) 1 := ⟨w3_125, w3_126, w1_3, w3_127, rfl, by decide +kernel, by decide +kernel, by decide +kernel⟩
set_option maxHeartbeats 4000000 in
set_option maxRecDepth 100000 in
theorem c_X11_key (l : Launch) (G : GG) (hF : gF G = true) (a1 : Int32) (w : Mm) (r : Int64) (w' : Mm) (h : f_X11_key a1 w = some (r, w')) : Kl l G yX11_key cX11_key 2 (some .long) { frames := 1, cells := 0, slots := 0, locals := 21 } [.ref (adr (gB G) 4 0), .int a1] w r w' := by
  refine k_of (by decide +kernel) (Nat.le_of_ble_eq_true rfl) ?_
  intro p e s m args below meth c ls hx hb hml hr hown hlocks hts hin hP hE hl
  have hC : CX p s m args c meth G cX11_key 2 (some .long) RX11 := ⟨hx, hb, hml, hr, hown, hlocks, hts, hE⟩
  have hS : va_S (Ab G) s.heap s.heap [] := va_S.rf
  have hcs : 0 ≤ 0 ∧ 0 ≤ 0 := ⟨Nat.zero_le _, Nat.zero_le _⟩
  have hl : lv_has ls 2 [(0, .ref (adr (gB G) 4 0)), (1, .int a1)] := hl
  unfold f_X11_key at h
  refine lv_aload_n hx hb dX11_key_0 rfl (lv_at hl 0 rfl) ?_
  refine lv_iload_n hx hb dX11_key_1 rfl (lv_at hl 1 rfl) ?_
  obtain ⟨r1, w2, hf, h⟩ := bd1_el h
  refine c_oni (c_runV (b := adr (gB G) 4 0) (As := [.int a1]) (rest := []) hx hb hml hown hts hE hP hS (c_X11_has l G hF a1 w r1 w2 hf) (c_rec hE hP (hp_sh hP hF 0 4 (by decide)) (by decide) rfl rfl) w3_74 miX11_has ⟨Nat.le_of_ble_eq_true rfl, Nat.le_of_ble_eq_true rfl⟩ rfl hl.1 rfl (Nat.le_of_ble_eq_true rfl) dX11_key_2 hcs) hS (fun H locs hP hS => ?_)
  refine lv_if_eq (tgt := 17) hx hb dX11_key_5 (by decide) (fun cc => ?_) (fun cc => ?_)
  · have h := br_el h cc
    refine lv_lconst (v := 0) hx hb dX11_key_17 (by decide) ?_
    exact e_l hx hb hr hlocks hP hS (Nat.le_of_ble_eq_true rfl) (Nat.le_of_ble_eq_true rfl) (Prod.mk.inj (so_el h)) dX11_key_18
  · have h := br_er h cc
    refine lv_aload_n hx hb dX11_key_8 rfl (lv_at hl 0 rfl) ?_
    refine k_get (ci := 9) (v := .ref (adr (gB G) 7 0)) hx hb hts hE inX11 hown hP (hp_sh hP hF 0 4 (by decide)) (by decide) rfl rfl 2 (by decide) w1_68 rfl rfl dX11_key_9 ?_
    refine lv_iload_n hx hb dX11_key_12 rfl (lv_at hl 1 rfl) ?_
    obtain ⟨g3, h⟩ := gd_el h
    refine k_lald hx hb hE hP (hp_sh hP hF 0 7 (by decide)) (by decide) rfl g3 dX11_key_13 ?_
    refine lv_goto (tgt := 18) hx hb dX11_key_14 (by decide) ?_
    exact e_l hx hb hr hlocks hP hS (Nat.le_of_ble_eq_true rfl) (Nat.le_of_ble_eq_true rfl) (Prod.mk.inj (so_el h)) dX11_key_18

def f_X11_kind (a1 : Int32) (w : Mm) : Option (Nat × Mm) := bd1 (f_X11_has a1 w) (fun r1 w2 => br (r1 = 0) (some (1, w2)) (gd (vB a1 401) (some (gR w2 5 0 a1.toNatClampNeg, w2))))

theorem miX11_kind : MI RX11 yX11_kind cX11_kind 2 (some (.object "HedgeNews$Kind")) 1 := ⟨w3_83, w3_84, w1_3, w3_85, rfl, by decide +kernel, by decide +kernel, by decide +kernel⟩
set_option maxHeartbeats 4000000 in
set_option maxRecDepth 100000 in
theorem c_X11_kind (l : Launch) (G : GG) (hF : gF G = true) (a1 : Int32) (w : Mm) (r : Nat) (w' : Mm) (h : f_X11_kind a1 w = some (r, w')) : Kq l G yX11_kind cX11_kind 2 (some (.object "HedgeNews$Kind")) { frames := 1, cells := 0, slots := 0, locals := 21 } [.ref (adr (gB G) 4 0), .int a1] w (kO G r) w' := by
  refine k_of (by decide +kernel) (Nat.le_of_ble_eq_true rfl) ?_
  intro p e s m args below meth c ls hx hb hml hr hown hlocks hts hin hP hE hl
  have hC : CX p s m args c meth G cX11_kind 2 (some (.object "HedgeNews$Kind")) RX11 := ⟨hx, hb, hml, hr, hown, hlocks, hts, hE⟩
  have hS : va_S (Ab G) s.heap s.heap [] := va_S.rf
  have hcs : 0 ≤ 0 ∧ 0 ≤ 0 := ⟨Nat.zero_le _, Nat.zero_le _⟩
  have hl : lv_has ls 2 [(0, .ref (adr (gB G) 4 0)), (1, .int a1)] := hl
  unfold f_X11_kind at h
  refine lv_aload_n hx hb dX11_kind_0 rfl (lv_at hl 0 rfl) ?_
  refine lv_iload_n hx hb dX11_kind_1 rfl (lv_at hl 1 rfl) ?_
  obtain ⟨r1, w2, hf, h⟩ := bd1_el h
  refine c_oni (c_runV (b := adr (gB G) 4 0) (As := [.int a1]) (rest := []) hx hb hml hown hts hE hP hS (c_X11_has l G hF a1 w r1 w2 hf) (c_rec hE hP (hp_sh hP hF 0 4 (by decide)) (by decide) rfl rfl) w3_74 miX11_has ⟨Nat.le_of_ble_eq_true rfl, Nat.le_of_ble_eq_true rfl⟩ rfl hl.1 rfl (Nat.le_of_ble_eq_true rfl) dX11_kind_2 hcs) hS (fun H locs hP hS => ?_)
  refine lv_if_eq (tgt := 17) hx hb dX11_kind_5 (by decide) (fun cc => ?_) (fun cc => ?_)
  · have h := br_el h cc
    refine k_kind (i := 0) (nm := "END") hx hb hE hS hown rfl (by decide) (hts _ w1_63) dX11_kind_17 ?_
    exact e_q (v := kO G 1) hx hb hr (Or.inl ⟨_, rfl⟩) hlocks hP hS (Nat.le_of_ble_eq_true rfl) (Nat.le_of_ble_eq_true rfl) ((Prod.mk.inj (so_el h)).imp (congrArg (kO G)) id) dX11_kind_20
  · have h := br_er h cc
    refine lv_aload_n hx hb dX11_kind_8 rfl (lv_at hl 0 rfl) ?_
    refine k_get (ci := 9) (v := .ref (adr (gB G) 5 0)) hx hb hts hE inX11 hown hP (hp_sh hP hF 0 4 (by decide)) (by decide) rfl rfl 0 (by decide) w1_65 rfl rfl dX11_kind_9 ?_
    refine lv_iload_n hx hb dX11_kind_12 rfl (lv_at hl 1 rfl) ?_
    obtain ⟨g3, h⟩ := gd_el h
    refine k_aald (t0 := 6) hx hb hE hP (hp_sh hP hF 0 5 (by decide)) (by decide) rfl rfl g3 dX11_kind_13 ?_
    refine lv_goto (tgt := 20) hx hb dX11_kind_14 (by decide) ?_
    exact e_q (v := kO G (gR w2 5 0 a1.toNatClampNeg)) hx hb hr (Or.inl ⟨_, rfl⟩) hlocks hP hS (Nat.le_of_ble_eq_true rfl) (Nat.le_of_ble_eq_true rfl) ((Prod.mk.inj (so_el h)).imp (congrArg (kO G)) id) dX11_kind_20

def f_X11_mean (a1 : Int32) (a2 : Int32) (w : Mm) : Option (Mm) := bd1 (f_X11_has a1 w) (fun r1 w2 => br (r1 = 0) (some w2) (gd (vB a1 401) (sq (pI w2 8 0 a1.toNatClampNeg a2) (fun w4 => some w4))))

theorem miX11_mean : MI RX11 yX11_mean cX11_mean 3 none 2 := ⟨w3_147, w3_148, w1_3, w3_149, rfl, by decide +kernel, by decide +kernel, by decide +kernel⟩
set_option maxHeartbeats 4000000 in
set_option maxRecDepth 100000 in
theorem c_X11_mean (l : Launch) (G : GG) (hF : gF G = true) (a1 : Int32) (a2 : Int32) (w : Mm) (w' : Mm) (h : f_X11_mean a1 a2 w = some w') : Kv l G yX11_mean cX11_mean 3 none { frames := 1, cells := 0, slots := 0, locals := 21 } [.ref (adr (gB G) 4 0), .int a1, .int a2] w w' := by
  refine k_of (by decide +kernel) (Nat.le_of_ble_eq_true rfl) ?_
  intro p e s m args below meth c ls hx hb hml hr hown hlocks hts hin hP hE hl
  have hC : CX p s m args c meth G cX11_mean 3 none RX11 := ⟨hx, hb, hml, hr, hown, hlocks, hts, hE⟩
  have hS : va_S (Ab G) s.heap s.heap [] := va_S.rf
  have hcs : 0 ≤ 0 ∧ 0 ≤ 0 := ⟨Nat.zero_le _, Nat.zero_le _⟩
  have hl : lv_has ls 3 [(0, .ref (adr (gB G) 4 0)), (1, .int a1), (2, .int a2)] := hl
  unfold f_X11_mean at h
  refine lv_aload_n hx hb dX11_mean_0 rfl (lv_at hl 0 rfl) ?_
  refine lv_iload_n hx hb dX11_mean_1 rfl (lv_at hl 1 rfl) ?_
  obtain ⟨r1, w2, hf, h⟩ := bd1_el h
  refine c_oni (c_runV (b := adr (gB G) 4 0) (As := [.int a1]) (rest := []) hx hb hml hown hts hE hP hS (c_X11_has l G hF a1 w r1 w2 hf) (c_rec hE hP (hp_sh hP hF 0 4 (by decide)) (by decide) rfl rfl) w3_74 miX11_has ⟨Nat.le_of_ble_eq_true rfl, Nat.le_of_ble_eq_true rfl⟩ rfl hl.1 rfl (Nat.le_of_ble_eq_true rfl) dX11_mean_2 hcs) hS (fun H locs hP hS => ?_)
  refine lv_if_eq (tgt := 15) hx hb dX11_mean_5 (by decide) (fun cc => ?_) (fun cc => ?_)
  · have h := br_el h cc
    exact e_v hx hb hr hlocks hP hS (Nat.le_of_ble_eq_true rfl) (Nat.le_of_ble_eq_true rfl) (so_el h) dX11_mean_15
  · have h := br_er h cc
    refine lv_aload_n hx hb dX11_mean_8 rfl (lv_at hl 0 rfl) ?_
    refine k_get (ci := 9) (v := .ref (adr (gB G) 8 0)) hx hb hts hE inX11 hown hP (hp_sh hP hF 0 4 (by decide)) (by decide) rfl rfl 3 (by decide) w1_69 rfl rfl dX11_mean_9 ?_
    refine lv_iload_n hx hb dX11_mean_12 rfl (lv_at hl 1 rfl) ?_
    refine lv_iload_n hx hb dX11_mean_13 rfl (lv_at hl 2 rfl) ?_
    obtain ⟨g3, h⟩ := gd_el h
    refine k_iast hx hb hE hP hS (hp_sh hP hF 0 8 (by decide)) (by decide) rfl rfl g3 dX11_mean_14 (fun w4 H locs e hP hS => ?_)
    have h := sq_at h e
    exact e_v hx hb hr hlocks hP hS (Nat.le_of_ble_eq_true rfl) (Nat.le_of_ble_eq_true rfl) (so_el h) dX11_mean_15

def f_X5_errorOfOldName (a2 : Int32) (a3 : Nat) (w : Mm) : Option (Int32 × Mm) := bd1 (f_X11_key a2 w) (fun r1 w2 => bd1 (f_X5_listenerNamed r1 a3 w2) (fun r3 w4 => bd1 (f_X11_kind (a2 - 1) w4) (fun r5 w6 => br (r5 = 11) (br (r5 = 23) (bd1 (f_X11_kind (a2 - 2) w6) (fun r11 w12 => br (r11 = 22) (br (r3 < 8) (br (r3 = (-1)) (some (3, w12)) (br ((1 : Int32) = 0) (br ((1 : Int32) = 0) (bd0 (f_X11_mean a2 r3 w12) (fun w18 => some (0, w18))) (some (3, w12))) (bd0 (f_X11_mean a2 r3 w12) (fun w17 => some (0, w17))))) (br (r3 = (-1)) (some (3, w12)) (br ((1 : Int32) = 0) (br ((1 : Int32) = 1) (bd0 (f_X11_mean a2 r3 w12) (fun w20 => some (0, w20))) (some (3, w12))) (bd0 (f_X11_mean a2 r3 w12) (fun w19 => some (0, w19)))))) (br (r3 < 8) (br (r3 = (-1)) (some (3, w12)) (br ((1 : Int32) = 0) (br ((0 : Int32) = 0) (bd0 (f_X11_mean a2 r3 w12) (fun w14 => some (0, w14))) (some (3, w12))) (bd0 (f_X11_mean a2 r3 w12) (fun w13 => some (0, w13))))) (br (r3 = (-1)) (some (3, w12)) (br ((1 : Int32) = 0) (br ((0 : Int32) = 1) (bd0 (f_X11_mean a2 r3 w12) (fun w16 => some (0, w16))) (some (3, w12))) (bd0 (f_X11_mean a2 r3 w12) (fun w15 => some (0, w15)))))))) (br (r3 < 8) (br (r3 = (-1)) (some (3, w6)) (br ((1 : Int32) = 0) (br ((0 : Int32) = 0) (bd0 (f_X11_mean a2 r3 w6) (fun w8 => some (0, w8))) (some (3, w6))) (bd0 (f_X11_mean a2 r3 w6) (fun w7 => some (0, w7))))) (br (r3 = (-1)) (some (3, w6)) (br ((1 : Int32) = 0) (br ((0 : Int32) = 1) (bd0 (f_X11_mean a2 r3 w6) (fun w10 => some (0, w10))) (some (3, w6))) (bd0 (f_X11_mean a2 r3 w6) (fun w9 => some (0, w9))))))) (br (r5 = 12) (br (r5 = 23) (bd1 (f_X11_kind (a2 - 2) w6) (fun r25 w26 => br (r25 = 22) (br (r3 < 8) (br (r3 = (-1)) (some (3, w26)) (br ((1 : Int32) = 0) (br ((1 : Int32) = 0) (bd0 (f_X11_mean a2 r3 w26) (fun w32 => some (0, w32))) (some (3, w26))) (bd0 (f_X11_mean a2 r3 w26) (fun w31 => some (0, w31))))) (br (r3 = (-1)) (some (3, w26)) (br ((1 : Int32) = 0) (br ((1 : Int32) = 1) (bd0 (f_X11_mean a2 r3 w26) (fun w34 => some (0, w34))) (some (3, w26))) (bd0 (f_X11_mean a2 r3 w26) (fun w33 => some (0, w33)))))) (br (r3 < 8) (br (r3 = (-1)) (some (3, w26)) (br ((1 : Int32) = 0) (br ((0 : Int32) = 0) (bd0 (f_X11_mean a2 r3 w26) (fun w28 => some (0, w28))) (some (3, w26))) (bd0 (f_X11_mean a2 r3 w26) (fun w27 => some (0, w27))))) (br (r3 = (-1)) (some (3, w26)) (br ((1 : Int32) = 0) (br ((0 : Int32) = 1) (bd0 (f_X11_mean a2 r3 w26) (fun w30 => some (0, w30))) (some (3, w26))) (bd0 (f_X11_mean a2 r3 w26) (fun w29 => some (0, w29)))))))) (br (r3 < 8) (br (r3 = (-1)) (some (3, w6)) (br ((1 : Int32) = 0) (br ((0 : Int32) = 0) (bd0 (f_X11_mean a2 r3 w6) (fun w22 => some (0, w22))) (some (3, w6))) (bd0 (f_X11_mean a2 r3 w6) (fun w21 => some (0, w21))))) (br (r3 = (-1)) (some (3, w6)) (br ((1 : Int32) = 0) (br ((0 : Int32) = 1) (bd0 (f_X11_mean a2 r3 w6) (fun w24 => some (0, w24))) (some (3, w6))) (bd0 (f_X11_mean a2 r3 w6) (fun w23 => some (0, w23))))))) (br (r5 = 24) (br (r5 = 23) (bd1 (f_X11_kind (a2 - 2) w6) (fun r53 w54 => br (r53 = 22) (br (r3 < 8) (br (r3 = (-1)) (some (3, w54)) (br ((1 : Int32) = 0) (br ((1 : Int32) = 0) (bd0 (f_X11_mean a2 r3 w54) (fun w60 => some (0, w60))) (some (3, w54))) (bd0 (f_X11_mean a2 r3 w54) (fun w59 => some (0, w59))))) (br (r3 = (-1)) (some (3, w54)) (br ((1 : Int32) = 0) (br ((1 : Int32) = 1) (bd0 (f_X11_mean a2 r3 w54) (fun w62 => some (0, w62))) (some (3, w54))) (bd0 (f_X11_mean a2 r3 w54) (fun w61 => some (0, w61)))))) (br (r3 < 8) (br (r3 = (-1)) (some (3, w54)) (br ((1 : Int32) = 0) (br ((0 : Int32) = 0) (bd0 (f_X11_mean a2 r3 w54) (fun w56 => some (0, w56))) (some (3, w54))) (bd0 (f_X11_mean a2 r3 w54) (fun w55 => some (0, w55))))) (br (r3 = (-1)) (some (3, w54)) (br ((1 : Int32) = 0) (br ((0 : Int32) = 1) (bd0 (f_X11_mean a2 r3 w54) (fun w58 => some (0, w58))) (some (3, w54))) (bd0 (f_X11_mean a2 r3 w54) (fun w57 => some (0, w57)))))))) (br (r3 < 8) (br (r3 = (-1)) (some (3, w6)) (br ((1 : Int32) = 0) (br ((0 : Int32) = 0) (bd0 (f_X11_mean a2 r3 w6) (fun w50 => some (0, w50))) (some (3, w6))) (bd0 (f_X11_mean a2 r3 w6) (fun w49 => some (0, w49))))) (br (r3 = (-1)) (some (3, w6)) (br ((1 : Int32) = 0) (br ((0 : Int32) = 1) (bd0 (f_X11_mean a2 r3 w6) (fun w52 => some (0, w52))) (some (3, w6))) (bd0 (f_X11_mean a2 r3 w6) (fun w51 => some (0, w51))))))) (br (r5 = 23) (bd1 (f_X11_kind (a2 - 2) w6) (fun r39 w40 => br (r39 = 22) (br (r3 < 8) (br (r3 = (-1)) (some (3, w40)) (br ((0 : Int32) = 0) (br ((1 : Int32) = 0) (bd0 (f_X11_mean a2 r3 w40) (fun w46 => some (0, w46))) (some (3, w40))) (bd0 (f_X11_mean a2 r3 w40) (fun w45 => some (0, w45))))) (br (r3 = (-1)) (some (3, w40)) (br ((0 : Int32) = 0) (br ((1 : Int32) = 1) (bd0 (f_X11_mean a2 r3 w40) (fun w48 => some (0, w48))) (some (3, w40))) (bd0 (f_X11_mean a2 r3 w40) (fun w47 => some (0, w47)))))) (br (r3 < 8) (br (r3 = (-1)) (some (3, w40)) (br ((0 : Int32) = 0) (br ((0 : Int32) = 0) (bd0 (f_X11_mean a2 r3 w40) (fun w42 => some (0, w42))) (some (3, w40))) (bd0 (f_X11_mean a2 r3 w40) (fun w41 => some (0, w41))))) (br (r3 = (-1)) (some (3, w40)) (br ((0 : Int32) = 0) (br ((0 : Int32) = 1) (bd0 (f_X11_mean a2 r3 w40) (fun w44 => some (0, w44))) (some (3, w40))) (bd0 (f_X11_mean a2 r3 w40) (fun w43 => some (0, w43)))))))) (br (r3 < 8) (br (r3 = (-1)) (some (3, w6)) (br ((0 : Int32) = 0) (br ((0 : Int32) = 0) (bd0 (f_X11_mean a2 r3 w6) (fun w36 => some (0, w36))) (some (3, w6))) (bd0 (f_X11_mean a2 r3 w6) (fun w35 => some (0, w35))))) (br (r3 = (-1)) (some (3, w6)) (br ((0 : Int32) = 0) (br ((0 : Int32) = 1) (bd0 (f_X11_mean a2 r3 w6) (fun w38 => some (0, w38))) (some (3, w6))) (bd0 (f_X11_mean a2 r3 w6) (fun w37 => some (0, w37))))))))))))

theorem miX5_errorOfOldName : MI RX5 yX5_errorOfOldName cX5_errorOfOldName 9 (some .int) 3 := ⟨w3_138, (tb_sel 18 rfl rfl), w1_6, w3_139, rfl, by decide +kernel, by decide +kernel, by decide +kernel⟩
set_option maxHeartbeats 4000000 in
set_option maxRecDepth 100000 in
theorem c_X5_errorOfOldName (l : Launch) (G : GG) (hF : gF G = true) (a2 : Int32) (a3 : Nat) (ha3 : a3 < cnt 25) (w : Mm) (r : Int32) (w' : Mm) (h : f_X5_errorOfOldName a2 a3 w = some (r, w')) : Ki l G yX5_errorOfOldName cX5_errorOfOldName 9 (some .int) { frames := 2, cells := 0, slots := 0, locals := 43 } [.ref (adr (gB G) 9 0), .ref (adr (gB G) 4 0), .int a2, .ref (adr (gB G) 25 a3)] w r w' := by
  refine k_of (by decide +kernel) (Nat.le_of_ble_eq_true rfl) ?_
  intro p e s m args below meth c ls hx hb hml hr hown hlocks hts hin hP hE hl
  have hC : CX p s m args c meth G cX5_errorOfOldName 9 (some .int) RX5 := ⟨hx, hb, hml, hr, hown, hlocks, hts, hE⟩
  have hS : va_S (Ab G) s.heap s.heap [] := va_S.rf
  have hcs : 0 ≤ 0 ∧ 0 ≤ 0 := ⟨Nat.zero_le _, Nat.zero_le _⟩
  have hl : lv_has ls 9 [(0, .ref (adr (gB G) 9 0)), (1, .ref (adr (gB G) 4 0)), (2, .int a2), (3, .ref (adr (gB G) 25 a3))] := hl
  unfold f_X5_errorOfOldName at h
  refine lv_aload_n hx hb dX5_errorOfOldName_0 rfl (lv_at hl 0 rfl) ?_
  refine lv_aload_n hx hb dX5_errorOfOldName_1 rfl (lv_at hl 1 rfl) ?_
  refine lv_iload_n hx hb dX5_errorOfOldName_2 rfl (lv_at hl 2 rfl) ?_
  obtain ⟨r1, w2, hf, h⟩ := bd1_el h
  refine c_onl (c_runV (b := adr (gB G) 4 0) (As := [.int a2]) (rest := [.ref (adr (gB G) 9 0)]) hx hb hml hown hts hE hP hS (c_X11_key l G hF a2 w r1 w2 hf) (c_rec hE hP (hp_sh hP hF 0 4 (by decide)) (by decide) rfl rfl) w3_124 miX11_key ⟨Nat.le_of_ble_eq_true rfl, Nat.le_of_ble_eq_true rfl⟩ rfl hl.1 rfl (Nat.le_of_ble_eq_true rfl) dX5_errorOfOldName_3 hcs) hS (fun H locs hP hS => ?_)
  refine lv_aload_n hx hb dX5_errorOfOldName_6 rfl (lv_at hl 3 rfl) ?_
  obtain ⟨r3, w4, hf, h⟩ := bd1_el h
  refine c_oni (c_runV (b := adr (gB G) 9 0) (As := [.long r1, .ref (adr (gB G) 25 a3)]) (rest := []) hx hb hml hown hts hE hP hS (c_X5_listenerNamed l G hF r1 a3 ha3 w2 r3 w4 hf) (c_rec hE hP (hp_sh hP hF 0 9 (by decide)) (by decide) rfl rfl) w3_132 miX5_listenerNamed ⟨Nat.le_of_ble_eq_true rfl, Nat.le_of_ble_eq_true rfl⟩ rfl hl.1 rfl (Nat.le_of_ble_eq_true rfl) dX5_errorOfOldName_7 hcs) hS (fun H locs hP hS => ?_)
  refine lv_istore (i := 4) (lv' := [(4, .int r3), (0, .ref (adr (gB G) 9 0)), (1, .ref (adr (gB G) 4 0)), (2, .int a2), (3, .ref (adr (gB G) 25 a3))]) hx hb dX5_errorOfOldName_10 hl (by decide) rfl (fun ls hl => ?_)
  refine lv_aload_n hx hb dX5_errorOfOldName_12 rfl (lv_at hl 2 rfl) ?_
  refine lv_iload_n hx hb dX5_errorOfOldName_13 rfl (lv_at hl 3 rfl) ?_
  refine lv_iconst (v := 1) hx hb dX5_errorOfOldName_14 (by decide) ?_
  refine lv_isub hx hb dX5_errorOfOldName_15 ?_
  obtain ⟨r5, w6, hf, h⟩ := bd1_el h
  refine c_onq (c_runV (b := adr (gB G) 4 0) (As := [.int (a2 - 1)]) (rest := []) hx hb hml hown hts hE hP hS (c_X11_kind l G hF (a2 - 1) w4 r5 w6 hf) (c_rec hE hP (hp_sh hP hF 0 4 (by decide)) (by decide) rfl rfl) w3_82 miX11_kind ⟨Nat.le_of_ble_eq_true rfl, Nat.le_of_ble_eq_true rfl⟩ rfl hl.1 rfl (Nat.le_of_ble_eq_true rfl) dX5_errorOfOldName_16 hcs) hS (fun H locs hP hS => ?_)
  refine k_astore (i := 5) (lv' := [(5, kR G r5), (4, .int r3), (0, .ref (adr (gB G) 9 0)), (1, .ref (adr (gB G) 4 0)), (2, .int a2), (3, .ref (adr (gB G) 25 a3))]) hx hb dX5_errorOfOldName_19 hl (by decide) (by simp [kR, cat_rf, cat_ref, cat_int, cat_long, cat_null]) (fun ls hl => ?_)
  refine k_aload hx hb dX5_errorOfOldName_21 (lv_at hl 0 rfl) ?_
  refine k_kind (i := 10) (nm := "LISTEN") hx hb hE hS hown rfl (by decide) (hts _ w3_140) dX5_errorOfOldName_23 ?_
  refine k_acmp_eq (x := r5) (y := 11) (tgt := 45) hx hb hE dX5_errorOfOldName_26 (by decide) (fun cc => ?_) (fun cc => ?_)
  · have h := br_el h cc
    refine lv_iconst (v := 1) hx hb dX5_errorOfOldName_45 (by decide) ?_
    refine lv_goto (tgt := 50) hx hb dX5_errorOfOldName_46 (by decide) ?_
    refine lv_istore (i := 6) (lv' := [(6, .int 1), (5, kR G r5), (4, .int r3), (0, .ref (adr (gB G) 9 0)), (1, .ref (adr (gB G) 4 0)), (2, .int a2), (3, .ref (adr (gB G) 25 a3))]) hx hb dX5_errorOfOldName_50 hl (by decide) (by simp [kR, cat_rf, cat_ref, cat_int, cat_long, cat_null]) (fun ls hl => ?_)
    refine k_aload hx hb dX5_errorOfOldName_52 (lv_at hl 1 rfl) ?_
    refine k_kind (i := 22) (nm := "OF") hx hb hE hS hown rfl (by decide) (hts _ w3_143) dX5_errorOfOldName_54 ?_
    refine k_acmp_ne (x := r5) (y := 23) (tgt := 77) hx hb hE dX5_errorOfOldName_57 (by decide) (fun cc => ?_) (fun cc => ?_)
    · have h := br_er h cc
      refine lv_iconst (v := 0) hx hb dX5_errorOfOldName_77 (by decide) ?_
      refine lv_istore (i := 7) (lv' := [(7, .int 0), (6, .int 1), (5, kR G r5), (4, .int r3), (0, .ref (adr (gB G) 9 0)), (1, .ref (adr (gB G) 4 0)), (2, .int a2), (3, .ref (adr (gB G) 25 a3))]) hx hb dX5_errorOfOldName_78 hl (by decide) (by simp [kR, cat_rf, cat_ref, cat_int, cat_long, cat_null]) (fun ls hl => ?_)
      refine lv_iload hx hb dX5_errorOfOldName_80 (lv_at hl 3 rfl) ?_
      refine lv_bipush (v := 8) hx hb dX5_errorOfOldName_82 (by decide) ?_
      refine lv_icmp_lt (tgt := 91) hx hb dX5_errorOfOldName_84 (by decide) (fun cc => ?_) (fun cc => ?_)
      · have h := br_el h cc
        refine lv_iconst (v := 0) hx hb dX5_errorOfOldName_91 (by decide) ?_
        refine lv_istore (i := 8) (lv' := [(8, .int 0), (7, .int 0), (6, .int 1), (5, kR G r5), (4, .int r3), (0, .ref (adr (gB G) 9 0)), (1, .ref (adr (gB G) 4 0)), (2, .int a2), (3, .ref (adr (gB G) 25 a3))]) hx hb dX5_errorOfOldName_92 hl (by decide) (by simp [kR, cat_rf, cat_ref, cat_int, cat_long, cat_null]) (fun ls hl => ?_)
        refine lv_iload hx hb dX5_errorOfOldName_94 (lv_at hl 4 rfl) ?_
        refine lv_iconst (v := (-1)) hx hb dX5_errorOfOldName_96 (by decide) ?_
        refine lv_icmp_eq (tgt := 112) hx hb dX5_errorOfOldName_97 (by decide) (fun cc => ?_) (fun cc => ?_)
        · have h := br_el h cc
          refine lv_iconst (v := 3) hx hb dX5_errorOfOldName_112 (by decide) ?_
          exact e_i hx hb hr rfl hlocks hP hS (Nat.le_of_ble_eq_true rfl) (Nat.le_of_ble_eq_true rfl) (Prod.mk.inj (so_el h)) dX5_errorOfOldName_113
        · have h := br_er h cc
          refine lv_iload hx hb dX5_errorOfOldName_100 (lv_at hl 2 rfl) ?_
          refine lv_if_ne (tgt := 114) hx hb dX5_errorOfOldName_102 (by decide) (fun cc => ?_) (fun cc => ?_)
          · have h := br_er h cc
            refine lv_aload_n hx hb dX5_errorOfOldName_114 rfl (lv_at hl 6 rfl) ?_
            refine lv_iload_n hx hb dX5_errorOfOldName_115 rfl (lv_at hl 7 rfl) ?_
            refine lv_iload hx hb dX5_errorOfOldName_116 (lv_at hl 4 rfl) ?_
            obtain ⟨w7, hf, h⟩ := bd0_el h
            refine c_onv (c_runV (b := adr (gB G) 4 0) (As := [.int a2, .int r3]) (rest := []) hx hb hml hown hts hE hP hS (c_X11_mean l G hF a2 r3 w6 w7 hf) (c_rec hE hP (hp_sh hP hF 0 4 (by decide)) (by decide) rfl rfl) w3_146 miX11_mean ⟨Nat.le_of_ble_eq_true rfl, Nat.le_of_ble_eq_true rfl⟩ rfl hl.1 rfl (Nat.le_of_ble_eq_true rfl) dX5_errorOfOldName_118 hcs) hS (fun H locs hP hS => ?_)
            refine lv_iconst (v := 0) hx hb dX5_errorOfOldName_121 (by decide) ?_
            exact e_i hx hb hr rfl hlocks hP hS (Nat.le_of_ble_eq_true rfl) (Nat.le_of_ble_eq_true rfl) (Prod.mk.inj (so_el h)) dX5_errorOfOldName_122
          · have h := br_el h cc
            refine lv_iload hx hb dX5_errorOfOldName_105 (lv_at hl 1 rfl) ?_
            refine lv_iload hx hb dX5_errorOfOldName_107 (lv_at hl 0 rfl) ?_
            refine lv_icmp_eq (tgt := 114) hx hb dX5_errorOfOldName_109 (by decide) (fun cc => ?_) (fun cc => ?_)
            · have h := br_el h cc
              refine lv_aload_n hx hb dX5_errorOfOldName_114 rfl (lv_at hl 6 rfl) ?_
              refine lv_iload_n hx hb dX5_errorOfOldName_115 rfl (lv_at hl 7 rfl) ?_
              refine lv_iload hx hb dX5_errorOfOldName_116 (lv_at hl 4 rfl) ?_
              obtain ⟨w8, hf, h⟩ := bd0_el h
              refine c_onv (c_runV (b := adr (gB G) 4 0) (As := [.int a2, .int r3]) (rest := []) hx hb hml hown hts hE hP hS (c_X11_mean l G hF a2 r3 w6 w8 hf) (c_rec hE hP (hp_sh hP hF 0 4 (by decide)) (by decide) rfl rfl) w3_146 miX11_mean ⟨Nat.le_of_ble_eq_true rfl, Nat.le_of_ble_eq_true rfl⟩ rfl hl.1 rfl (Nat.le_of_ble_eq_true rfl) dX5_errorOfOldName_118 hcs) hS (fun H locs hP hS => ?_)
              refine lv_iconst (v := 0) hx hb dX5_errorOfOldName_121 (by decide) ?_
              exact e_i hx hb hr rfl hlocks hP hS (Nat.le_of_ble_eq_true rfl) (Nat.le_of_ble_eq_true rfl) (Prod.mk.inj (so_el h)) dX5_errorOfOldName_122
            · have h := br_er h cc
              refine lv_iconst (v := 3) hx hb dX5_errorOfOldName_112 (by decide) ?_
              exact e_i hx hb hr rfl hlocks hP hS (Nat.le_of_ble_eq_true rfl) (Nat.le_of_ble_eq_true rfl) (Prod.mk.inj (so_el h)) dX5_errorOfOldName_113
      · have h := br_er h cc
        refine lv_iconst (v := 1) hx hb dX5_errorOfOldName_87 (by decide) ?_
        refine lv_goto (tgt := 92) hx hb dX5_errorOfOldName_88 (by decide) ?_
        refine lv_istore (i := 8) (lv' := [(8, .int 1), (7, .int 0), (6, .int 1), (5, kR G r5), (4, .int r3), (0, .ref (adr (gB G) 9 0)), (1, .ref (adr (gB G) 4 0)), (2, .int a2), (3, .ref (adr (gB G) 25 a3))]) hx hb dX5_errorOfOldName_92 hl (by decide) (by simp [kR, cat_rf, cat_ref, cat_int, cat_long, cat_null]) (fun ls hl => ?_)
        refine lv_iload hx hb dX5_errorOfOldName_94 (lv_at hl 4 rfl) ?_
        refine lv_iconst (v := (-1)) hx hb dX5_errorOfOldName_96 (by decide) ?_
        refine lv_icmp_eq (tgt := 112) hx hb dX5_errorOfOldName_97 (by decide) (fun cc => ?_) (fun cc => ?_)
        · have h := br_el h cc
          refine lv_iconst (v := 3) hx hb dX5_errorOfOldName_112 (by decide) ?_
          exact e_i hx hb hr rfl hlocks hP hS (Nat.le_of_ble_eq_true rfl) (Nat.le_of_ble_eq_true rfl) (Prod.mk.inj (so_el h)) dX5_errorOfOldName_113
        · have h := br_er h cc
          refine lv_iload hx hb dX5_errorOfOldName_100 (lv_at hl 2 rfl) ?_
          refine lv_if_ne (tgt := 114) hx hb dX5_errorOfOldName_102 (by decide) (fun cc => ?_) (fun cc => ?_)
          · have h := br_er h cc
            refine lv_aload_n hx hb dX5_errorOfOldName_114 rfl (lv_at hl 6 rfl) ?_
            refine lv_iload_n hx hb dX5_errorOfOldName_115 rfl (lv_at hl 7 rfl) ?_
            refine lv_iload hx hb dX5_errorOfOldName_116 (lv_at hl 4 rfl) ?_
            obtain ⟨w9, hf, h⟩ := bd0_el h
            refine c_onv (c_runV (b := adr (gB G) 4 0) (As := [.int a2, .int r3]) (rest := []) hx hb hml hown hts hE hP hS (c_X11_mean l G hF a2 r3 w6 w9 hf) (c_rec hE hP (hp_sh hP hF 0 4 (by decide)) (by decide) rfl rfl) w3_146 miX11_mean ⟨Nat.le_of_ble_eq_true rfl, Nat.le_of_ble_eq_true rfl⟩ rfl hl.1 rfl (Nat.le_of_ble_eq_true rfl) dX5_errorOfOldName_118 hcs) hS (fun H locs hP hS => ?_)
            refine lv_iconst (v := 0) hx hb dX5_errorOfOldName_121 (by decide) ?_
            exact e_i hx hb hr rfl hlocks hP hS (Nat.le_of_ble_eq_true rfl) (Nat.le_of_ble_eq_true rfl) (Prod.mk.inj (so_el h)) dX5_errorOfOldName_122
          · have h := br_el h cc
            refine lv_iload hx hb dX5_errorOfOldName_105 (lv_at hl 1 rfl) ?_
            refine lv_iload hx hb dX5_errorOfOldName_107 (lv_at hl 0 rfl) ?_
            refine lv_icmp_eq (tgt := 114) hx hb dX5_errorOfOldName_109 (by decide) (fun cc => ?_) (fun cc => ?_)
            · have h := br_el h cc
              refine lv_aload_n hx hb dX5_errorOfOldName_114 rfl (lv_at hl 6 rfl) ?_
              refine lv_iload_n hx hb dX5_errorOfOldName_115 rfl (lv_at hl 7 rfl) ?_
              refine lv_iload hx hb dX5_errorOfOldName_116 (lv_at hl 4 rfl) ?_
              obtain ⟨w10, hf, h⟩ := bd0_el h
              refine c_onv (c_runV (b := adr (gB G) 4 0) (As := [.int a2, .int r3]) (rest := []) hx hb hml hown hts hE hP hS (c_X11_mean l G hF a2 r3 w6 w10 hf) (c_rec hE hP (hp_sh hP hF 0 4 (by decide)) (by decide) rfl rfl) w3_146 miX11_mean ⟨Nat.le_of_ble_eq_true rfl, Nat.le_of_ble_eq_true rfl⟩ rfl hl.1 rfl (Nat.le_of_ble_eq_true rfl) dX5_errorOfOldName_118 hcs) hS (fun H locs hP hS => ?_)
              refine lv_iconst (v := 0) hx hb dX5_errorOfOldName_121 (by decide) ?_
              exact e_i hx hb hr rfl hlocks hP hS (Nat.le_of_ble_eq_true rfl) (Nat.le_of_ble_eq_true rfl) (Prod.mk.inj (so_el h)) dX5_errorOfOldName_122
            · have h := br_er h cc
              refine lv_iconst (v := 3) hx hb dX5_errorOfOldName_112 (by decide) ?_
              exact e_i hx hb hr rfl hlocks hP hS (Nat.le_of_ble_eq_true rfl) (Nat.le_of_ble_eq_true rfl) (Prod.mk.inj (so_el h)) dX5_errorOfOldName_113
    · have h := br_el h cc
      refine lv_aload_n hx hb dX5_errorOfOldName_60 rfl (lv_at hl 4 rfl) ?_
      refine lv_iload_n hx hb dX5_errorOfOldName_61 rfl (lv_at hl 5 rfl) ?_
      refine lv_iconst (v := 2) hx hb dX5_errorOfOldName_62 (by decide) ?_
      refine lv_isub hx hb dX5_errorOfOldName_63 ?_
      obtain ⟨r11, w12, hf, h⟩ := bd1_el h
      refine c_onq (c_runV (b := adr (gB G) 4 0) (As := [.int (a2 - 2)]) (rest := []) hx hb hml hown hts hE hP hS (c_X11_kind l G hF (a2 - 2) w6 r11 w12 hf) (c_rec hE hP (hp_sh hP hF 0 4 (by decide)) (by decide) rfl rfl) w3_82 miX11_kind ⟨Nat.le_of_ble_eq_true rfl, Nat.le_of_ble_eq_true rfl⟩ rfl hl.1 rfl (Nat.le_of_ble_eq_true rfl) dX5_errorOfOldName_64 hcs) hS (fun H locs hP hS => ?_)
      refine k_kind (i := 21) (nm := "PETALS") hx hb hE hS hown rfl (by decide) (hts _ w3_144) dX5_errorOfOldName_67 ?_
      refine k_acmp_ne (x := r11) (y := 22) (tgt := 77) hx hb hE dX5_errorOfOldName_70 (by decide) (fun cc => ?_) (fun cc => ?_)
      · have h := br_er h cc
        refine lv_iconst (v := 0) hx hb dX5_errorOfOldName_77 (by decide) ?_
        refine lv_istore (i := 7) (lv' := [(7, .int 0), (6, .int 1), (5, kR G r5), (4, .int r3), (0, .ref (adr (gB G) 9 0)), (1, .ref (adr (gB G) 4 0)), (2, .int a2), (3, .ref (adr (gB G) 25 a3))]) hx hb dX5_errorOfOldName_78 hl (by decide) (by simp [kR, cat_rf, cat_ref, cat_int, cat_long, cat_null]) (fun ls hl => ?_)
        refine lv_iload hx hb dX5_errorOfOldName_80 (lv_at hl 3 rfl) ?_
        refine lv_bipush (v := 8) hx hb dX5_errorOfOldName_82 (by decide) ?_
        refine lv_icmp_lt (tgt := 91) hx hb dX5_errorOfOldName_84 (by decide) (fun cc => ?_) (fun cc => ?_)
        · have h := br_el h cc
          refine lv_iconst (v := 0) hx hb dX5_errorOfOldName_91 (by decide) ?_
          refine lv_istore (i := 8) (lv' := [(8, .int 0), (7, .int 0), (6, .int 1), (5, kR G r5), (4, .int r3), (0, .ref (adr (gB G) 9 0)), (1, .ref (adr (gB G) 4 0)), (2, .int a2), (3, .ref (adr (gB G) 25 a3))]) hx hb dX5_errorOfOldName_92 hl (by decide) (by simp [kR, cat_rf, cat_ref, cat_int, cat_long, cat_null]) (fun ls hl => ?_)
          refine lv_iload hx hb dX5_errorOfOldName_94 (lv_at hl 4 rfl) ?_
          refine lv_iconst (v := (-1)) hx hb dX5_errorOfOldName_96 (by decide) ?_
          refine lv_icmp_eq (tgt := 112) hx hb dX5_errorOfOldName_97 (by decide) (fun cc => ?_) (fun cc => ?_)
          · have h := br_el h cc
            refine lv_iconst (v := 3) hx hb dX5_errorOfOldName_112 (by decide) ?_
            exact e_i hx hb hr rfl hlocks hP hS (Nat.le_of_ble_eq_true rfl) (Nat.le_of_ble_eq_true rfl) (Prod.mk.inj (so_el h)) dX5_errorOfOldName_113
          · have h := br_er h cc
            refine lv_iload hx hb dX5_errorOfOldName_100 (lv_at hl 2 rfl) ?_
            refine lv_if_ne (tgt := 114) hx hb dX5_errorOfOldName_102 (by decide) (fun cc => ?_) (fun cc => ?_)
            · have h := br_er h cc
              refine lv_aload_n hx hb dX5_errorOfOldName_114 rfl (lv_at hl 6 rfl) ?_
              refine lv_iload_n hx hb dX5_errorOfOldName_115 rfl (lv_at hl 7 rfl) ?_
              refine lv_iload hx hb dX5_errorOfOldName_116 (lv_at hl 4 rfl) ?_
              obtain ⟨w13, hf, h⟩ := bd0_el h
              refine c_onv (c_runV (b := adr (gB G) 4 0) (As := [.int a2, .int r3]) (rest := []) hx hb hml hown hts hE hP hS (c_X11_mean l G hF a2 r3 w12 w13 hf) (c_rec hE hP (hp_sh hP hF 0 4 (by decide)) (by decide) rfl rfl) w3_146 miX11_mean ⟨Nat.le_of_ble_eq_true rfl, Nat.le_of_ble_eq_true rfl⟩ rfl hl.1 rfl (Nat.le_of_ble_eq_true rfl) dX5_errorOfOldName_118 hcs) hS (fun H locs hP hS => ?_)
              refine lv_iconst (v := 0) hx hb dX5_errorOfOldName_121 (by decide) ?_
              exact e_i hx hb hr rfl hlocks hP hS (Nat.le_of_ble_eq_true rfl) (Nat.le_of_ble_eq_true rfl) (Prod.mk.inj (so_el h)) dX5_errorOfOldName_122
            · have h := br_el h cc
              refine lv_iload hx hb dX5_errorOfOldName_105 (lv_at hl 1 rfl) ?_
              refine lv_iload hx hb dX5_errorOfOldName_107 (lv_at hl 0 rfl) ?_
              refine lv_icmp_eq (tgt := 114) hx hb dX5_errorOfOldName_109 (by decide) (fun cc => ?_) (fun cc => ?_)
              · have h := br_el h cc
                refine lv_aload_n hx hb dX5_errorOfOldName_114 rfl (lv_at hl 6 rfl) ?_
                refine lv_iload_n hx hb dX5_errorOfOldName_115 rfl (lv_at hl 7 rfl) ?_
                refine lv_iload hx hb dX5_errorOfOldName_116 (lv_at hl 4 rfl) ?_
                obtain ⟨w14, hf, h⟩ := bd0_el h
                refine c_onv (c_runV (b := adr (gB G) 4 0) (As := [.int a2, .int r3]) (rest := []) hx hb hml hown hts hE hP hS (c_X11_mean l G hF a2 r3 w12 w14 hf) (c_rec hE hP (hp_sh hP hF 0 4 (by decide)) (by decide) rfl rfl) w3_146 miX11_mean ⟨Nat.le_of_ble_eq_true rfl, Nat.le_of_ble_eq_true rfl⟩ rfl hl.1 rfl (Nat.le_of_ble_eq_true rfl) dX5_errorOfOldName_118 hcs) hS (fun H locs hP hS => ?_)
                refine lv_iconst (v := 0) hx hb dX5_errorOfOldName_121 (by decide) ?_
                exact e_i hx hb hr rfl hlocks hP hS (Nat.le_of_ble_eq_true rfl) (Nat.le_of_ble_eq_true rfl) (Prod.mk.inj (so_el h)) dX5_errorOfOldName_122
              · have h := br_er h cc
                refine lv_iconst (v := 3) hx hb dX5_errorOfOldName_112 (by decide) ?_
                exact e_i hx hb hr rfl hlocks hP hS (Nat.le_of_ble_eq_true rfl) (Nat.le_of_ble_eq_true rfl) (Prod.mk.inj (so_el h)) dX5_errorOfOldName_113
        · have h := br_er h cc
          refine lv_iconst (v := 1) hx hb dX5_errorOfOldName_87 (by decide) ?_
          refine lv_goto (tgt := 92) hx hb dX5_errorOfOldName_88 (by decide) ?_
          refine lv_istore (i := 8) (lv' := [(8, .int 1), (7, .int 0), (6, .int 1), (5, kR G r5), (4, .int r3), (0, .ref (adr (gB G) 9 0)), (1, .ref (adr (gB G) 4 0)), (2, .int a2), (3, .ref (adr (gB G) 25 a3))]) hx hb dX5_errorOfOldName_92 hl (by decide) (by simp [kR, cat_rf, cat_ref, cat_int, cat_long, cat_null]) (fun ls hl => ?_)
          refine lv_iload hx hb dX5_errorOfOldName_94 (lv_at hl 4 rfl) ?_
          refine lv_iconst (v := (-1)) hx hb dX5_errorOfOldName_96 (by decide) ?_
          refine lv_icmp_eq (tgt := 112) hx hb dX5_errorOfOldName_97 (by decide) (fun cc => ?_) (fun cc => ?_)
          · have h := br_el h cc
            refine lv_iconst (v := 3) hx hb dX5_errorOfOldName_112 (by decide) ?_
            exact e_i hx hb hr rfl hlocks hP hS (Nat.le_of_ble_eq_true rfl) (Nat.le_of_ble_eq_true rfl) (Prod.mk.inj (so_el h)) dX5_errorOfOldName_113
          · have h := br_er h cc
            refine lv_iload hx hb dX5_errorOfOldName_100 (lv_at hl 2 rfl) ?_
            refine lv_if_ne (tgt := 114) hx hb dX5_errorOfOldName_102 (by decide) (fun cc => ?_) (fun cc => ?_)
            · have h := br_er h cc
              refine lv_aload_n hx hb dX5_errorOfOldName_114 rfl (lv_at hl 6 rfl) ?_
              refine lv_iload_n hx hb dX5_errorOfOldName_115 rfl (lv_at hl 7 rfl) ?_
              refine lv_iload hx hb dX5_errorOfOldName_116 (lv_at hl 4 rfl) ?_
              obtain ⟨w15, hf, h⟩ := bd0_el h
              refine c_onv (c_runV (b := adr (gB G) 4 0) (As := [.int a2, .int r3]) (rest := []) hx hb hml hown hts hE hP hS (c_X11_mean l G hF a2 r3 w12 w15 hf) (c_rec hE hP (hp_sh hP hF 0 4 (by decide)) (by decide) rfl rfl) w3_146 miX11_mean ⟨Nat.le_of_ble_eq_true rfl, Nat.le_of_ble_eq_true rfl⟩ rfl hl.1 rfl (Nat.le_of_ble_eq_true rfl) dX5_errorOfOldName_118 hcs) hS (fun H locs hP hS => ?_)
              refine lv_iconst (v := 0) hx hb dX5_errorOfOldName_121 (by decide) ?_
              exact e_i hx hb hr rfl hlocks hP hS (Nat.le_of_ble_eq_true rfl) (Nat.le_of_ble_eq_true rfl) (Prod.mk.inj (so_el h)) dX5_errorOfOldName_122
            · have h := br_el h cc
              refine lv_iload hx hb dX5_errorOfOldName_105 (lv_at hl 1 rfl) ?_
              refine lv_iload hx hb dX5_errorOfOldName_107 (lv_at hl 0 rfl) ?_
              refine lv_icmp_eq (tgt := 114) hx hb dX5_errorOfOldName_109 (by decide) (fun cc => ?_) (fun cc => ?_)
              · have h := br_el h cc
                refine lv_aload_n hx hb dX5_errorOfOldName_114 rfl (lv_at hl 6 rfl) ?_
                refine lv_iload_n hx hb dX5_errorOfOldName_115 rfl (lv_at hl 7 rfl) ?_
                refine lv_iload hx hb dX5_errorOfOldName_116 (lv_at hl 4 rfl) ?_
                obtain ⟨w16, hf, h⟩ := bd0_el h
                refine c_onv (c_runV (b := adr (gB G) 4 0) (As := [.int a2, .int r3]) (rest := []) hx hb hml hown hts hE hP hS (c_X11_mean l G hF a2 r3 w12 w16 hf) (c_rec hE hP (hp_sh hP hF 0 4 (by decide)) (by decide) rfl rfl) w3_146 miX11_mean ⟨Nat.le_of_ble_eq_true rfl, Nat.le_of_ble_eq_true rfl⟩ rfl hl.1 rfl (Nat.le_of_ble_eq_true rfl) dX5_errorOfOldName_118 hcs) hS (fun H locs hP hS => ?_)
                refine lv_iconst (v := 0) hx hb dX5_errorOfOldName_121 (by decide) ?_
                exact e_i hx hb hr rfl hlocks hP hS (Nat.le_of_ble_eq_true rfl) (Nat.le_of_ble_eq_true rfl) (Prod.mk.inj (so_el h)) dX5_errorOfOldName_122
              · have h := br_er h cc
                refine lv_iconst (v := 3) hx hb dX5_errorOfOldName_112 (by decide) ?_
                exact e_i hx hb hr rfl hlocks hP hS (Nat.le_of_ble_eq_true rfl) (Nat.le_of_ble_eq_true rfl) (Prod.mk.inj (so_el h)) dX5_errorOfOldName_113
      · have h := br_el h cc
        refine lv_iconst (v := 1) hx hb dX5_errorOfOldName_73 (by decide) ?_
        refine lv_goto (tgt := 78) hx hb dX5_errorOfOldName_74 (by decide) ?_
        refine lv_istore (i := 7) (lv' := [(7, .int 1), (6, .int 1), (5, kR G r5), (4, .int r3), (0, .ref (adr (gB G) 9 0)), (1, .ref (adr (gB G) 4 0)), (2, .int a2), (3, .ref (adr (gB G) 25 a3))]) hx hb dX5_errorOfOldName_78 hl (by decide) (by simp [kR, cat_rf, cat_ref, cat_int, cat_long, cat_null]) (fun ls hl => ?_)
        refine lv_iload hx hb dX5_errorOfOldName_80 (lv_at hl 3 rfl) ?_
        refine lv_bipush (v := 8) hx hb dX5_errorOfOldName_82 (by decide) ?_
        refine lv_icmp_lt (tgt := 91) hx hb dX5_errorOfOldName_84 (by decide) (fun cc => ?_) (fun cc => ?_)
        · have h := br_el h cc
          refine lv_iconst (v := 0) hx hb dX5_errorOfOldName_91 (by decide) ?_
          refine lv_istore (i := 8) (lv' := [(8, .int 0), (7, .int 1), (6, .int 1), (5, kR G r5), (4, .int r3), (0, .ref (adr (gB G) 9 0)), (1, .ref (adr (gB G) 4 0)), (2, .int a2), (3, .ref (adr (gB G) 25 a3))]) hx hb dX5_errorOfOldName_92 hl (by decide) (by simp [kR, cat_rf, cat_ref, cat_int, cat_long, cat_null]) (fun ls hl => ?_)
          refine lv_iload hx hb dX5_errorOfOldName_94 (lv_at hl 4 rfl) ?_
          refine lv_iconst (v := (-1)) hx hb dX5_errorOfOldName_96 (by decide) ?_
          refine lv_icmp_eq (tgt := 112) hx hb dX5_errorOfOldName_97 (by decide) (fun cc => ?_) (fun cc => ?_)
          · have h := br_el h cc
            refine lv_iconst (v := 3) hx hb dX5_errorOfOldName_112 (by decide) ?_
            exact e_i hx hb hr rfl hlocks hP hS (Nat.le_of_ble_eq_true rfl) (Nat.le_of_ble_eq_true rfl) (Prod.mk.inj (so_el h)) dX5_errorOfOldName_113
          · have h := br_er h cc
            refine lv_iload hx hb dX5_errorOfOldName_100 (lv_at hl 2 rfl) ?_
            refine lv_if_ne (tgt := 114) hx hb dX5_errorOfOldName_102 (by decide) (fun cc => ?_) (fun cc => ?_)
            · have h := br_er h cc
              refine lv_aload_n hx hb dX5_errorOfOldName_114 rfl (lv_at hl 6 rfl) ?_
              refine lv_iload_n hx hb dX5_errorOfOldName_115 rfl (lv_at hl 7 rfl) ?_
              refine lv_iload hx hb dX5_errorOfOldName_116 (lv_at hl 4 rfl) ?_
              obtain ⟨w17, hf, h⟩ := bd0_el h
              refine c_onv (c_runV (b := adr (gB G) 4 0) (As := [.int a2, .int r3]) (rest := []) hx hb hml hown hts hE hP hS (c_X11_mean l G hF a2 r3 w12 w17 hf) (c_rec hE hP (hp_sh hP hF 0 4 (by decide)) (by decide) rfl rfl) w3_146 miX11_mean ⟨Nat.le_of_ble_eq_true rfl, Nat.le_of_ble_eq_true rfl⟩ rfl hl.1 rfl (Nat.le_of_ble_eq_true rfl) dX5_errorOfOldName_118 hcs) hS (fun H locs hP hS => ?_)
              refine lv_iconst (v := 0) hx hb dX5_errorOfOldName_121 (by decide) ?_
              exact e_i hx hb hr rfl hlocks hP hS (Nat.le_of_ble_eq_true rfl) (Nat.le_of_ble_eq_true rfl) (Prod.mk.inj (so_el h)) dX5_errorOfOldName_122
            · have h := br_el h cc
              refine lv_iload hx hb dX5_errorOfOldName_105 (lv_at hl 1 rfl) ?_
              refine lv_iload hx hb dX5_errorOfOldName_107 (lv_at hl 0 rfl) ?_
              refine lv_icmp_eq (tgt := 114) hx hb dX5_errorOfOldName_109 (by decide) (fun cc => ?_) (fun cc => ?_)
              · have h := br_el h cc
                refine lv_aload_n hx hb dX5_errorOfOldName_114 rfl (lv_at hl 6 rfl) ?_
                refine lv_iload_n hx hb dX5_errorOfOldName_115 rfl (lv_at hl 7 rfl) ?_
                refine lv_iload hx hb dX5_errorOfOldName_116 (lv_at hl 4 rfl) ?_
                obtain ⟨w18, hf, h⟩ := bd0_el h
                refine c_onv (c_runV (b := adr (gB G) 4 0) (As := [.int a2, .int r3]) (rest := []) hx hb hml hown hts hE hP hS (c_X11_mean l G hF a2 r3 w12 w18 hf) (c_rec hE hP (hp_sh hP hF 0 4 (by decide)) (by decide) rfl rfl) w3_146 miX11_mean ⟨Nat.le_of_ble_eq_true rfl, Nat.le_of_ble_eq_true rfl⟩ rfl hl.1 rfl (Nat.le_of_ble_eq_true rfl) dX5_errorOfOldName_118 hcs) hS (fun H locs hP hS => ?_)
                refine lv_iconst (v := 0) hx hb dX5_errorOfOldName_121 (by decide) ?_
                exact e_i hx hb hr rfl hlocks hP hS (Nat.le_of_ble_eq_true rfl) (Nat.le_of_ble_eq_true rfl) (Prod.mk.inj (so_el h)) dX5_errorOfOldName_122
              · have h := br_er h cc
                refine lv_iconst (v := 3) hx hb dX5_errorOfOldName_112 (by decide) ?_
                exact e_i hx hb hr rfl hlocks hP hS (Nat.le_of_ble_eq_true rfl) (Nat.le_of_ble_eq_true rfl) (Prod.mk.inj (so_el h)) dX5_errorOfOldName_113
        · have h := br_er h cc
          refine lv_iconst (v := 1) hx hb dX5_errorOfOldName_87 (by decide) ?_
          refine lv_goto (tgt := 92) hx hb dX5_errorOfOldName_88 (by decide) ?_
          refine lv_istore (i := 8) (lv' := [(8, .int 1), (7, .int 1), (6, .int 1), (5, kR G r5), (4, .int r3), (0, .ref (adr (gB G) 9 0)), (1, .ref (adr (gB G) 4 0)), (2, .int a2), (3, .ref (adr (gB G) 25 a3))]) hx hb dX5_errorOfOldName_92 hl (by decide) (by simp [kR, cat_rf, cat_ref, cat_int, cat_long, cat_null]) (fun ls hl => ?_)
          refine lv_iload hx hb dX5_errorOfOldName_94 (lv_at hl 4 rfl) ?_
          refine lv_iconst (v := (-1)) hx hb dX5_errorOfOldName_96 (by decide) ?_
          refine lv_icmp_eq (tgt := 112) hx hb dX5_errorOfOldName_97 (by decide) (fun cc => ?_) (fun cc => ?_)
          · have h := br_el h cc
            refine lv_iconst (v := 3) hx hb dX5_errorOfOldName_112 (by decide) ?_
            exact e_i hx hb hr rfl hlocks hP hS (Nat.le_of_ble_eq_true rfl) (Nat.le_of_ble_eq_true rfl) (Prod.mk.inj (so_el h)) dX5_errorOfOldName_113
          · have h := br_er h cc
            refine lv_iload hx hb dX5_errorOfOldName_100 (lv_at hl 2 rfl) ?_
            refine lv_if_ne (tgt := 114) hx hb dX5_errorOfOldName_102 (by decide) (fun cc => ?_) (fun cc => ?_)
            · have h := br_er h cc
              refine lv_aload_n hx hb dX5_errorOfOldName_114 rfl (lv_at hl 6 rfl) ?_
              refine lv_iload_n hx hb dX5_errorOfOldName_115 rfl (lv_at hl 7 rfl) ?_
              refine lv_iload hx hb dX5_errorOfOldName_116 (lv_at hl 4 rfl) ?_
              obtain ⟨w19, hf, h⟩ := bd0_el h
              refine c_onv (c_runV (b := adr (gB G) 4 0) (As := [.int a2, .int r3]) (rest := []) hx hb hml hown hts hE hP hS (c_X11_mean l G hF a2 r3 w12 w19 hf) (c_rec hE hP (hp_sh hP hF 0 4 (by decide)) (by decide) rfl rfl) w3_146 miX11_mean ⟨Nat.le_of_ble_eq_true rfl, Nat.le_of_ble_eq_true rfl⟩ rfl hl.1 rfl (Nat.le_of_ble_eq_true rfl) dX5_errorOfOldName_118 hcs) hS (fun H locs hP hS => ?_)
              refine lv_iconst (v := 0) hx hb dX5_errorOfOldName_121 (by decide) ?_
              exact e_i hx hb hr rfl hlocks hP hS (Nat.le_of_ble_eq_true rfl) (Nat.le_of_ble_eq_true rfl) (Prod.mk.inj (so_el h)) dX5_errorOfOldName_122
            · have h := br_el h cc
              refine lv_iload hx hb dX5_errorOfOldName_105 (lv_at hl 1 rfl) ?_
              refine lv_iload hx hb dX5_errorOfOldName_107 (lv_at hl 0 rfl) ?_
              refine lv_icmp_eq (tgt := 114) hx hb dX5_errorOfOldName_109 (by decide) (fun cc => ?_) (fun cc => ?_)
              · have h := br_el h cc
                refine lv_aload_n hx hb dX5_errorOfOldName_114 rfl (lv_at hl 6 rfl) ?_
                refine lv_iload_n hx hb dX5_errorOfOldName_115 rfl (lv_at hl 7 rfl) ?_
                refine lv_iload hx hb dX5_errorOfOldName_116 (lv_at hl 4 rfl) ?_
                obtain ⟨w20, hf, h⟩ := bd0_el h
                refine c_onv (c_runV (b := adr (gB G) 4 0) (As := [.int a2, .int r3]) (rest := []) hx hb hml hown hts hE hP hS (c_X11_mean l G hF a2 r3 w12 w20 hf) (c_rec hE hP (hp_sh hP hF 0 4 (by decide)) (by decide) rfl rfl) w3_146 miX11_mean ⟨Nat.le_of_ble_eq_true rfl, Nat.le_of_ble_eq_true rfl⟩ rfl hl.1 rfl (Nat.le_of_ble_eq_true rfl) dX5_errorOfOldName_118 hcs) hS (fun H locs hP hS => ?_)
                refine lv_iconst (v := 0) hx hb dX5_errorOfOldName_121 (by decide) ?_
                exact e_i hx hb hr rfl hlocks hP hS (Nat.le_of_ble_eq_true rfl) (Nat.le_of_ble_eq_true rfl) (Prod.mk.inj (so_el h)) dX5_errorOfOldName_122
              · have h := br_er h cc
                refine lv_iconst (v := 3) hx hb dX5_errorOfOldName_112 (by decide) ?_
                exact e_i hx hb hr rfl hlocks hP hS (Nat.le_of_ble_eq_true rfl) (Nat.le_of_ble_eq_true rfl) (Prod.mk.inj (so_el h)) dX5_errorOfOldName_113
  · have h := br_er h cc
    refine k_aload hx hb dX5_errorOfOldName_29 (lv_at hl 0 rfl) ?_
    refine k_kind (i := 11) (nm := "LEAVE") hx hb hE hS hown rfl (by decide) (hts _ w3_141) dX5_errorOfOldName_31 ?_
    refine k_acmp_eq (x := r5) (y := 12) (tgt := 45) hx hb hE dX5_errorOfOldName_34 (by decide) (fun cc => ?_) (fun cc => ?_)
    · have h := br_el h cc
      refine lv_iconst (v := 1) hx hb dX5_errorOfOldName_45 (by decide) ?_
      refine lv_goto (tgt := 50) hx hb dX5_errorOfOldName_46 (by decide) ?_
      refine lv_istore (i := 6) (lv' := [(6, .int 1), (5, kR G r5), (4, .int r3), (0, .ref (adr (gB G) 9 0)), (1, .ref (adr (gB G) 4 0)), (2, .int a2), (3, .ref (adr (gB G) 25 a3))]) hx hb dX5_errorOfOldName_50 hl (by decide) (by simp [kR, cat_rf, cat_ref, cat_int, cat_long, cat_null]) (fun ls hl => ?_)
      refine k_aload hx hb dX5_errorOfOldName_52 (lv_at hl 1 rfl) ?_
      refine k_kind (i := 22) (nm := "OF") hx hb hE hS hown rfl (by decide) (hts _ w3_143) dX5_errorOfOldName_54 ?_
      refine k_acmp_ne (x := r5) (y := 23) (tgt := 77) hx hb hE dX5_errorOfOldName_57 (by decide) (fun cc => ?_) (fun cc => ?_)
      · have h := br_er h cc
        refine lv_iconst (v := 0) hx hb dX5_errorOfOldName_77 (by decide) ?_
        refine lv_istore (i := 7) (lv' := [(7, .int 0), (6, .int 1), (5, kR G r5), (4, .int r3), (0, .ref (adr (gB G) 9 0)), (1, .ref (adr (gB G) 4 0)), (2, .int a2), (3, .ref (adr (gB G) 25 a3))]) hx hb dX5_errorOfOldName_78 hl (by decide) (by simp [kR, cat_rf, cat_ref, cat_int, cat_long, cat_null]) (fun ls hl => ?_)
        refine lv_iload hx hb dX5_errorOfOldName_80 (lv_at hl 3 rfl) ?_
        refine lv_bipush (v := 8) hx hb dX5_errorOfOldName_82 (by decide) ?_
        refine lv_icmp_lt (tgt := 91) hx hb dX5_errorOfOldName_84 (by decide) (fun cc => ?_) (fun cc => ?_)
        · have h := br_el h cc
          refine lv_iconst (v := 0) hx hb dX5_errorOfOldName_91 (by decide) ?_
          refine lv_istore (i := 8) (lv' := [(8, .int 0), (7, .int 0), (6, .int 1), (5, kR G r5), (4, .int r3), (0, .ref (adr (gB G) 9 0)), (1, .ref (adr (gB G) 4 0)), (2, .int a2), (3, .ref (adr (gB G) 25 a3))]) hx hb dX5_errorOfOldName_92 hl (by decide) (by simp [kR, cat_rf, cat_ref, cat_int, cat_long, cat_null]) (fun ls hl => ?_)
          refine lv_iload hx hb dX5_errorOfOldName_94 (lv_at hl 4 rfl) ?_
          refine lv_iconst (v := (-1)) hx hb dX5_errorOfOldName_96 (by decide) ?_
          refine lv_icmp_eq (tgt := 112) hx hb dX5_errorOfOldName_97 (by decide) (fun cc => ?_) (fun cc => ?_)
          · have h := br_el h cc
            refine lv_iconst (v := 3) hx hb dX5_errorOfOldName_112 (by decide) ?_
            exact e_i hx hb hr rfl hlocks hP hS (Nat.le_of_ble_eq_true rfl) (Nat.le_of_ble_eq_true rfl) (Prod.mk.inj (so_el h)) dX5_errorOfOldName_113
          · have h := br_er h cc
            refine lv_iload hx hb dX5_errorOfOldName_100 (lv_at hl 2 rfl) ?_
            refine lv_if_ne (tgt := 114) hx hb dX5_errorOfOldName_102 (by decide) (fun cc => ?_) (fun cc => ?_)
            · have h := br_er h cc
              refine lv_aload_n hx hb dX5_errorOfOldName_114 rfl (lv_at hl 6 rfl) ?_
              refine lv_iload_n hx hb dX5_errorOfOldName_115 rfl (lv_at hl 7 rfl) ?_
              refine lv_iload hx hb dX5_errorOfOldName_116 (lv_at hl 4 rfl) ?_
              obtain ⟨w21, hf, h⟩ := bd0_el h
              refine c_onv (c_runV (b := adr (gB G) 4 0) (As := [.int a2, .int r3]) (rest := []) hx hb hml hown hts hE hP hS (c_X11_mean l G hF a2 r3 w6 w21 hf) (c_rec hE hP (hp_sh hP hF 0 4 (by decide)) (by decide) rfl rfl) w3_146 miX11_mean ⟨Nat.le_of_ble_eq_true rfl, Nat.le_of_ble_eq_true rfl⟩ rfl hl.1 rfl (Nat.le_of_ble_eq_true rfl) dX5_errorOfOldName_118 hcs) hS (fun H locs hP hS => ?_)
              refine lv_iconst (v := 0) hx hb dX5_errorOfOldName_121 (by decide) ?_
              exact e_i hx hb hr rfl hlocks hP hS (Nat.le_of_ble_eq_true rfl) (Nat.le_of_ble_eq_true rfl) (Prod.mk.inj (so_el h)) dX5_errorOfOldName_122
            · have h := br_el h cc
              refine lv_iload hx hb dX5_errorOfOldName_105 (lv_at hl 1 rfl) ?_
              refine lv_iload hx hb dX5_errorOfOldName_107 (lv_at hl 0 rfl) ?_
              refine lv_icmp_eq (tgt := 114) hx hb dX5_errorOfOldName_109 (by decide) (fun cc => ?_) (fun cc => ?_)
              · have h := br_el h cc
                refine lv_aload_n hx hb dX5_errorOfOldName_114 rfl (lv_at hl 6 rfl) ?_
                refine lv_iload_n hx hb dX5_errorOfOldName_115 rfl (lv_at hl 7 rfl) ?_
                refine lv_iload hx hb dX5_errorOfOldName_116 (lv_at hl 4 rfl) ?_
                obtain ⟨w22, hf, h⟩ := bd0_el h
                refine c_onv (c_runV (b := adr (gB G) 4 0) (As := [.int a2, .int r3]) (rest := []) hx hb hml hown hts hE hP hS (c_X11_mean l G hF a2 r3 w6 w22 hf) (c_rec hE hP (hp_sh hP hF 0 4 (by decide)) (by decide) rfl rfl) w3_146 miX11_mean ⟨Nat.le_of_ble_eq_true rfl, Nat.le_of_ble_eq_true rfl⟩ rfl hl.1 rfl (Nat.le_of_ble_eq_true rfl) dX5_errorOfOldName_118 hcs) hS (fun H locs hP hS => ?_)
                refine lv_iconst (v := 0) hx hb dX5_errorOfOldName_121 (by decide) ?_
                exact e_i hx hb hr rfl hlocks hP hS (Nat.le_of_ble_eq_true rfl) (Nat.le_of_ble_eq_true rfl) (Prod.mk.inj (so_el h)) dX5_errorOfOldName_122
              · have h := br_er h cc
                refine lv_iconst (v := 3) hx hb dX5_errorOfOldName_112 (by decide) ?_
                exact e_i hx hb hr rfl hlocks hP hS (Nat.le_of_ble_eq_true rfl) (Nat.le_of_ble_eq_true rfl) (Prod.mk.inj (so_el h)) dX5_errorOfOldName_113
        · have h := br_er h cc
          refine lv_iconst (v := 1) hx hb dX5_errorOfOldName_87 (by decide) ?_
          refine lv_goto (tgt := 92) hx hb dX5_errorOfOldName_88 (by decide) ?_
          refine lv_istore (i := 8) (lv' := [(8, .int 1), (7, .int 0), (6, .int 1), (5, kR G r5), (4, .int r3), (0, .ref (adr (gB G) 9 0)), (1, .ref (adr (gB G) 4 0)), (2, .int a2), (3, .ref (adr (gB G) 25 a3))]) hx hb dX5_errorOfOldName_92 hl (by decide) (by simp [kR, cat_rf, cat_ref, cat_int, cat_long, cat_null]) (fun ls hl => ?_)
          refine lv_iload hx hb dX5_errorOfOldName_94 (lv_at hl 4 rfl) ?_
          refine lv_iconst (v := (-1)) hx hb dX5_errorOfOldName_96 (by decide) ?_
          refine lv_icmp_eq (tgt := 112) hx hb dX5_errorOfOldName_97 (by decide) (fun cc => ?_) (fun cc => ?_)
          · have h := br_el h cc
            refine lv_iconst (v := 3) hx hb dX5_errorOfOldName_112 (by decide) ?_
            exact e_i hx hb hr rfl hlocks hP hS (Nat.le_of_ble_eq_true rfl) (Nat.le_of_ble_eq_true rfl) (Prod.mk.inj (so_el h)) dX5_errorOfOldName_113
          · have h := br_er h cc
            refine lv_iload hx hb dX5_errorOfOldName_100 (lv_at hl 2 rfl) ?_
            refine lv_if_ne (tgt := 114) hx hb dX5_errorOfOldName_102 (by decide) (fun cc => ?_) (fun cc => ?_)
            · have h := br_er h cc
              refine lv_aload_n hx hb dX5_errorOfOldName_114 rfl (lv_at hl 6 rfl) ?_
              refine lv_iload_n hx hb dX5_errorOfOldName_115 rfl (lv_at hl 7 rfl) ?_
              refine lv_iload hx hb dX5_errorOfOldName_116 (lv_at hl 4 rfl) ?_
              obtain ⟨w23, hf, h⟩ := bd0_el h
              refine c_onv (c_runV (b := adr (gB G) 4 0) (As := [.int a2, .int r3]) (rest := []) hx hb hml hown hts hE hP hS (c_X11_mean l G hF a2 r3 w6 w23 hf) (c_rec hE hP (hp_sh hP hF 0 4 (by decide)) (by decide) rfl rfl) w3_146 miX11_mean ⟨Nat.le_of_ble_eq_true rfl, Nat.le_of_ble_eq_true rfl⟩ rfl hl.1 rfl (Nat.le_of_ble_eq_true rfl) dX5_errorOfOldName_118 hcs) hS (fun H locs hP hS => ?_)
              refine lv_iconst (v := 0) hx hb dX5_errorOfOldName_121 (by decide) ?_
              exact e_i hx hb hr rfl hlocks hP hS (Nat.le_of_ble_eq_true rfl) (Nat.le_of_ble_eq_true rfl) (Prod.mk.inj (so_el h)) dX5_errorOfOldName_122
            · have h := br_el h cc
              refine lv_iload hx hb dX5_errorOfOldName_105 (lv_at hl 1 rfl) ?_
              refine lv_iload hx hb dX5_errorOfOldName_107 (lv_at hl 0 rfl) ?_
              refine lv_icmp_eq (tgt := 114) hx hb dX5_errorOfOldName_109 (by decide) (fun cc => ?_) (fun cc => ?_)
              · have h := br_el h cc
                refine lv_aload_n hx hb dX5_errorOfOldName_114 rfl (lv_at hl 6 rfl) ?_
                refine lv_iload_n hx hb dX5_errorOfOldName_115 rfl (lv_at hl 7 rfl) ?_
                refine lv_iload hx hb dX5_errorOfOldName_116 (lv_at hl 4 rfl) ?_
                obtain ⟨w24, hf, h⟩ := bd0_el h
                refine c_onv (c_runV (b := adr (gB G) 4 0) (As := [.int a2, .int r3]) (rest := []) hx hb hml hown hts hE hP hS (c_X11_mean l G hF a2 r3 w6 w24 hf) (c_rec hE hP (hp_sh hP hF 0 4 (by decide)) (by decide) rfl rfl) w3_146 miX11_mean ⟨Nat.le_of_ble_eq_true rfl, Nat.le_of_ble_eq_true rfl⟩ rfl hl.1 rfl (Nat.le_of_ble_eq_true rfl) dX5_errorOfOldName_118 hcs) hS (fun H locs hP hS => ?_)
                refine lv_iconst (v := 0) hx hb dX5_errorOfOldName_121 (by decide) ?_
                exact e_i hx hb hr rfl hlocks hP hS (Nat.le_of_ble_eq_true rfl) (Nat.le_of_ble_eq_true rfl) (Prod.mk.inj (so_el h)) dX5_errorOfOldName_122
              · have h := br_er h cc
                refine lv_iconst (v := 3) hx hb dX5_errorOfOldName_112 (by decide) ?_
                exact e_i hx hb hr rfl hlocks hP hS (Nat.le_of_ble_eq_true rfl) (Nat.le_of_ble_eq_true rfl) (Prod.mk.inj (so_el h)) dX5_errorOfOldName_113
      · have h := br_el h cc
        refine lv_aload_n hx hb dX5_errorOfOldName_60 rfl (lv_at hl 4 rfl) ?_
        refine lv_iload_n hx hb dX5_errorOfOldName_61 rfl (lv_at hl 5 rfl) ?_
        refine lv_iconst (v := 2) hx hb dX5_errorOfOldName_62 (by decide) ?_
        refine lv_isub hx hb dX5_errorOfOldName_63 ?_
        obtain ⟨r25, w26, hf, h⟩ := bd1_el h
        refine c_onq (c_runV (b := adr (gB G) 4 0) (As := [.int (a2 - 2)]) (rest := []) hx hb hml hown hts hE hP hS (c_X11_kind l G hF (a2 - 2) w6 r25 w26 hf) (c_rec hE hP (hp_sh hP hF 0 4 (by decide)) (by decide) rfl rfl) w3_82 miX11_kind ⟨Nat.le_of_ble_eq_true rfl, Nat.le_of_ble_eq_true rfl⟩ rfl hl.1 rfl (Nat.le_of_ble_eq_true rfl) dX5_errorOfOldName_64 hcs) hS (fun H locs hP hS => ?_)
        refine k_kind (i := 21) (nm := "PETALS") hx hb hE hS hown rfl (by decide) (hts _ w3_144) dX5_errorOfOldName_67 ?_
        refine k_acmp_ne (x := r25) (y := 22) (tgt := 77) hx hb hE dX5_errorOfOldName_70 (by decide) (fun cc => ?_) (fun cc => ?_)
        · have h := br_er h cc
          refine lv_iconst (v := 0) hx hb dX5_errorOfOldName_77 (by decide) ?_
          refine lv_istore (i := 7) (lv' := [(7, .int 0), (6, .int 1), (5, kR G r5), (4, .int r3), (0, .ref (adr (gB G) 9 0)), (1, .ref (adr (gB G) 4 0)), (2, .int a2), (3, .ref (adr (gB G) 25 a3))]) hx hb dX5_errorOfOldName_78 hl (by decide) (by simp [kR, cat_rf, cat_ref, cat_int, cat_long, cat_null]) (fun ls hl => ?_)
          refine lv_iload hx hb dX5_errorOfOldName_80 (lv_at hl 3 rfl) ?_
          refine lv_bipush (v := 8) hx hb dX5_errorOfOldName_82 (by decide) ?_
          refine lv_icmp_lt (tgt := 91) hx hb dX5_errorOfOldName_84 (by decide) (fun cc => ?_) (fun cc => ?_)
          · have h := br_el h cc
            refine lv_iconst (v := 0) hx hb dX5_errorOfOldName_91 (by decide) ?_
            refine lv_istore (i := 8) (lv' := [(8, .int 0), (7, .int 0), (6, .int 1), (5, kR G r5), (4, .int r3), (0, .ref (adr (gB G) 9 0)), (1, .ref (adr (gB G) 4 0)), (2, .int a2), (3, .ref (adr (gB G) 25 a3))]) hx hb dX5_errorOfOldName_92 hl (by decide) (by simp [kR, cat_rf, cat_ref, cat_int, cat_long, cat_null]) (fun ls hl => ?_)
            refine lv_iload hx hb dX5_errorOfOldName_94 (lv_at hl 4 rfl) ?_
            refine lv_iconst (v := (-1)) hx hb dX5_errorOfOldName_96 (by decide) ?_
            refine lv_icmp_eq (tgt := 112) hx hb dX5_errorOfOldName_97 (by decide) (fun cc => ?_) (fun cc => ?_)
            · have h := br_el h cc
              refine lv_iconst (v := 3) hx hb dX5_errorOfOldName_112 (by decide) ?_
              exact e_i hx hb hr rfl hlocks hP hS (Nat.le_of_ble_eq_true rfl) (Nat.le_of_ble_eq_true rfl) (Prod.mk.inj (so_el h)) dX5_errorOfOldName_113
            · have h := br_er h cc
              refine lv_iload hx hb dX5_errorOfOldName_100 (lv_at hl 2 rfl) ?_
              refine lv_if_ne (tgt := 114) hx hb dX5_errorOfOldName_102 (by decide) (fun cc => ?_) (fun cc => ?_)
              · have h := br_er h cc
                refine lv_aload_n hx hb dX5_errorOfOldName_114 rfl (lv_at hl 6 rfl) ?_
                refine lv_iload_n hx hb dX5_errorOfOldName_115 rfl (lv_at hl 7 rfl) ?_
                refine lv_iload hx hb dX5_errorOfOldName_116 (lv_at hl 4 rfl) ?_
                obtain ⟨w27, hf, h⟩ := bd0_el h
                refine c_onv (c_runV (b := adr (gB G) 4 0) (As := [.int a2, .int r3]) (rest := []) hx hb hml hown hts hE hP hS (c_X11_mean l G hF a2 r3 w26 w27 hf) (c_rec hE hP (hp_sh hP hF 0 4 (by decide)) (by decide) rfl rfl) w3_146 miX11_mean ⟨Nat.le_of_ble_eq_true rfl, Nat.le_of_ble_eq_true rfl⟩ rfl hl.1 rfl (Nat.le_of_ble_eq_true rfl) dX5_errorOfOldName_118 hcs) hS (fun H locs hP hS => ?_)
                refine lv_iconst (v := 0) hx hb dX5_errorOfOldName_121 (by decide) ?_
                exact e_i hx hb hr rfl hlocks hP hS (Nat.le_of_ble_eq_true rfl) (Nat.le_of_ble_eq_true rfl) (Prod.mk.inj (so_el h)) dX5_errorOfOldName_122
              · have h := br_el h cc
                refine lv_iload hx hb dX5_errorOfOldName_105 (lv_at hl 1 rfl) ?_
                refine lv_iload hx hb dX5_errorOfOldName_107 (lv_at hl 0 rfl) ?_
                refine lv_icmp_eq (tgt := 114) hx hb dX5_errorOfOldName_109 (by decide) (fun cc => ?_) (fun cc => ?_)
                · have h := br_el h cc
                  refine lv_aload_n hx hb dX5_errorOfOldName_114 rfl (lv_at hl 6 rfl) ?_
                  refine lv_iload_n hx hb dX5_errorOfOldName_115 rfl (lv_at hl 7 rfl) ?_
                  refine lv_iload hx hb dX5_errorOfOldName_116 (lv_at hl 4 rfl) ?_
                  obtain ⟨w28, hf, h⟩ := bd0_el h
                  refine c_onv (c_runV (b := adr (gB G) 4 0) (As := [.int a2, .int r3]) (rest := []) hx hb hml hown hts hE hP hS (c_X11_mean l G hF a2 r3 w26 w28 hf) (c_rec hE hP (hp_sh hP hF 0 4 (by decide)) (by decide) rfl rfl) w3_146 miX11_mean ⟨Nat.le_of_ble_eq_true rfl, Nat.le_of_ble_eq_true rfl⟩ rfl hl.1 rfl (Nat.le_of_ble_eq_true rfl) dX5_errorOfOldName_118 hcs) hS (fun H locs hP hS => ?_)
                  refine lv_iconst (v := 0) hx hb dX5_errorOfOldName_121 (by decide) ?_
                  exact e_i hx hb hr rfl hlocks hP hS (Nat.le_of_ble_eq_true rfl) (Nat.le_of_ble_eq_true rfl) (Prod.mk.inj (so_el h)) dX5_errorOfOldName_122
                · have h := br_er h cc
                  refine lv_iconst (v := 3) hx hb dX5_errorOfOldName_112 (by decide) ?_
                  exact e_i hx hb hr rfl hlocks hP hS (Nat.le_of_ble_eq_true rfl) (Nat.le_of_ble_eq_true rfl) (Prod.mk.inj (so_el h)) dX5_errorOfOldName_113
          · have h := br_er h cc
            refine lv_iconst (v := 1) hx hb dX5_errorOfOldName_87 (by decide) ?_
            refine lv_goto (tgt := 92) hx hb dX5_errorOfOldName_88 (by decide) ?_
            refine lv_istore (i := 8) (lv' := [(8, .int 1), (7, .int 0), (6, .int 1), (5, kR G r5), (4, .int r3), (0, .ref (adr (gB G) 9 0)), (1, .ref (adr (gB G) 4 0)), (2, .int a2), (3, .ref (adr (gB G) 25 a3))]) hx hb dX5_errorOfOldName_92 hl (by decide) (by simp [kR, cat_rf, cat_ref, cat_int, cat_long, cat_null]) (fun ls hl => ?_)
            refine lv_iload hx hb dX5_errorOfOldName_94 (lv_at hl 4 rfl) ?_
            refine lv_iconst (v := (-1)) hx hb dX5_errorOfOldName_96 (by decide) ?_
            refine lv_icmp_eq (tgt := 112) hx hb dX5_errorOfOldName_97 (by decide) (fun cc => ?_) (fun cc => ?_)
            · have h := br_el h cc
              refine lv_iconst (v := 3) hx hb dX5_errorOfOldName_112 (by decide) ?_
              exact e_i hx hb hr rfl hlocks hP hS (Nat.le_of_ble_eq_true rfl) (Nat.le_of_ble_eq_true rfl) (Prod.mk.inj (so_el h)) dX5_errorOfOldName_113
            · have h := br_er h cc
              refine lv_iload hx hb dX5_errorOfOldName_100 (lv_at hl 2 rfl) ?_
              refine lv_if_ne (tgt := 114) hx hb dX5_errorOfOldName_102 (by decide) (fun cc => ?_) (fun cc => ?_)
              · have h := br_er h cc
                refine lv_aload_n hx hb dX5_errorOfOldName_114 rfl (lv_at hl 6 rfl) ?_
                refine lv_iload_n hx hb dX5_errorOfOldName_115 rfl (lv_at hl 7 rfl) ?_
                refine lv_iload hx hb dX5_errorOfOldName_116 (lv_at hl 4 rfl) ?_
                obtain ⟨w29, hf, h⟩ := bd0_el h
                refine c_onv (c_runV (b := adr (gB G) 4 0) (As := [.int a2, .int r3]) (rest := []) hx hb hml hown hts hE hP hS (c_X11_mean l G hF a2 r3 w26 w29 hf) (c_rec hE hP (hp_sh hP hF 0 4 (by decide)) (by decide) rfl rfl) w3_146 miX11_mean ⟨Nat.le_of_ble_eq_true rfl, Nat.le_of_ble_eq_true rfl⟩ rfl hl.1 rfl (Nat.le_of_ble_eq_true rfl) dX5_errorOfOldName_118 hcs) hS (fun H locs hP hS => ?_)
                refine lv_iconst (v := 0) hx hb dX5_errorOfOldName_121 (by decide) ?_
                exact e_i hx hb hr rfl hlocks hP hS (Nat.le_of_ble_eq_true rfl) (Nat.le_of_ble_eq_true rfl) (Prod.mk.inj (so_el h)) dX5_errorOfOldName_122
              · have h := br_el h cc
                refine lv_iload hx hb dX5_errorOfOldName_105 (lv_at hl 1 rfl) ?_
                refine lv_iload hx hb dX5_errorOfOldName_107 (lv_at hl 0 rfl) ?_
                refine lv_icmp_eq (tgt := 114) hx hb dX5_errorOfOldName_109 (by decide) (fun cc => ?_) (fun cc => ?_)
                · have h := br_el h cc
                  refine lv_aload_n hx hb dX5_errorOfOldName_114 rfl (lv_at hl 6 rfl) ?_
                  refine lv_iload_n hx hb dX5_errorOfOldName_115 rfl (lv_at hl 7 rfl) ?_
                  refine lv_iload hx hb dX5_errorOfOldName_116 (lv_at hl 4 rfl) ?_
                  obtain ⟨w30, hf, h⟩ := bd0_el h
                  refine c_onv (c_runV (b := adr (gB G) 4 0) (As := [.int a2, .int r3]) (rest := []) hx hb hml hown hts hE hP hS (c_X11_mean l G hF a2 r3 w26 w30 hf) (c_rec hE hP (hp_sh hP hF 0 4 (by decide)) (by decide) rfl rfl) w3_146 miX11_mean ⟨Nat.le_of_ble_eq_true rfl, Nat.le_of_ble_eq_true rfl⟩ rfl hl.1 rfl (Nat.le_of_ble_eq_true rfl) dX5_errorOfOldName_118 hcs) hS (fun H locs hP hS => ?_)
                  refine lv_iconst (v := 0) hx hb dX5_errorOfOldName_121 (by decide) ?_
                  exact e_i hx hb hr rfl hlocks hP hS (Nat.le_of_ble_eq_true rfl) (Nat.le_of_ble_eq_true rfl) (Prod.mk.inj (so_el h)) dX5_errorOfOldName_122
                · have h := br_er h cc
                  refine lv_iconst (v := 3) hx hb dX5_errorOfOldName_112 (by decide) ?_
                  exact e_i hx hb hr rfl hlocks hP hS (Nat.le_of_ble_eq_true rfl) (Nat.le_of_ble_eq_true rfl) (Prod.mk.inj (so_el h)) dX5_errorOfOldName_113
        · have h := br_el h cc
          refine lv_iconst (v := 1) hx hb dX5_errorOfOldName_73 (by decide) ?_
          refine lv_goto (tgt := 78) hx hb dX5_errorOfOldName_74 (by decide) ?_
          refine lv_istore (i := 7) (lv' := [(7, .int 1), (6, .int 1), (5, kR G r5), (4, .int r3), (0, .ref (adr (gB G) 9 0)), (1, .ref (adr (gB G) 4 0)), (2, .int a2), (3, .ref (adr (gB G) 25 a3))]) hx hb dX5_errorOfOldName_78 hl (by decide) (by simp [kR, cat_rf, cat_ref, cat_int, cat_long, cat_null]) (fun ls hl => ?_)
          refine lv_iload hx hb dX5_errorOfOldName_80 (lv_at hl 3 rfl) ?_
          refine lv_bipush (v := 8) hx hb dX5_errorOfOldName_82 (by decide) ?_
          refine lv_icmp_lt (tgt := 91) hx hb dX5_errorOfOldName_84 (by decide) (fun cc => ?_) (fun cc => ?_)
          · have h := br_el h cc
            refine lv_iconst (v := 0) hx hb dX5_errorOfOldName_91 (by decide) ?_
            refine lv_istore (i := 8) (lv' := [(8, .int 0), (7, .int 1), (6, .int 1), (5, kR G r5), (4, .int r3), (0, .ref (adr (gB G) 9 0)), (1, .ref (adr (gB G) 4 0)), (2, .int a2), (3, .ref (adr (gB G) 25 a3))]) hx hb dX5_errorOfOldName_92 hl (by decide) (by simp [kR, cat_rf, cat_ref, cat_int, cat_long, cat_null]) (fun ls hl => ?_)
            refine lv_iload hx hb dX5_errorOfOldName_94 (lv_at hl 4 rfl) ?_
            refine lv_iconst (v := (-1)) hx hb dX5_errorOfOldName_96 (by decide) ?_
            refine lv_icmp_eq (tgt := 112) hx hb dX5_errorOfOldName_97 (by decide) (fun cc => ?_) (fun cc => ?_)
            · have h := br_el h cc
              refine lv_iconst (v := 3) hx hb dX5_errorOfOldName_112 (by decide) ?_
              exact e_i hx hb hr rfl hlocks hP hS (Nat.le_of_ble_eq_true rfl) (Nat.le_of_ble_eq_true rfl) (Prod.mk.inj (so_el h)) dX5_errorOfOldName_113
            · have h := br_er h cc
              refine lv_iload hx hb dX5_errorOfOldName_100 (lv_at hl 2 rfl) ?_
              refine lv_if_ne (tgt := 114) hx hb dX5_errorOfOldName_102 (by decide) (fun cc => ?_) (fun cc => ?_)
              · have h := br_er h cc
                refine lv_aload_n hx hb dX5_errorOfOldName_114 rfl (lv_at hl 6 rfl) ?_
                refine lv_iload_n hx hb dX5_errorOfOldName_115 rfl (lv_at hl 7 rfl) ?_
                refine lv_iload hx hb dX5_errorOfOldName_116 (lv_at hl 4 rfl) ?_
                obtain ⟨w31, hf, h⟩ := bd0_el h
                refine c_onv (c_runV (b := adr (gB G) 4 0) (As := [.int a2, .int r3]) (rest := []) hx hb hml hown hts hE hP hS (c_X11_mean l G hF a2 r3 w26 w31 hf) (c_rec hE hP (hp_sh hP hF 0 4 (by decide)) (by decide) rfl rfl) w3_146 miX11_mean ⟨Nat.le_of_ble_eq_true rfl, Nat.le_of_ble_eq_true rfl⟩ rfl hl.1 rfl (Nat.le_of_ble_eq_true rfl) dX5_errorOfOldName_118 hcs) hS (fun H locs hP hS => ?_)
                refine lv_iconst (v := 0) hx hb dX5_errorOfOldName_121 (by decide) ?_
                exact e_i hx hb hr rfl hlocks hP hS (Nat.le_of_ble_eq_true rfl) (Nat.le_of_ble_eq_true rfl) (Prod.mk.inj (so_el h)) dX5_errorOfOldName_122
              · have h := br_el h cc
                refine lv_iload hx hb dX5_errorOfOldName_105 (lv_at hl 1 rfl) ?_
                refine lv_iload hx hb dX5_errorOfOldName_107 (lv_at hl 0 rfl) ?_
                refine lv_icmp_eq (tgt := 114) hx hb dX5_errorOfOldName_109 (by decide) (fun cc => ?_) (fun cc => ?_)
                · have h := br_el h cc
                  refine lv_aload_n hx hb dX5_errorOfOldName_114 rfl (lv_at hl 6 rfl) ?_
                  refine lv_iload_n hx hb dX5_errorOfOldName_115 rfl (lv_at hl 7 rfl) ?_
                  refine lv_iload hx hb dX5_errorOfOldName_116 (lv_at hl 4 rfl) ?_
                  obtain ⟨w32, hf, h⟩ := bd0_el h
                  refine c_onv (c_runV (b := adr (gB G) 4 0) (As := [.int a2, .int r3]) (rest := []) hx hb hml hown hts hE hP hS (c_X11_mean l G hF a2 r3 w26 w32 hf) (c_rec hE hP (hp_sh hP hF 0 4 (by decide)) (by decide) rfl rfl) w3_146 miX11_mean ⟨Nat.le_of_ble_eq_true rfl, Nat.le_of_ble_eq_true rfl⟩ rfl hl.1 rfl (Nat.le_of_ble_eq_true rfl) dX5_errorOfOldName_118 hcs) hS (fun H locs hP hS => ?_)
                  refine lv_iconst (v := 0) hx hb dX5_errorOfOldName_121 (by decide) ?_
                  exact e_i hx hb hr rfl hlocks hP hS (Nat.le_of_ble_eq_true rfl) (Nat.le_of_ble_eq_true rfl) (Prod.mk.inj (so_el h)) dX5_errorOfOldName_122
                · have h := br_er h cc
                  refine lv_iconst (v := 3) hx hb dX5_errorOfOldName_112 (by decide) ?_
                  exact e_i hx hb hr rfl hlocks hP hS (Nat.le_of_ble_eq_true rfl) (Nat.le_of_ble_eq_true rfl) (Prod.mk.inj (so_el h)) dX5_errorOfOldName_113
          · have h := br_er h cc
            refine lv_iconst (v := 1) hx hb dX5_errorOfOldName_87 (by decide) ?_
            refine lv_goto (tgt := 92) hx hb dX5_errorOfOldName_88 (by decide) ?_
            refine lv_istore (i := 8) (lv' := [(8, .int 1), (7, .int 1), (6, .int 1), (5, kR G r5), (4, .int r3), (0, .ref (adr (gB G) 9 0)), (1, .ref (adr (gB G) 4 0)), (2, .int a2), (3, .ref (adr (gB G) 25 a3))]) hx hb dX5_errorOfOldName_92 hl (by decide) (by simp [kR, cat_rf, cat_ref, cat_int, cat_long, cat_null]) (fun ls hl => ?_)
            refine lv_iload hx hb dX5_errorOfOldName_94 (lv_at hl 4 rfl) ?_
            refine lv_iconst (v := (-1)) hx hb dX5_errorOfOldName_96 (by decide) ?_
            refine lv_icmp_eq (tgt := 112) hx hb dX5_errorOfOldName_97 (by decide) (fun cc => ?_) (fun cc => ?_)
            · have h := br_el h cc
              refine lv_iconst (v := 3) hx hb dX5_errorOfOldName_112 (by decide) ?_
              exact e_i hx hb hr rfl hlocks hP hS (Nat.le_of_ble_eq_true rfl) (Nat.le_of_ble_eq_true rfl) (Prod.mk.inj (so_el h)) dX5_errorOfOldName_113
            · have h := br_er h cc
              refine lv_iload hx hb dX5_errorOfOldName_100 (lv_at hl 2 rfl) ?_
              refine lv_if_ne (tgt := 114) hx hb dX5_errorOfOldName_102 (by decide) (fun cc => ?_) (fun cc => ?_)
              · have h := br_er h cc
                refine lv_aload_n hx hb dX5_errorOfOldName_114 rfl (lv_at hl 6 rfl) ?_
                refine lv_iload_n hx hb dX5_errorOfOldName_115 rfl (lv_at hl 7 rfl) ?_
                refine lv_iload hx hb dX5_errorOfOldName_116 (lv_at hl 4 rfl) ?_
                obtain ⟨w33, hf, h⟩ := bd0_el h
                refine c_onv (c_runV (b := adr (gB G) 4 0) (As := [.int a2, .int r3]) (rest := []) hx hb hml hown hts hE hP hS (c_X11_mean l G hF a2 r3 w26 w33 hf) (c_rec hE hP (hp_sh hP hF 0 4 (by decide)) (by decide) rfl rfl) w3_146 miX11_mean ⟨Nat.le_of_ble_eq_true rfl, Nat.le_of_ble_eq_true rfl⟩ rfl hl.1 rfl (Nat.le_of_ble_eq_true rfl) dX5_errorOfOldName_118 hcs) hS (fun H locs hP hS => ?_)
                refine lv_iconst (v := 0) hx hb dX5_errorOfOldName_121 (by decide) ?_
                exact e_i hx hb hr rfl hlocks hP hS (Nat.le_of_ble_eq_true rfl) (Nat.le_of_ble_eq_true rfl) (Prod.mk.inj (so_el h)) dX5_errorOfOldName_122
              · have h := br_el h cc
                refine lv_iload hx hb dX5_errorOfOldName_105 (lv_at hl 1 rfl) ?_
                refine lv_iload hx hb dX5_errorOfOldName_107 (lv_at hl 0 rfl) ?_
                refine lv_icmp_eq (tgt := 114) hx hb dX5_errorOfOldName_109 (by decide) (fun cc => ?_) (fun cc => ?_)
                · have h := br_el h cc
                  refine lv_aload_n hx hb dX5_errorOfOldName_114 rfl (lv_at hl 6 rfl) ?_
                  refine lv_iload_n hx hb dX5_errorOfOldName_115 rfl (lv_at hl 7 rfl) ?_
                  refine lv_iload hx hb dX5_errorOfOldName_116 (lv_at hl 4 rfl) ?_
                  obtain ⟨w34, hf, h⟩ := bd0_el h
                  refine c_onv (c_runV (b := adr (gB G) 4 0) (As := [.int a2, .int r3]) (rest := []) hx hb hml hown hts hE hP hS (c_X11_mean l G hF a2 r3 w26 w34 hf) (c_rec hE hP (hp_sh hP hF 0 4 (by decide)) (by decide) rfl rfl) w3_146 miX11_mean ⟨Nat.le_of_ble_eq_true rfl, Nat.le_of_ble_eq_true rfl⟩ rfl hl.1 rfl (Nat.le_of_ble_eq_true rfl) dX5_errorOfOldName_118 hcs) hS (fun H locs hP hS => ?_)
                  refine lv_iconst (v := 0) hx hb dX5_errorOfOldName_121 (by decide) ?_
                  exact e_i hx hb hr rfl hlocks hP hS (Nat.le_of_ble_eq_true rfl) (Nat.le_of_ble_eq_true rfl) (Prod.mk.inj (so_el h)) dX5_errorOfOldName_122
                · have h := br_er h cc
                  refine lv_iconst (v := 3) hx hb dX5_errorOfOldName_112 (by decide) ?_
                  exact e_i hx hb hr rfl hlocks hP hS (Nat.le_of_ble_eq_true rfl) (Nat.le_of_ble_eq_true rfl) (Prod.mk.inj (so_el h)) dX5_errorOfOldName_113
    · have h := br_er h cc
      refine k_aload hx hb dX5_errorOfOldName_37 (lv_at hl 0 rfl) ?_
      refine k_kind (i := 23) (nm := "HEARS") hx hb hE hS hown rfl (by decide) (hts _ w3_142) dX5_errorOfOldName_39 ?_
      refine k_acmp_ne (x := r5) (y := 24) (tgt := 49) hx hb hE dX5_errorOfOldName_42 (by decide) (fun cc => ?_) (fun cc => ?_)
      · have h := br_er h cc
        refine lv_iconst (v := 0) hx hb dX5_errorOfOldName_49 (by decide) ?_
        refine lv_istore (i := 6) (lv' := [(6, .int 0), (5, kR G r5), (4, .int r3), (0, .ref (adr (gB G) 9 0)), (1, .ref (adr (gB G) 4 0)), (2, .int a2), (3, .ref (adr (gB G) 25 a3))]) hx hb dX5_errorOfOldName_50 hl (by decide) (by simp [kR, cat_rf, cat_ref, cat_int, cat_long, cat_null]) (fun ls hl => ?_)
        refine k_aload hx hb dX5_errorOfOldName_52 (lv_at hl 1 rfl) ?_
        refine k_kind (i := 22) (nm := "OF") hx hb hE hS hown rfl (by decide) (hts _ w3_143) dX5_errorOfOldName_54 ?_
        refine k_acmp_ne (x := r5) (y := 23) (tgt := 77) hx hb hE dX5_errorOfOldName_57 (by decide) (fun cc => ?_) (fun cc => ?_)
        · have h := br_er h cc
          refine lv_iconst (v := 0) hx hb dX5_errorOfOldName_77 (by decide) ?_
          refine lv_istore (i := 7) (lv' := [(7, .int 0), (6, .int 0), (5, kR G r5), (4, .int r3), (0, .ref (adr (gB G) 9 0)), (1, .ref (adr (gB G) 4 0)), (2, .int a2), (3, .ref (adr (gB G) 25 a3))]) hx hb dX5_errorOfOldName_78 hl (by decide) (by simp [kR, cat_rf, cat_ref, cat_int, cat_long, cat_null]) (fun ls hl => ?_)
          refine lv_iload hx hb dX5_errorOfOldName_80 (lv_at hl 3 rfl) ?_
          refine lv_bipush (v := 8) hx hb dX5_errorOfOldName_82 (by decide) ?_
          refine lv_icmp_lt (tgt := 91) hx hb dX5_errorOfOldName_84 (by decide) (fun cc => ?_) (fun cc => ?_)
          · have h := br_el h cc
            refine lv_iconst (v := 0) hx hb dX5_errorOfOldName_91 (by decide) ?_
            refine lv_istore (i := 8) (lv' := [(8, .int 0), (7, .int 0), (6, .int 0), (5, kR G r5), (4, .int r3), (0, .ref (adr (gB G) 9 0)), (1, .ref (adr (gB G) 4 0)), (2, .int a2), (3, .ref (adr (gB G) 25 a3))]) hx hb dX5_errorOfOldName_92 hl (by decide) (by simp [kR, cat_rf, cat_ref, cat_int, cat_long, cat_null]) (fun ls hl => ?_)
            refine lv_iload hx hb dX5_errorOfOldName_94 (lv_at hl 4 rfl) ?_
            refine lv_iconst (v := (-1)) hx hb dX5_errorOfOldName_96 (by decide) ?_
            refine lv_icmp_eq (tgt := 112) hx hb dX5_errorOfOldName_97 (by decide) (fun cc => ?_) (fun cc => ?_)
            · have h := br_el h cc
              refine lv_iconst (v := 3) hx hb dX5_errorOfOldName_112 (by decide) ?_
              exact e_i hx hb hr rfl hlocks hP hS (Nat.le_of_ble_eq_true rfl) (Nat.le_of_ble_eq_true rfl) (Prod.mk.inj (so_el h)) dX5_errorOfOldName_113
            · have h := br_er h cc
              refine lv_iload hx hb dX5_errorOfOldName_100 (lv_at hl 2 rfl) ?_
              refine lv_if_ne (tgt := 114) hx hb dX5_errorOfOldName_102 (by decide) (fun cc => ?_) (fun cc => ?_)
              · have h := br_er h cc
                refine lv_aload_n hx hb dX5_errorOfOldName_114 rfl (lv_at hl 6 rfl) ?_
                refine lv_iload_n hx hb dX5_errorOfOldName_115 rfl (lv_at hl 7 rfl) ?_
                refine lv_iload hx hb dX5_errorOfOldName_116 (lv_at hl 4 rfl) ?_
                obtain ⟨w35, hf, h⟩ := bd0_el h
                refine c_onv (c_runV (b := adr (gB G) 4 0) (As := [.int a2, .int r3]) (rest := []) hx hb hml hown hts hE hP hS (c_X11_mean l G hF a2 r3 w6 w35 hf) (c_rec hE hP (hp_sh hP hF 0 4 (by decide)) (by decide) rfl rfl) w3_146 miX11_mean ⟨Nat.le_of_ble_eq_true rfl, Nat.le_of_ble_eq_true rfl⟩ rfl hl.1 rfl (Nat.le_of_ble_eq_true rfl) dX5_errorOfOldName_118 hcs) hS (fun H locs hP hS => ?_)
                refine lv_iconst (v := 0) hx hb dX5_errorOfOldName_121 (by decide) ?_
                exact e_i hx hb hr rfl hlocks hP hS (Nat.le_of_ble_eq_true rfl) (Nat.le_of_ble_eq_true rfl) (Prod.mk.inj (so_el h)) dX5_errorOfOldName_122
              · have h := br_el h cc
                refine lv_iload hx hb dX5_errorOfOldName_105 (lv_at hl 1 rfl) ?_
                refine lv_iload hx hb dX5_errorOfOldName_107 (lv_at hl 0 rfl) ?_
                refine lv_icmp_eq (tgt := 114) hx hb dX5_errorOfOldName_109 (by decide) (fun cc => ?_) (fun cc => ?_)
                · have h := br_el h cc
                  refine lv_aload_n hx hb dX5_errorOfOldName_114 rfl (lv_at hl 6 rfl) ?_
                  refine lv_iload_n hx hb dX5_errorOfOldName_115 rfl (lv_at hl 7 rfl) ?_
                  refine lv_iload hx hb dX5_errorOfOldName_116 (lv_at hl 4 rfl) ?_
                  obtain ⟨w36, hf, h⟩ := bd0_el h
                  refine c_onv (c_runV (b := adr (gB G) 4 0) (As := [.int a2, .int r3]) (rest := []) hx hb hml hown hts hE hP hS (c_X11_mean l G hF a2 r3 w6 w36 hf) (c_rec hE hP (hp_sh hP hF 0 4 (by decide)) (by decide) rfl rfl) w3_146 miX11_mean ⟨Nat.le_of_ble_eq_true rfl, Nat.le_of_ble_eq_true rfl⟩ rfl hl.1 rfl (Nat.le_of_ble_eq_true rfl) dX5_errorOfOldName_118 hcs) hS (fun H locs hP hS => ?_)
                  refine lv_iconst (v := 0) hx hb dX5_errorOfOldName_121 (by decide) ?_
                  exact e_i hx hb hr rfl hlocks hP hS (Nat.le_of_ble_eq_true rfl) (Nat.le_of_ble_eq_true rfl) (Prod.mk.inj (so_el h)) dX5_errorOfOldName_122
                · have h := br_er h cc
                  refine lv_iconst (v := 3) hx hb dX5_errorOfOldName_112 (by decide) ?_
                  exact e_i hx hb hr rfl hlocks hP hS (Nat.le_of_ble_eq_true rfl) (Nat.le_of_ble_eq_true rfl) (Prod.mk.inj (so_el h)) dX5_errorOfOldName_113
          · have h := br_er h cc
            refine lv_iconst (v := 1) hx hb dX5_errorOfOldName_87 (by decide) ?_
            refine lv_goto (tgt := 92) hx hb dX5_errorOfOldName_88 (by decide) ?_
            refine lv_istore (i := 8) (lv' := [(8, .int 1), (7, .int 0), (6, .int 0), (5, kR G r5), (4, .int r3), (0, .ref (adr (gB G) 9 0)), (1, .ref (adr (gB G) 4 0)), (2, .int a2), (3, .ref (adr (gB G) 25 a3))]) hx hb dX5_errorOfOldName_92 hl (by decide) (by simp [kR, cat_rf, cat_ref, cat_int, cat_long, cat_null]) (fun ls hl => ?_)
            refine lv_iload hx hb dX5_errorOfOldName_94 (lv_at hl 4 rfl) ?_
            refine lv_iconst (v := (-1)) hx hb dX5_errorOfOldName_96 (by decide) ?_
            refine lv_icmp_eq (tgt := 112) hx hb dX5_errorOfOldName_97 (by decide) (fun cc => ?_) (fun cc => ?_)
            · have h := br_el h cc
              refine lv_iconst (v := 3) hx hb dX5_errorOfOldName_112 (by decide) ?_
              exact e_i hx hb hr rfl hlocks hP hS (Nat.le_of_ble_eq_true rfl) (Nat.le_of_ble_eq_true rfl) (Prod.mk.inj (so_el h)) dX5_errorOfOldName_113
            · have h := br_er h cc
              refine lv_iload hx hb dX5_errorOfOldName_100 (lv_at hl 2 rfl) ?_
              refine lv_if_ne (tgt := 114) hx hb dX5_errorOfOldName_102 (by decide) (fun cc => ?_) (fun cc => ?_)
              · have h := br_er h cc
                refine lv_aload_n hx hb dX5_errorOfOldName_114 rfl (lv_at hl 6 rfl) ?_
                refine lv_iload_n hx hb dX5_errorOfOldName_115 rfl (lv_at hl 7 rfl) ?_
                refine lv_iload hx hb dX5_errorOfOldName_116 (lv_at hl 4 rfl) ?_
                obtain ⟨w37, hf, h⟩ := bd0_el h
                refine c_onv (c_runV (b := adr (gB G) 4 0) (As := [.int a2, .int r3]) (rest := []) hx hb hml hown hts hE hP hS (c_X11_mean l G hF a2 r3 w6 w37 hf) (c_rec hE hP (hp_sh hP hF 0 4 (by decide)) (by decide) rfl rfl) w3_146 miX11_mean ⟨Nat.le_of_ble_eq_true rfl, Nat.le_of_ble_eq_true rfl⟩ rfl hl.1 rfl (Nat.le_of_ble_eq_true rfl) dX5_errorOfOldName_118 hcs) hS (fun H locs hP hS => ?_)
                refine lv_iconst (v := 0) hx hb dX5_errorOfOldName_121 (by decide) ?_
                exact e_i hx hb hr rfl hlocks hP hS (Nat.le_of_ble_eq_true rfl) (Nat.le_of_ble_eq_true rfl) (Prod.mk.inj (so_el h)) dX5_errorOfOldName_122
              · have h := br_el h cc
                refine lv_iload hx hb dX5_errorOfOldName_105 (lv_at hl 1 rfl) ?_
                refine lv_iload hx hb dX5_errorOfOldName_107 (lv_at hl 0 rfl) ?_
                refine lv_icmp_eq (tgt := 114) hx hb dX5_errorOfOldName_109 (by decide) (fun cc => ?_) (fun cc => ?_)
                · have h := br_el h cc
                  refine lv_aload_n hx hb dX5_errorOfOldName_114 rfl (lv_at hl 6 rfl) ?_
                  refine lv_iload_n hx hb dX5_errorOfOldName_115 rfl (lv_at hl 7 rfl) ?_
                  refine lv_iload hx hb dX5_errorOfOldName_116 (lv_at hl 4 rfl) ?_
                  obtain ⟨w38, hf, h⟩ := bd0_el h
                  refine c_onv (c_runV (b := adr (gB G) 4 0) (As := [.int a2, .int r3]) (rest := []) hx hb hml hown hts hE hP hS (c_X11_mean l G hF a2 r3 w6 w38 hf) (c_rec hE hP (hp_sh hP hF 0 4 (by decide)) (by decide) rfl rfl) w3_146 miX11_mean ⟨Nat.le_of_ble_eq_true rfl, Nat.le_of_ble_eq_true rfl⟩ rfl hl.1 rfl (Nat.le_of_ble_eq_true rfl) dX5_errorOfOldName_118 hcs) hS (fun H locs hP hS => ?_)
                  refine lv_iconst (v := 0) hx hb dX5_errorOfOldName_121 (by decide) ?_
                  exact e_i hx hb hr rfl hlocks hP hS (Nat.le_of_ble_eq_true rfl) (Nat.le_of_ble_eq_true rfl) (Prod.mk.inj (so_el h)) dX5_errorOfOldName_122
                · have h := br_er h cc
                  refine lv_iconst (v := 3) hx hb dX5_errorOfOldName_112 (by decide) ?_
                  exact e_i hx hb hr rfl hlocks hP hS (Nat.le_of_ble_eq_true rfl) (Nat.le_of_ble_eq_true rfl) (Prod.mk.inj (so_el h)) dX5_errorOfOldName_113
        · have h := br_el h cc
          refine lv_aload_n hx hb dX5_errorOfOldName_60 rfl (lv_at hl 4 rfl) ?_
          refine lv_iload_n hx hb dX5_errorOfOldName_61 rfl (lv_at hl 5 rfl) ?_
          refine lv_iconst (v := 2) hx hb dX5_errorOfOldName_62 (by decide) ?_
          refine lv_isub hx hb dX5_errorOfOldName_63 ?_
          obtain ⟨r39, w40, hf, h⟩ := bd1_el h
          refine c_onq (c_runV (b := adr (gB G) 4 0) (As := [.int (a2 - 2)]) (rest := []) hx hb hml hown hts hE hP hS (c_X11_kind l G hF (a2 - 2) w6 r39 w40 hf) (c_rec hE hP (hp_sh hP hF 0 4 (by decide)) (by decide) rfl rfl) w3_82 miX11_kind ⟨Nat.le_of_ble_eq_true rfl, Nat.le_of_ble_eq_true rfl⟩ rfl hl.1 rfl (Nat.le_of_ble_eq_true rfl) dX5_errorOfOldName_64 hcs) hS (fun H locs hP hS => ?_)
          refine k_kind (i := 21) (nm := "PETALS") hx hb hE hS hown rfl (by decide) (hts _ w3_144) dX5_errorOfOldName_67 ?_
          refine k_acmp_ne (x := r39) (y := 22) (tgt := 77) hx hb hE dX5_errorOfOldName_70 (by decide) (fun cc => ?_) (fun cc => ?_)
          · have h := br_er h cc
            refine lv_iconst (v := 0) hx hb dX5_errorOfOldName_77 (by decide) ?_
            refine lv_istore (i := 7) (lv' := [(7, .int 0), (6, .int 0), (5, kR G r5), (4, .int r3), (0, .ref (adr (gB G) 9 0)), (1, .ref (adr (gB G) 4 0)), (2, .int a2), (3, .ref (adr (gB G) 25 a3))]) hx hb dX5_errorOfOldName_78 hl (by decide) (by simp [kR, cat_rf, cat_ref, cat_int, cat_long, cat_null]) (fun ls hl => ?_)
            refine lv_iload hx hb dX5_errorOfOldName_80 (lv_at hl 3 rfl) ?_
            refine lv_bipush (v := 8) hx hb dX5_errorOfOldName_82 (by decide) ?_
            refine lv_icmp_lt (tgt := 91) hx hb dX5_errorOfOldName_84 (by decide) (fun cc => ?_) (fun cc => ?_)
            · have h := br_el h cc
              refine lv_iconst (v := 0) hx hb dX5_errorOfOldName_91 (by decide) ?_
              refine lv_istore (i := 8) (lv' := [(8, .int 0), (7, .int 0), (6, .int 0), (5, kR G r5), (4, .int r3), (0, .ref (adr (gB G) 9 0)), (1, .ref (adr (gB G) 4 0)), (2, .int a2), (3, .ref (adr (gB G) 25 a3))]) hx hb dX5_errorOfOldName_92 hl (by decide) (by simp [kR, cat_rf, cat_ref, cat_int, cat_long, cat_null]) (fun ls hl => ?_)
              refine lv_iload hx hb dX5_errorOfOldName_94 (lv_at hl 4 rfl) ?_
              refine lv_iconst (v := (-1)) hx hb dX5_errorOfOldName_96 (by decide) ?_
              refine lv_icmp_eq (tgt := 112) hx hb dX5_errorOfOldName_97 (by decide) (fun cc => ?_) (fun cc => ?_)
              · have h := br_el h cc
                refine lv_iconst (v := 3) hx hb dX5_errorOfOldName_112 (by decide) ?_
                exact e_i hx hb hr rfl hlocks hP hS (Nat.le_of_ble_eq_true rfl) (Nat.le_of_ble_eq_true rfl) (Prod.mk.inj (so_el h)) dX5_errorOfOldName_113
              · have h := br_er h cc
                refine lv_iload hx hb dX5_errorOfOldName_100 (lv_at hl 2 rfl) ?_
                refine lv_if_ne (tgt := 114) hx hb dX5_errorOfOldName_102 (by decide) (fun cc => ?_) (fun cc => ?_)
                · have h := br_er h cc
                  refine lv_aload_n hx hb dX5_errorOfOldName_114 rfl (lv_at hl 6 rfl) ?_
                  refine lv_iload_n hx hb dX5_errorOfOldName_115 rfl (lv_at hl 7 rfl) ?_
                  refine lv_iload hx hb dX5_errorOfOldName_116 (lv_at hl 4 rfl) ?_
                  obtain ⟨w41, hf, h⟩ := bd0_el h
                  refine c_onv (c_runV (b := adr (gB G) 4 0) (As := [.int a2, .int r3]) (rest := []) hx hb hml hown hts hE hP hS (c_X11_mean l G hF a2 r3 w40 w41 hf) (c_rec hE hP (hp_sh hP hF 0 4 (by decide)) (by decide) rfl rfl) w3_146 miX11_mean ⟨Nat.le_of_ble_eq_true rfl, Nat.le_of_ble_eq_true rfl⟩ rfl hl.1 rfl (Nat.le_of_ble_eq_true rfl) dX5_errorOfOldName_118 hcs) hS (fun H locs hP hS => ?_)
                  refine lv_iconst (v := 0) hx hb dX5_errorOfOldName_121 (by decide) ?_
                  exact e_i hx hb hr rfl hlocks hP hS (Nat.le_of_ble_eq_true rfl) (Nat.le_of_ble_eq_true rfl) (Prod.mk.inj (so_el h)) dX5_errorOfOldName_122
                · have h := br_el h cc
                  refine lv_iload hx hb dX5_errorOfOldName_105 (lv_at hl 1 rfl) ?_
                  refine lv_iload hx hb dX5_errorOfOldName_107 (lv_at hl 0 rfl) ?_
                  refine lv_icmp_eq (tgt := 114) hx hb dX5_errorOfOldName_109 (by decide) (fun cc => ?_) (fun cc => ?_)
                  · have h := br_el h cc
                    refine lv_aload_n hx hb dX5_errorOfOldName_114 rfl (lv_at hl 6 rfl) ?_
                    refine lv_iload_n hx hb dX5_errorOfOldName_115 rfl (lv_at hl 7 rfl) ?_
                    refine lv_iload hx hb dX5_errorOfOldName_116 (lv_at hl 4 rfl) ?_
                    obtain ⟨w42, hf, h⟩ := bd0_el h
                    refine c_onv (c_runV (b := adr (gB G) 4 0) (As := [.int a2, .int r3]) (rest := []) hx hb hml hown hts hE hP hS (c_X11_mean l G hF a2 r3 w40 w42 hf) (c_rec hE hP (hp_sh hP hF 0 4 (by decide)) (by decide) rfl rfl) w3_146 miX11_mean ⟨Nat.le_of_ble_eq_true rfl, Nat.le_of_ble_eq_true rfl⟩ rfl hl.1 rfl (Nat.le_of_ble_eq_true rfl) dX5_errorOfOldName_118 hcs) hS (fun H locs hP hS => ?_)
                    refine lv_iconst (v := 0) hx hb dX5_errorOfOldName_121 (by decide) ?_
                    exact e_i hx hb hr rfl hlocks hP hS (Nat.le_of_ble_eq_true rfl) (Nat.le_of_ble_eq_true rfl) (Prod.mk.inj (so_el h)) dX5_errorOfOldName_122
                  · have h := br_er h cc
                    refine lv_iconst (v := 3) hx hb dX5_errorOfOldName_112 (by decide) ?_
                    exact e_i hx hb hr rfl hlocks hP hS (Nat.le_of_ble_eq_true rfl) (Nat.le_of_ble_eq_true rfl) (Prod.mk.inj (so_el h)) dX5_errorOfOldName_113
            · have h := br_er h cc
              refine lv_iconst (v := 1) hx hb dX5_errorOfOldName_87 (by decide) ?_
              refine lv_goto (tgt := 92) hx hb dX5_errorOfOldName_88 (by decide) ?_
              refine lv_istore (i := 8) (lv' := [(8, .int 1), (7, .int 0), (6, .int 0), (5, kR G r5), (4, .int r3), (0, .ref (adr (gB G) 9 0)), (1, .ref (adr (gB G) 4 0)), (2, .int a2), (3, .ref (adr (gB G) 25 a3))]) hx hb dX5_errorOfOldName_92 hl (by decide) (by simp [kR, cat_rf, cat_ref, cat_int, cat_long, cat_null]) (fun ls hl => ?_)
              refine lv_iload hx hb dX5_errorOfOldName_94 (lv_at hl 4 rfl) ?_
              refine lv_iconst (v := (-1)) hx hb dX5_errorOfOldName_96 (by decide) ?_
              refine lv_icmp_eq (tgt := 112) hx hb dX5_errorOfOldName_97 (by decide) (fun cc => ?_) (fun cc => ?_)
              · have h := br_el h cc
                refine lv_iconst (v := 3) hx hb dX5_errorOfOldName_112 (by decide) ?_
                exact e_i hx hb hr rfl hlocks hP hS (Nat.le_of_ble_eq_true rfl) (Nat.le_of_ble_eq_true rfl) (Prod.mk.inj (so_el h)) dX5_errorOfOldName_113
              · have h := br_er h cc
                refine lv_iload hx hb dX5_errorOfOldName_100 (lv_at hl 2 rfl) ?_
                refine lv_if_ne (tgt := 114) hx hb dX5_errorOfOldName_102 (by decide) (fun cc => ?_) (fun cc => ?_)
                · have h := br_er h cc
                  refine lv_aload_n hx hb dX5_errorOfOldName_114 rfl (lv_at hl 6 rfl) ?_
                  refine lv_iload_n hx hb dX5_errorOfOldName_115 rfl (lv_at hl 7 rfl) ?_
                  refine lv_iload hx hb dX5_errorOfOldName_116 (lv_at hl 4 rfl) ?_
                  obtain ⟨w43, hf, h⟩ := bd0_el h
                  refine c_onv (c_runV (b := adr (gB G) 4 0) (As := [.int a2, .int r3]) (rest := []) hx hb hml hown hts hE hP hS (c_X11_mean l G hF a2 r3 w40 w43 hf) (c_rec hE hP (hp_sh hP hF 0 4 (by decide)) (by decide) rfl rfl) w3_146 miX11_mean ⟨Nat.le_of_ble_eq_true rfl, Nat.le_of_ble_eq_true rfl⟩ rfl hl.1 rfl (Nat.le_of_ble_eq_true rfl) dX5_errorOfOldName_118 hcs) hS (fun H locs hP hS => ?_)
                  refine lv_iconst (v := 0) hx hb dX5_errorOfOldName_121 (by decide) ?_
                  exact e_i hx hb hr rfl hlocks hP hS (Nat.le_of_ble_eq_true rfl) (Nat.le_of_ble_eq_true rfl) (Prod.mk.inj (so_el h)) dX5_errorOfOldName_122
                · have h := br_el h cc
                  refine lv_iload hx hb dX5_errorOfOldName_105 (lv_at hl 1 rfl) ?_
                  refine lv_iload hx hb dX5_errorOfOldName_107 (lv_at hl 0 rfl) ?_
                  refine lv_icmp_eq (tgt := 114) hx hb dX5_errorOfOldName_109 (by decide) (fun cc => ?_) (fun cc => ?_)
                  · have h := br_el h cc
                    refine lv_aload_n hx hb dX5_errorOfOldName_114 rfl (lv_at hl 6 rfl) ?_
                    refine lv_iload_n hx hb dX5_errorOfOldName_115 rfl (lv_at hl 7 rfl) ?_
                    refine lv_iload hx hb dX5_errorOfOldName_116 (lv_at hl 4 rfl) ?_
                    obtain ⟨w44, hf, h⟩ := bd0_el h
                    refine c_onv (c_runV (b := adr (gB G) 4 0) (As := [.int a2, .int r3]) (rest := []) hx hb hml hown hts hE hP hS (c_X11_mean l G hF a2 r3 w40 w44 hf) (c_rec hE hP (hp_sh hP hF 0 4 (by decide)) (by decide) rfl rfl) w3_146 miX11_mean ⟨Nat.le_of_ble_eq_true rfl, Nat.le_of_ble_eq_true rfl⟩ rfl hl.1 rfl (Nat.le_of_ble_eq_true rfl) dX5_errorOfOldName_118 hcs) hS (fun H locs hP hS => ?_)
                    refine lv_iconst (v := 0) hx hb dX5_errorOfOldName_121 (by decide) ?_
                    exact e_i hx hb hr rfl hlocks hP hS (Nat.le_of_ble_eq_true rfl) (Nat.le_of_ble_eq_true rfl) (Prod.mk.inj (so_el h)) dX5_errorOfOldName_122
                  · have h := br_er h cc
                    refine lv_iconst (v := 3) hx hb dX5_errorOfOldName_112 (by decide) ?_
                    exact e_i hx hb hr rfl hlocks hP hS (Nat.le_of_ble_eq_true rfl) (Nat.le_of_ble_eq_true rfl) (Prod.mk.inj (so_el h)) dX5_errorOfOldName_113
          · have h := br_el h cc
            refine lv_iconst (v := 1) hx hb dX5_errorOfOldName_73 (by decide) ?_
            refine lv_goto (tgt := 78) hx hb dX5_errorOfOldName_74 (by decide) ?_
            refine lv_istore (i := 7) (lv' := [(7, .int 1), (6, .int 0), (5, kR G r5), (4, .int r3), (0, .ref (adr (gB G) 9 0)), (1, .ref (adr (gB G) 4 0)), (2, .int a2), (3, .ref (adr (gB G) 25 a3))]) hx hb dX5_errorOfOldName_78 hl (by decide) (by simp [kR, cat_rf, cat_ref, cat_int, cat_long, cat_null]) (fun ls hl => ?_)
            refine lv_iload hx hb dX5_errorOfOldName_80 (lv_at hl 3 rfl) ?_
            refine lv_bipush (v := 8) hx hb dX5_errorOfOldName_82 (by decide) ?_
            refine lv_icmp_lt (tgt := 91) hx hb dX5_errorOfOldName_84 (by decide) (fun cc => ?_) (fun cc => ?_)
            · have h := br_el h cc
              refine lv_iconst (v := 0) hx hb dX5_errorOfOldName_91 (by decide) ?_
              refine lv_istore (i := 8) (lv' := [(8, .int 0), (7, .int 1), (6, .int 0), (5, kR G r5), (4, .int r3), (0, .ref (adr (gB G) 9 0)), (1, .ref (adr (gB G) 4 0)), (2, .int a2), (3, .ref (adr (gB G) 25 a3))]) hx hb dX5_errorOfOldName_92 hl (by decide) (by simp [kR, cat_rf, cat_ref, cat_int, cat_long, cat_null]) (fun ls hl => ?_)
              refine lv_iload hx hb dX5_errorOfOldName_94 (lv_at hl 4 rfl) ?_
              refine lv_iconst (v := (-1)) hx hb dX5_errorOfOldName_96 (by decide) ?_
              refine lv_icmp_eq (tgt := 112) hx hb dX5_errorOfOldName_97 (by decide) (fun cc => ?_) (fun cc => ?_)
              · have h := br_el h cc
                refine lv_iconst (v := 3) hx hb dX5_errorOfOldName_112 (by decide) ?_
                exact e_i hx hb hr rfl hlocks hP hS (Nat.le_of_ble_eq_true rfl) (Nat.le_of_ble_eq_true rfl) (Prod.mk.inj (so_el h)) dX5_errorOfOldName_113
              · have h := br_er h cc
                refine lv_iload hx hb dX5_errorOfOldName_100 (lv_at hl 2 rfl) ?_
                refine lv_if_ne (tgt := 114) hx hb dX5_errorOfOldName_102 (by decide) (fun cc => ?_) (fun cc => ?_)
                · have h := br_er h cc
                  refine lv_aload_n hx hb dX5_errorOfOldName_114 rfl (lv_at hl 6 rfl) ?_
                  refine lv_iload_n hx hb dX5_errorOfOldName_115 rfl (lv_at hl 7 rfl) ?_
                  refine lv_iload hx hb dX5_errorOfOldName_116 (lv_at hl 4 rfl) ?_
                  obtain ⟨w45, hf, h⟩ := bd0_el h
                  refine c_onv (c_runV (b := adr (gB G) 4 0) (As := [.int a2, .int r3]) (rest := []) hx hb hml hown hts hE hP hS (c_X11_mean l G hF a2 r3 w40 w45 hf) (c_rec hE hP (hp_sh hP hF 0 4 (by decide)) (by decide) rfl rfl) w3_146 miX11_mean ⟨Nat.le_of_ble_eq_true rfl, Nat.le_of_ble_eq_true rfl⟩ rfl hl.1 rfl (Nat.le_of_ble_eq_true rfl) dX5_errorOfOldName_118 hcs) hS (fun H locs hP hS => ?_)
                  refine lv_iconst (v := 0) hx hb dX5_errorOfOldName_121 (by decide) ?_
                  exact e_i hx hb hr rfl hlocks hP hS (Nat.le_of_ble_eq_true rfl) (Nat.le_of_ble_eq_true rfl) (Prod.mk.inj (so_el h)) dX5_errorOfOldName_122
                · have h := br_el h cc
                  refine lv_iload hx hb dX5_errorOfOldName_105 (lv_at hl 1 rfl) ?_
                  refine lv_iload hx hb dX5_errorOfOldName_107 (lv_at hl 0 rfl) ?_
                  refine lv_icmp_eq (tgt := 114) hx hb dX5_errorOfOldName_109 (by decide) (fun cc => ?_) (fun cc => ?_)
                  · have h := br_el h cc
                    refine lv_aload_n hx hb dX5_errorOfOldName_114 rfl (lv_at hl 6 rfl) ?_
                    refine lv_iload_n hx hb dX5_errorOfOldName_115 rfl (lv_at hl 7 rfl) ?_
                    refine lv_iload hx hb dX5_errorOfOldName_116 (lv_at hl 4 rfl) ?_
                    obtain ⟨w46, hf, h⟩ := bd0_el h
                    refine c_onv (c_runV (b := adr (gB G) 4 0) (As := [.int a2, .int r3]) (rest := []) hx hb hml hown hts hE hP hS (c_X11_mean l G hF a2 r3 w40 w46 hf) (c_rec hE hP (hp_sh hP hF 0 4 (by decide)) (by decide) rfl rfl) w3_146 miX11_mean ⟨Nat.le_of_ble_eq_true rfl, Nat.le_of_ble_eq_true rfl⟩ rfl hl.1 rfl (Nat.le_of_ble_eq_true rfl) dX5_errorOfOldName_118 hcs) hS (fun H locs hP hS => ?_)
                    refine lv_iconst (v := 0) hx hb dX5_errorOfOldName_121 (by decide) ?_
                    exact e_i hx hb hr rfl hlocks hP hS (Nat.le_of_ble_eq_true rfl) (Nat.le_of_ble_eq_true rfl) (Prod.mk.inj (so_el h)) dX5_errorOfOldName_122
                  · have h := br_er h cc
                    refine lv_iconst (v := 3) hx hb dX5_errorOfOldName_112 (by decide) ?_
                    exact e_i hx hb hr rfl hlocks hP hS (Nat.le_of_ble_eq_true rfl) (Nat.le_of_ble_eq_true rfl) (Prod.mk.inj (so_el h)) dX5_errorOfOldName_113
            · have h := br_er h cc
              refine lv_iconst (v := 1) hx hb dX5_errorOfOldName_87 (by decide) ?_
              refine lv_goto (tgt := 92) hx hb dX5_errorOfOldName_88 (by decide) ?_
              refine lv_istore (i := 8) (lv' := [(8, .int 1), (7, .int 1), (6, .int 0), (5, kR G r5), (4, .int r3), (0, .ref (adr (gB G) 9 0)), (1, .ref (adr (gB G) 4 0)), (2, .int a2), (3, .ref (adr (gB G) 25 a3))]) hx hb dX5_errorOfOldName_92 hl (by decide) (by simp [kR, cat_rf, cat_ref, cat_int, cat_long, cat_null]) (fun ls hl => ?_)
              refine lv_iload hx hb dX5_errorOfOldName_94 (lv_at hl 4 rfl) ?_
              refine lv_iconst (v := (-1)) hx hb dX5_errorOfOldName_96 (by decide) ?_
              refine lv_icmp_eq (tgt := 112) hx hb dX5_errorOfOldName_97 (by decide) (fun cc => ?_) (fun cc => ?_)
              · have h := br_el h cc
                refine lv_iconst (v := 3) hx hb dX5_errorOfOldName_112 (by decide) ?_
                exact e_i hx hb hr rfl hlocks hP hS (Nat.le_of_ble_eq_true rfl) (Nat.le_of_ble_eq_true rfl) (Prod.mk.inj (so_el h)) dX5_errorOfOldName_113
              · have h := br_er h cc
                refine lv_iload hx hb dX5_errorOfOldName_100 (lv_at hl 2 rfl) ?_
                refine lv_if_ne (tgt := 114) hx hb dX5_errorOfOldName_102 (by decide) (fun cc => ?_) (fun cc => ?_)
                · have h := br_er h cc
                  refine lv_aload_n hx hb dX5_errorOfOldName_114 rfl (lv_at hl 6 rfl) ?_
                  refine lv_iload_n hx hb dX5_errorOfOldName_115 rfl (lv_at hl 7 rfl) ?_
                  refine lv_iload hx hb dX5_errorOfOldName_116 (lv_at hl 4 rfl) ?_
                  obtain ⟨w47, hf, h⟩ := bd0_el h
                  refine c_onv (c_runV (b := adr (gB G) 4 0) (As := [.int a2, .int r3]) (rest := []) hx hb hml hown hts hE hP hS (c_X11_mean l G hF a2 r3 w40 w47 hf) (c_rec hE hP (hp_sh hP hF 0 4 (by decide)) (by decide) rfl rfl) w3_146 miX11_mean ⟨Nat.le_of_ble_eq_true rfl, Nat.le_of_ble_eq_true rfl⟩ rfl hl.1 rfl (Nat.le_of_ble_eq_true rfl) dX5_errorOfOldName_118 hcs) hS (fun H locs hP hS => ?_)
                  refine lv_iconst (v := 0) hx hb dX5_errorOfOldName_121 (by decide) ?_
                  exact e_i hx hb hr rfl hlocks hP hS (Nat.le_of_ble_eq_true rfl) (Nat.le_of_ble_eq_true rfl) (Prod.mk.inj (so_el h)) dX5_errorOfOldName_122
                · have h := br_el h cc
                  refine lv_iload hx hb dX5_errorOfOldName_105 (lv_at hl 1 rfl) ?_
                  refine lv_iload hx hb dX5_errorOfOldName_107 (lv_at hl 0 rfl) ?_
                  refine lv_icmp_eq (tgt := 114) hx hb dX5_errorOfOldName_109 (by decide) (fun cc => ?_) (fun cc => ?_)
                  · have h := br_el h cc
                    refine lv_aload_n hx hb dX5_errorOfOldName_114 rfl (lv_at hl 6 rfl) ?_
                    refine lv_iload_n hx hb dX5_errorOfOldName_115 rfl (lv_at hl 7 rfl) ?_
                    refine lv_iload hx hb dX5_errorOfOldName_116 (lv_at hl 4 rfl) ?_
                    obtain ⟨w48, hf, h⟩ := bd0_el h
                    refine c_onv (c_runV (b := adr (gB G) 4 0) (As := [.int a2, .int r3]) (rest := []) hx hb hml hown hts hE hP hS (c_X11_mean l G hF a2 r3 w40 w48 hf) (c_rec hE hP (hp_sh hP hF 0 4 (by decide)) (by decide) rfl rfl) w3_146 miX11_mean ⟨Nat.le_of_ble_eq_true rfl, Nat.le_of_ble_eq_true rfl⟩ rfl hl.1 rfl (Nat.le_of_ble_eq_true rfl) dX5_errorOfOldName_118 hcs) hS (fun H locs hP hS => ?_)
                    refine lv_iconst (v := 0) hx hb dX5_errorOfOldName_121 (by decide) ?_
                    exact e_i hx hb hr rfl hlocks hP hS (Nat.le_of_ble_eq_true rfl) (Nat.le_of_ble_eq_true rfl) (Prod.mk.inj (so_el h)) dX5_errorOfOldName_122
                  · have h := br_er h cc
                    refine lv_iconst (v := 3) hx hb dX5_errorOfOldName_112 (by decide) ?_
                    exact e_i hx hb hr rfl hlocks hP hS (Nat.le_of_ble_eq_true rfl) (Nat.le_of_ble_eq_true rfl) (Prod.mk.inj (so_el h)) dX5_errorOfOldName_113
      · have h := br_el h cc
        refine lv_iconst (v := 1) hx hb dX5_errorOfOldName_45 (by decide) ?_
        refine lv_goto (tgt := 50) hx hb dX5_errorOfOldName_46 (by decide) ?_
        refine lv_istore (i := 6) (lv' := [(6, .int 1), (5, kR G r5), (4, .int r3), (0, .ref (adr (gB G) 9 0)), (1, .ref (adr (gB G) 4 0)), (2, .int a2), (3, .ref (adr (gB G) 25 a3))]) hx hb dX5_errorOfOldName_50 hl (by decide) (by simp [kR, cat_rf, cat_ref, cat_int, cat_long, cat_null]) (fun ls hl => ?_)
        refine k_aload hx hb dX5_errorOfOldName_52 (lv_at hl 1 rfl) ?_
        refine k_kind (i := 22) (nm := "OF") hx hb hE hS hown rfl (by decide) (hts _ w3_143) dX5_errorOfOldName_54 ?_
        refine k_acmp_ne (x := r5) (y := 23) (tgt := 77) hx hb hE dX5_errorOfOldName_57 (by decide) (fun cc => ?_) (fun cc => ?_)
        · have h := br_er h cc
          refine lv_iconst (v := 0) hx hb dX5_errorOfOldName_77 (by decide) ?_
          refine lv_istore (i := 7) (lv' := [(7, .int 0), (6, .int 1), (5, kR G r5), (4, .int r3), (0, .ref (adr (gB G) 9 0)), (1, .ref (adr (gB G) 4 0)), (2, .int a2), (3, .ref (adr (gB G) 25 a3))]) hx hb dX5_errorOfOldName_78 hl (by decide) (by simp [kR, cat_rf, cat_ref, cat_int, cat_long, cat_null]) (fun ls hl => ?_)
          refine lv_iload hx hb dX5_errorOfOldName_80 (lv_at hl 3 rfl) ?_
          refine lv_bipush (v := 8) hx hb dX5_errorOfOldName_82 (by decide) ?_
          refine lv_icmp_lt (tgt := 91) hx hb dX5_errorOfOldName_84 (by decide) (fun cc => ?_) (fun cc => ?_)
          · have h := br_el h cc
            refine lv_iconst (v := 0) hx hb dX5_errorOfOldName_91 (by decide) ?_
            refine lv_istore (i := 8) (lv' := [(8, .int 0), (7, .int 0), (6, .int 1), (5, kR G r5), (4, .int r3), (0, .ref (adr (gB G) 9 0)), (1, .ref (adr (gB G) 4 0)), (2, .int a2), (3, .ref (adr (gB G) 25 a3))]) hx hb dX5_errorOfOldName_92 hl (by decide) (by simp [kR, cat_rf, cat_ref, cat_int, cat_long, cat_null]) (fun ls hl => ?_)
            refine lv_iload hx hb dX5_errorOfOldName_94 (lv_at hl 4 rfl) ?_
            refine lv_iconst (v := (-1)) hx hb dX5_errorOfOldName_96 (by decide) ?_
            refine lv_icmp_eq (tgt := 112) hx hb dX5_errorOfOldName_97 (by decide) (fun cc => ?_) (fun cc => ?_)
            · have h := br_el h cc
              refine lv_iconst (v := 3) hx hb dX5_errorOfOldName_112 (by decide) ?_
              exact e_i hx hb hr rfl hlocks hP hS (Nat.le_of_ble_eq_true rfl) (Nat.le_of_ble_eq_true rfl) (Prod.mk.inj (so_el h)) dX5_errorOfOldName_113
            · have h := br_er h cc
              refine lv_iload hx hb dX5_errorOfOldName_100 (lv_at hl 2 rfl) ?_
              refine lv_if_ne (tgt := 114) hx hb dX5_errorOfOldName_102 (by decide) (fun cc => ?_) (fun cc => ?_)
              · have h := br_er h cc
                refine lv_aload_n hx hb dX5_errorOfOldName_114 rfl (lv_at hl 6 rfl) ?_
                refine lv_iload_n hx hb dX5_errorOfOldName_115 rfl (lv_at hl 7 rfl) ?_
                refine lv_iload hx hb dX5_errorOfOldName_116 (lv_at hl 4 rfl) ?_
                obtain ⟨w49, hf, h⟩ := bd0_el h
                refine c_onv (c_runV (b := adr (gB G) 4 0) (As := [.int a2, .int r3]) (rest := []) hx hb hml hown hts hE hP hS (c_X11_mean l G hF a2 r3 w6 w49 hf) (c_rec hE hP (hp_sh hP hF 0 4 (by decide)) (by decide) rfl rfl) w3_146 miX11_mean ⟨Nat.le_of_ble_eq_true rfl, Nat.le_of_ble_eq_true rfl⟩ rfl hl.1 rfl (Nat.le_of_ble_eq_true rfl) dX5_errorOfOldName_118 hcs) hS (fun H locs hP hS => ?_)
                refine lv_iconst (v := 0) hx hb dX5_errorOfOldName_121 (by decide) ?_
                exact e_i hx hb hr rfl hlocks hP hS (Nat.le_of_ble_eq_true rfl) (Nat.le_of_ble_eq_true rfl) (Prod.mk.inj (so_el h)) dX5_errorOfOldName_122
              · have h := br_el h cc
                refine lv_iload hx hb dX5_errorOfOldName_105 (lv_at hl 1 rfl) ?_
                refine lv_iload hx hb dX5_errorOfOldName_107 (lv_at hl 0 rfl) ?_
                refine lv_icmp_eq (tgt := 114) hx hb dX5_errorOfOldName_109 (by decide) (fun cc => ?_) (fun cc => ?_)
                · have h := br_el h cc
                  refine lv_aload_n hx hb dX5_errorOfOldName_114 rfl (lv_at hl 6 rfl) ?_
                  refine lv_iload_n hx hb dX5_errorOfOldName_115 rfl (lv_at hl 7 rfl) ?_
                  refine lv_iload hx hb dX5_errorOfOldName_116 (lv_at hl 4 rfl) ?_
                  obtain ⟨w50, hf, h⟩ := bd0_el h
                  refine c_onv (c_runV (b := adr (gB G) 4 0) (As := [.int a2, .int r3]) (rest := []) hx hb hml hown hts hE hP hS (c_X11_mean l G hF a2 r3 w6 w50 hf) (c_rec hE hP (hp_sh hP hF 0 4 (by decide)) (by decide) rfl rfl) w3_146 miX11_mean ⟨Nat.le_of_ble_eq_true rfl, Nat.le_of_ble_eq_true rfl⟩ rfl hl.1 rfl (Nat.le_of_ble_eq_true rfl) dX5_errorOfOldName_118 hcs) hS (fun H locs hP hS => ?_)
                  refine lv_iconst (v := 0) hx hb dX5_errorOfOldName_121 (by decide) ?_
                  exact e_i hx hb hr rfl hlocks hP hS (Nat.le_of_ble_eq_true rfl) (Nat.le_of_ble_eq_true rfl) (Prod.mk.inj (so_el h)) dX5_errorOfOldName_122
                · have h := br_er h cc
                  refine lv_iconst (v := 3) hx hb dX5_errorOfOldName_112 (by decide) ?_
                  exact e_i hx hb hr rfl hlocks hP hS (Nat.le_of_ble_eq_true rfl) (Nat.le_of_ble_eq_true rfl) (Prod.mk.inj (so_el h)) dX5_errorOfOldName_113
          · have h := br_er h cc
            refine lv_iconst (v := 1) hx hb dX5_errorOfOldName_87 (by decide) ?_
            refine lv_goto (tgt := 92) hx hb dX5_errorOfOldName_88 (by decide) ?_
            refine lv_istore (i := 8) (lv' := [(8, .int 1), (7, .int 0), (6, .int 1), (5, kR G r5), (4, .int r3), (0, .ref (adr (gB G) 9 0)), (1, .ref (adr (gB G) 4 0)), (2, .int a2), (3, .ref (adr (gB G) 25 a3))]) hx hb dX5_errorOfOldName_92 hl (by decide) (by simp [kR, cat_rf, cat_ref, cat_int, cat_long, cat_null]) (fun ls hl => ?_)
            refine lv_iload hx hb dX5_errorOfOldName_94 (lv_at hl 4 rfl) ?_
            refine lv_iconst (v := (-1)) hx hb dX5_errorOfOldName_96 (by decide) ?_
            refine lv_icmp_eq (tgt := 112) hx hb dX5_errorOfOldName_97 (by decide) (fun cc => ?_) (fun cc => ?_)
            · have h := br_el h cc
              refine lv_iconst (v := 3) hx hb dX5_errorOfOldName_112 (by decide) ?_
              exact e_i hx hb hr rfl hlocks hP hS (Nat.le_of_ble_eq_true rfl) (Nat.le_of_ble_eq_true rfl) (Prod.mk.inj (so_el h)) dX5_errorOfOldName_113
            · have h := br_er h cc
              refine lv_iload hx hb dX5_errorOfOldName_100 (lv_at hl 2 rfl) ?_
              refine lv_if_ne (tgt := 114) hx hb dX5_errorOfOldName_102 (by decide) (fun cc => ?_) (fun cc => ?_)
              · have h := br_er h cc
                refine lv_aload_n hx hb dX5_errorOfOldName_114 rfl (lv_at hl 6 rfl) ?_
                refine lv_iload_n hx hb dX5_errorOfOldName_115 rfl (lv_at hl 7 rfl) ?_
                refine lv_iload hx hb dX5_errorOfOldName_116 (lv_at hl 4 rfl) ?_
                obtain ⟨w51, hf, h⟩ := bd0_el h
                refine c_onv (c_runV (b := adr (gB G) 4 0) (As := [.int a2, .int r3]) (rest := []) hx hb hml hown hts hE hP hS (c_X11_mean l G hF a2 r3 w6 w51 hf) (c_rec hE hP (hp_sh hP hF 0 4 (by decide)) (by decide) rfl rfl) w3_146 miX11_mean ⟨Nat.le_of_ble_eq_true rfl, Nat.le_of_ble_eq_true rfl⟩ rfl hl.1 rfl (Nat.le_of_ble_eq_true rfl) dX5_errorOfOldName_118 hcs) hS (fun H locs hP hS => ?_)
                refine lv_iconst (v := 0) hx hb dX5_errorOfOldName_121 (by decide) ?_
                exact e_i hx hb hr rfl hlocks hP hS (Nat.le_of_ble_eq_true rfl) (Nat.le_of_ble_eq_true rfl) (Prod.mk.inj (so_el h)) dX5_errorOfOldName_122
              · have h := br_el h cc
                refine lv_iload hx hb dX5_errorOfOldName_105 (lv_at hl 1 rfl) ?_
                refine lv_iload hx hb dX5_errorOfOldName_107 (lv_at hl 0 rfl) ?_
                refine lv_icmp_eq (tgt := 114) hx hb dX5_errorOfOldName_109 (by decide) (fun cc => ?_) (fun cc => ?_)
                · have h := br_el h cc
                  refine lv_aload_n hx hb dX5_errorOfOldName_114 rfl (lv_at hl 6 rfl) ?_
                  refine lv_iload_n hx hb dX5_errorOfOldName_115 rfl (lv_at hl 7 rfl) ?_
                  refine lv_iload hx hb dX5_errorOfOldName_116 (lv_at hl 4 rfl) ?_
                  obtain ⟨w52, hf, h⟩ := bd0_el h
                  refine c_onv (c_runV (b := adr (gB G) 4 0) (As := [.int a2, .int r3]) (rest := []) hx hb hml hown hts hE hP hS (c_X11_mean l G hF a2 r3 w6 w52 hf) (c_rec hE hP (hp_sh hP hF 0 4 (by decide)) (by decide) rfl rfl) w3_146 miX11_mean ⟨Nat.le_of_ble_eq_true rfl, Nat.le_of_ble_eq_true rfl⟩ rfl hl.1 rfl (Nat.le_of_ble_eq_true rfl) dX5_errorOfOldName_118 hcs) hS (fun H locs hP hS => ?_)
                  refine lv_iconst (v := 0) hx hb dX5_errorOfOldName_121 (by decide) ?_
                  exact e_i hx hb hr rfl hlocks hP hS (Nat.le_of_ble_eq_true rfl) (Nat.le_of_ble_eq_true rfl) (Prod.mk.inj (so_el h)) dX5_errorOfOldName_122
                · have h := br_er h cc
                  refine lv_iconst (v := 3) hx hb dX5_errorOfOldName_112 (by decide) ?_
                  exact e_i hx hb hr rfl hlocks hP hS (Nat.le_of_ble_eq_true rfl) (Nat.le_of_ble_eq_true rfl) (Prod.mk.inj (so_el h)) dX5_errorOfOldName_113
        · have h := br_el h cc
          refine lv_aload_n hx hb dX5_errorOfOldName_60 rfl (lv_at hl 4 rfl) ?_
          refine lv_iload_n hx hb dX5_errorOfOldName_61 rfl (lv_at hl 5 rfl) ?_
          refine lv_iconst (v := 2) hx hb dX5_errorOfOldName_62 (by decide) ?_
          refine lv_isub hx hb dX5_errorOfOldName_63 ?_
          obtain ⟨r53, w54, hf, h⟩ := bd1_el h
          refine c_onq (c_runV (b := adr (gB G) 4 0) (As := [.int (a2 - 2)]) (rest := []) hx hb hml hown hts hE hP hS (c_X11_kind l G hF (a2 - 2) w6 r53 w54 hf) (c_rec hE hP (hp_sh hP hF 0 4 (by decide)) (by decide) rfl rfl) w3_82 miX11_kind ⟨Nat.le_of_ble_eq_true rfl, Nat.le_of_ble_eq_true rfl⟩ rfl hl.1 rfl (Nat.le_of_ble_eq_true rfl) dX5_errorOfOldName_64 hcs) hS (fun H locs hP hS => ?_)
          refine k_kind (i := 21) (nm := "PETALS") hx hb hE hS hown rfl (by decide) (hts _ w3_144) dX5_errorOfOldName_67 ?_
          refine k_acmp_ne (x := r53) (y := 22) (tgt := 77) hx hb hE dX5_errorOfOldName_70 (by decide) (fun cc => ?_) (fun cc => ?_)
          · have h := br_er h cc
            refine lv_iconst (v := 0) hx hb dX5_errorOfOldName_77 (by decide) ?_
            refine lv_istore (i := 7) (lv' := [(7, .int 0), (6, .int 1), (5, kR G r5), (4, .int r3), (0, .ref (adr (gB G) 9 0)), (1, .ref (adr (gB G) 4 0)), (2, .int a2), (3, .ref (adr (gB G) 25 a3))]) hx hb dX5_errorOfOldName_78 hl (by decide) (by simp [kR, cat_rf, cat_ref, cat_int, cat_long, cat_null]) (fun ls hl => ?_)
            refine lv_iload hx hb dX5_errorOfOldName_80 (lv_at hl 3 rfl) ?_
            refine lv_bipush (v := 8) hx hb dX5_errorOfOldName_82 (by decide) ?_
            refine lv_icmp_lt (tgt := 91) hx hb dX5_errorOfOldName_84 (by decide) (fun cc => ?_) (fun cc => ?_)
            · have h := br_el h cc
              refine lv_iconst (v := 0) hx hb dX5_errorOfOldName_91 (by decide) ?_
              refine lv_istore (i := 8) (lv' := [(8, .int 0), (7, .int 0), (6, .int 1), (5, kR G r5), (4, .int r3), (0, .ref (adr (gB G) 9 0)), (1, .ref (adr (gB G) 4 0)), (2, .int a2), (3, .ref (adr (gB G) 25 a3))]) hx hb dX5_errorOfOldName_92 hl (by decide) (by simp [kR, cat_rf, cat_ref, cat_int, cat_long, cat_null]) (fun ls hl => ?_)
              refine lv_iload hx hb dX5_errorOfOldName_94 (lv_at hl 4 rfl) ?_
              refine lv_iconst (v := (-1)) hx hb dX5_errorOfOldName_96 (by decide) ?_
              refine lv_icmp_eq (tgt := 112) hx hb dX5_errorOfOldName_97 (by decide) (fun cc => ?_) (fun cc => ?_)
              · have h := br_el h cc
                refine lv_iconst (v := 3) hx hb dX5_errorOfOldName_112 (by decide) ?_
                exact e_i hx hb hr rfl hlocks hP hS (Nat.le_of_ble_eq_true rfl) (Nat.le_of_ble_eq_true rfl) (Prod.mk.inj (so_el h)) dX5_errorOfOldName_113
              · have h := br_er h cc
                refine lv_iload hx hb dX5_errorOfOldName_100 (lv_at hl 2 rfl) ?_
                refine lv_if_ne (tgt := 114) hx hb dX5_errorOfOldName_102 (by decide) (fun cc => ?_) (fun cc => ?_)
                · have h := br_er h cc
                  refine lv_aload_n hx hb dX5_errorOfOldName_114 rfl (lv_at hl 6 rfl) ?_
                  refine lv_iload_n hx hb dX5_errorOfOldName_115 rfl (lv_at hl 7 rfl) ?_
                  refine lv_iload hx hb dX5_errorOfOldName_116 (lv_at hl 4 rfl) ?_
                  obtain ⟨w55, hf, h⟩ := bd0_el h
                  refine c_onv (c_runV (b := adr (gB G) 4 0) (As := [.int a2, .int r3]) (rest := []) hx hb hml hown hts hE hP hS (c_X11_mean l G hF a2 r3 w54 w55 hf) (c_rec hE hP (hp_sh hP hF 0 4 (by decide)) (by decide) rfl rfl) w3_146 miX11_mean ⟨Nat.le_of_ble_eq_true rfl, Nat.le_of_ble_eq_true rfl⟩ rfl hl.1 rfl (Nat.le_of_ble_eq_true rfl) dX5_errorOfOldName_118 hcs) hS (fun H locs hP hS => ?_)
                  refine lv_iconst (v := 0) hx hb dX5_errorOfOldName_121 (by decide) ?_
                  exact e_i hx hb hr rfl hlocks hP hS (Nat.le_of_ble_eq_true rfl) (Nat.le_of_ble_eq_true rfl) (Prod.mk.inj (so_el h)) dX5_errorOfOldName_122
                · have h := br_el h cc
                  refine lv_iload hx hb dX5_errorOfOldName_105 (lv_at hl 1 rfl) ?_
                  refine lv_iload hx hb dX5_errorOfOldName_107 (lv_at hl 0 rfl) ?_
                  refine lv_icmp_eq (tgt := 114) hx hb dX5_errorOfOldName_109 (by decide) (fun cc => ?_) (fun cc => ?_)
                  · have h := br_el h cc
                    refine lv_aload_n hx hb dX5_errorOfOldName_114 rfl (lv_at hl 6 rfl) ?_
                    refine lv_iload_n hx hb dX5_errorOfOldName_115 rfl (lv_at hl 7 rfl) ?_
                    refine lv_iload hx hb dX5_errorOfOldName_116 (lv_at hl 4 rfl) ?_
                    obtain ⟨w56, hf, h⟩ := bd0_el h
                    refine c_onv (c_runV (b := adr (gB G) 4 0) (As := [.int a2, .int r3]) (rest := []) hx hb hml hown hts hE hP hS (c_X11_mean l G hF a2 r3 w54 w56 hf) (c_rec hE hP (hp_sh hP hF 0 4 (by decide)) (by decide) rfl rfl) w3_146 miX11_mean ⟨Nat.le_of_ble_eq_true rfl, Nat.le_of_ble_eq_true rfl⟩ rfl hl.1 rfl (Nat.le_of_ble_eq_true rfl) dX5_errorOfOldName_118 hcs) hS (fun H locs hP hS => ?_)
                    refine lv_iconst (v := 0) hx hb dX5_errorOfOldName_121 (by decide) ?_
                    exact e_i hx hb hr rfl hlocks hP hS (Nat.le_of_ble_eq_true rfl) (Nat.le_of_ble_eq_true rfl) (Prod.mk.inj (so_el h)) dX5_errorOfOldName_122
                  · have h := br_er h cc
                    refine lv_iconst (v := 3) hx hb dX5_errorOfOldName_112 (by decide) ?_
                    exact e_i hx hb hr rfl hlocks hP hS (Nat.le_of_ble_eq_true rfl) (Nat.le_of_ble_eq_true rfl) (Prod.mk.inj (so_el h)) dX5_errorOfOldName_113
            · have h := br_er h cc
              refine lv_iconst (v := 1) hx hb dX5_errorOfOldName_87 (by decide) ?_
              refine lv_goto (tgt := 92) hx hb dX5_errorOfOldName_88 (by decide) ?_
              refine lv_istore (i := 8) (lv' := [(8, .int 1), (7, .int 0), (6, .int 1), (5, kR G r5), (4, .int r3), (0, .ref (adr (gB G) 9 0)), (1, .ref (adr (gB G) 4 0)), (2, .int a2), (3, .ref (adr (gB G) 25 a3))]) hx hb dX5_errorOfOldName_92 hl (by decide) (by simp [kR, cat_rf, cat_ref, cat_int, cat_long, cat_null]) (fun ls hl => ?_)
              refine lv_iload hx hb dX5_errorOfOldName_94 (lv_at hl 4 rfl) ?_
              refine lv_iconst (v := (-1)) hx hb dX5_errorOfOldName_96 (by decide) ?_
              refine lv_icmp_eq (tgt := 112) hx hb dX5_errorOfOldName_97 (by decide) (fun cc => ?_) (fun cc => ?_)
              · have h := br_el h cc
                refine lv_iconst (v := 3) hx hb dX5_errorOfOldName_112 (by decide) ?_
                exact e_i hx hb hr rfl hlocks hP hS (Nat.le_of_ble_eq_true rfl) (Nat.le_of_ble_eq_true rfl) (Prod.mk.inj (so_el h)) dX5_errorOfOldName_113
              · have h := br_er h cc
                refine lv_iload hx hb dX5_errorOfOldName_100 (lv_at hl 2 rfl) ?_
                refine lv_if_ne (tgt := 114) hx hb dX5_errorOfOldName_102 (by decide) (fun cc => ?_) (fun cc => ?_)
                · have h := br_er h cc
                  refine lv_aload_n hx hb dX5_errorOfOldName_114 rfl (lv_at hl 6 rfl) ?_
                  refine lv_iload_n hx hb dX5_errorOfOldName_115 rfl (lv_at hl 7 rfl) ?_
                  refine lv_iload hx hb dX5_errorOfOldName_116 (lv_at hl 4 rfl) ?_
                  obtain ⟨w57, hf, h⟩ := bd0_el h
                  refine c_onv (c_runV (b := adr (gB G) 4 0) (As := [.int a2, .int r3]) (rest := []) hx hb hml hown hts hE hP hS (c_X11_mean l G hF a2 r3 w54 w57 hf) (c_rec hE hP (hp_sh hP hF 0 4 (by decide)) (by decide) rfl rfl) w3_146 miX11_mean ⟨Nat.le_of_ble_eq_true rfl, Nat.le_of_ble_eq_true rfl⟩ rfl hl.1 rfl (Nat.le_of_ble_eq_true rfl) dX5_errorOfOldName_118 hcs) hS (fun H locs hP hS => ?_)
                  refine lv_iconst (v := 0) hx hb dX5_errorOfOldName_121 (by decide) ?_
                  exact e_i hx hb hr rfl hlocks hP hS (Nat.le_of_ble_eq_true rfl) (Nat.le_of_ble_eq_true rfl) (Prod.mk.inj (so_el h)) dX5_errorOfOldName_122
                · have h := br_el h cc
                  refine lv_iload hx hb dX5_errorOfOldName_105 (lv_at hl 1 rfl) ?_
                  refine lv_iload hx hb dX5_errorOfOldName_107 (lv_at hl 0 rfl) ?_
                  refine lv_icmp_eq (tgt := 114) hx hb dX5_errorOfOldName_109 (by decide) (fun cc => ?_) (fun cc => ?_)
                  · have h := br_el h cc
                    refine lv_aload_n hx hb dX5_errorOfOldName_114 rfl (lv_at hl 6 rfl) ?_
                    refine lv_iload_n hx hb dX5_errorOfOldName_115 rfl (lv_at hl 7 rfl) ?_
                    refine lv_iload hx hb dX5_errorOfOldName_116 (lv_at hl 4 rfl) ?_
                    obtain ⟨w58, hf, h⟩ := bd0_el h
                    refine c_onv (c_runV (b := adr (gB G) 4 0) (As := [.int a2, .int r3]) (rest := []) hx hb hml hown hts hE hP hS (c_X11_mean l G hF a2 r3 w54 w58 hf) (c_rec hE hP (hp_sh hP hF 0 4 (by decide)) (by decide) rfl rfl) w3_146 miX11_mean ⟨Nat.le_of_ble_eq_true rfl, Nat.le_of_ble_eq_true rfl⟩ rfl hl.1 rfl (Nat.le_of_ble_eq_true rfl) dX5_errorOfOldName_118 hcs) hS (fun H locs hP hS => ?_)
                    refine lv_iconst (v := 0) hx hb dX5_errorOfOldName_121 (by decide) ?_
                    exact e_i hx hb hr rfl hlocks hP hS (Nat.le_of_ble_eq_true rfl) (Nat.le_of_ble_eq_true rfl) (Prod.mk.inj (so_el h)) dX5_errorOfOldName_122
                  · have h := br_er h cc
                    refine lv_iconst (v := 3) hx hb dX5_errorOfOldName_112 (by decide) ?_
                    exact e_i hx hb hr rfl hlocks hP hS (Nat.le_of_ble_eq_true rfl) (Nat.le_of_ble_eq_true rfl) (Prod.mk.inj (so_el h)) dX5_errorOfOldName_113
          · have h := br_el h cc
            refine lv_iconst (v := 1) hx hb dX5_errorOfOldName_73 (by decide) ?_
            refine lv_goto (tgt := 78) hx hb dX5_errorOfOldName_74 (by decide) ?_
            refine lv_istore (i := 7) (lv' := [(7, .int 1), (6, .int 1), (5, kR G r5), (4, .int r3), (0, .ref (adr (gB G) 9 0)), (1, .ref (adr (gB G) 4 0)), (2, .int a2), (3, .ref (adr (gB G) 25 a3))]) hx hb dX5_errorOfOldName_78 hl (by decide) (by simp [kR, cat_rf, cat_ref, cat_int, cat_long, cat_null]) (fun ls hl => ?_)
            refine lv_iload hx hb dX5_errorOfOldName_80 (lv_at hl 3 rfl) ?_
            refine lv_bipush (v := 8) hx hb dX5_errorOfOldName_82 (by decide) ?_
            refine lv_icmp_lt (tgt := 91) hx hb dX5_errorOfOldName_84 (by decide) (fun cc => ?_) (fun cc => ?_)
            · have h := br_el h cc
              refine lv_iconst (v := 0) hx hb dX5_errorOfOldName_91 (by decide) ?_
              refine lv_istore (i := 8) (lv' := [(8, .int 0), (7, .int 1), (6, .int 1), (5, kR G r5), (4, .int r3), (0, .ref (adr (gB G) 9 0)), (1, .ref (adr (gB G) 4 0)), (2, .int a2), (3, .ref (adr (gB G) 25 a3))]) hx hb dX5_errorOfOldName_92 hl (by decide) (by simp [kR, cat_rf, cat_ref, cat_int, cat_long, cat_null]) (fun ls hl => ?_)
              refine lv_iload hx hb dX5_errorOfOldName_94 (lv_at hl 4 rfl) ?_
              refine lv_iconst (v := (-1)) hx hb dX5_errorOfOldName_96 (by decide) ?_
              refine lv_icmp_eq (tgt := 112) hx hb dX5_errorOfOldName_97 (by decide) (fun cc => ?_) (fun cc => ?_)
              · have h := br_el h cc
                refine lv_iconst (v := 3) hx hb dX5_errorOfOldName_112 (by decide) ?_
                exact e_i hx hb hr rfl hlocks hP hS (Nat.le_of_ble_eq_true rfl) (Nat.le_of_ble_eq_true rfl) (Prod.mk.inj (so_el h)) dX5_errorOfOldName_113
              · have h := br_er h cc
                refine lv_iload hx hb dX5_errorOfOldName_100 (lv_at hl 2 rfl) ?_
                refine lv_if_ne (tgt := 114) hx hb dX5_errorOfOldName_102 (by decide) (fun cc => ?_) (fun cc => ?_)
                · have h := br_er h cc
                  refine lv_aload_n hx hb dX5_errorOfOldName_114 rfl (lv_at hl 6 rfl) ?_
                  refine lv_iload_n hx hb dX5_errorOfOldName_115 rfl (lv_at hl 7 rfl) ?_
                  refine lv_iload hx hb dX5_errorOfOldName_116 (lv_at hl 4 rfl) ?_
                  obtain ⟨w59, hf, h⟩ := bd0_el h
                  refine c_onv (c_runV (b := adr (gB G) 4 0) (As := [.int a2, .int r3]) (rest := []) hx hb hml hown hts hE hP hS (c_X11_mean l G hF a2 r3 w54 w59 hf) (c_rec hE hP (hp_sh hP hF 0 4 (by decide)) (by decide) rfl rfl) w3_146 miX11_mean ⟨Nat.le_of_ble_eq_true rfl, Nat.le_of_ble_eq_true rfl⟩ rfl hl.1 rfl (Nat.le_of_ble_eq_true rfl) dX5_errorOfOldName_118 hcs) hS (fun H locs hP hS => ?_)
                  refine lv_iconst (v := 0) hx hb dX5_errorOfOldName_121 (by decide) ?_
                  exact e_i hx hb hr rfl hlocks hP hS (Nat.le_of_ble_eq_true rfl) (Nat.le_of_ble_eq_true rfl) (Prod.mk.inj (so_el h)) dX5_errorOfOldName_122
                · have h := br_el h cc
                  refine lv_iload hx hb dX5_errorOfOldName_105 (lv_at hl 1 rfl) ?_
                  refine lv_iload hx hb dX5_errorOfOldName_107 (lv_at hl 0 rfl) ?_
                  refine lv_icmp_eq (tgt := 114) hx hb dX5_errorOfOldName_109 (by decide) (fun cc => ?_) (fun cc => ?_)
                  · have h := br_el h cc
                    refine lv_aload_n hx hb dX5_errorOfOldName_114 rfl (lv_at hl 6 rfl) ?_
                    refine lv_iload_n hx hb dX5_errorOfOldName_115 rfl (lv_at hl 7 rfl) ?_
                    refine lv_iload hx hb dX5_errorOfOldName_116 (lv_at hl 4 rfl) ?_
                    obtain ⟨w60, hf, h⟩ := bd0_el h
                    refine c_onv (c_runV (b := adr (gB G) 4 0) (As := [.int a2, .int r3]) (rest := []) hx hb hml hown hts hE hP hS (c_X11_mean l G hF a2 r3 w54 w60 hf) (c_rec hE hP (hp_sh hP hF 0 4 (by decide)) (by decide) rfl rfl) w3_146 miX11_mean ⟨Nat.le_of_ble_eq_true rfl, Nat.le_of_ble_eq_true rfl⟩ rfl hl.1 rfl (Nat.le_of_ble_eq_true rfl) dX5_errorOfOldName_118 hcs) hS (fun H locs hP hS => ?_)
                    refine lv_iconst (v := 0) hx hb dX5_errorOfOldName_121 (by decide) ?_
                    exact e_i hx hb hr rfl hlocks hP hS (Nat.le_of_ble_eq_true rfl) (Nat.le_of_ble_eq_true rfl) (Prod.mk.inj (so_el h)) dX5_errorOfOldName_122
                  · have h := br_er h cc
                    refine lv_iconst (v := 3) hx hb dX5_errorOfOldName_112 (by decide) ?_
                    exact e_i hx hb hr rfl hlocks hP hS (Nat.le_of_ble_eq_true rfl) (Nat.le_of_ble_eq_true rfl) (Prod.mk.inj (so_el h)) dX5_errorOfOldName_113
            · have h := br_er h cc
              refine lv_iconst (v := 1) hx hb dX5_errorOfOldName_87 (by decide) ?_
              refine lv_goto (tgt := 92) hx hb dX5_errorOfOldName_88 (by decide) ?_
              refine lv_istore (i := 8) (lv' := [(8, .int 1), (7, .int 1), (6, .int 1), (5, kR G r5), (4, .int r3), (0, .ref (adr (gB G) 9 0)), (1, .ref (adr (gB G) 4 0)), (2, .int a2), (3, .ref (adr (gB G) 25 a3))]) hx hb dX5_errorOfOldName_92 hl (by decide) (by simp [kR, cat_rf, cat_ref, cat_int, cat_long, cat_null]) (fun ls hl => ?_)
              refine lv_iload hx hb dX5_errorOfOldName_94 (lv_at hl 4 rfl) ?_
              refine lv_iconst (v := (-1)) hx hb dX5_errorOfOldName_96 (by decide) ?_
              refine lv_icmp_eq (tgt := 112) hx hb dX5_errorOfOldName_97 (by decide) (fun cc => ?_) (fun cc => ?_)
              · have h := br_el h cc
                refine lv_iconst (v := 3) hx hb dX5_errorOfOldName_112 (by decide) ?_
                exact e_i hx hb hr rfl hlocks hP hS (Nat.le_of_ble_eq_true rfl) (Nat.le_of_ble_eq_true rfl) (Prod.mk.inj (so_el h)) dX5_errorOfOldName_113
              · have h := br_er h cc
                refine lv_iload hx hb dX5_errorOfOldName_100 (lv_at hl 2 rfl) ?_
                refine lv_if_ne (tgt := 114) hx hb dX5_errorOfOldName_102 (by decide) (fun cc => ?_) (fun cc => ?_)
                · have h := br_er h cc
                  refine lv_aload_n hx hb dX5_errorOfOldName_114 rfl (lv_at hl 6 rfl) ?_
                  refine lv_iload_n hx hb dX5_errorOfOldName_115 rfl (lv_at hl 7 rfl) ?_
                  refine lv_iload hx hb dX5_errorOfOldName_116 (lv_at hl 4 rfl) ?_
                  obtain ⟨w61, hf, h⟩ := bd0_el h
                  refine c_onv (c_runV (b := adr (gB G) 4 0) (As := [.int a2, .int r3]) (rest := []) hx hb hml hown hts hE hP hS (c_X11_mean l G hF a2 r3 w54 w61 hf) (c_rec hE hP (hp_sh hP hF 0 4 (by decide)) (by decide) rfl rfl) w3_146 miX11_mean ⟨Nat.le_of_ble_eq_true rfl, Nat.le_of_ble_eq_true rfl⟩ rfl hl.1 rfl (Nat.le_of_ble_eq_true rfl) dX5_errorOfOldName_118 hcs) hS (fun H locs hP hS => ?_)
                  refine lv_iconst (v := 0) hx hb dX5_errorOfOldName_121 (by decide) ?_
                  exact e_i hx hb hr rfl hlocks hP hS (Nat.le_of_ble_eq_true rfl) (Nat.le_of_ble_eq_true rfl) (Prod.mk.inj (so_el h)) dX5_errorOfOldName_122
                · have h := br_el h cc
                  refine lv_iload hx hb dX5_errorOfOldName_105 (lv_at hl 1 rfl) ?_
                  refine lv_iload hx hb dX5_errorOfOldName_107 (lv_at hl 0 rfl) ?_
                  refine lv_icmp_eq (tgt := 114) hx hb dX5_errorOfOldName_109 (by decide) (fun cc => ?_) (fun cc => ?_)
                  · have h := br_el h cc
                    refine lv_aload_n hx hb dX5_errorOfOldName_114 rfl (lv_at hl 6 rfl) ?_
                    refine lv_iload_n hx hb dX5_errorOfOldName_115 rfl (lv_at hl 7 rfl) ?_
                    refine lv_iload hx hb dX5_errorOfOldName_116 (lv_at hl 4 rfl) ?_
                    obtain ⟨w62, hf, h⟩ := bd0_el h
                    refine c_onv (c_runV (b := adr (gB G) 4 0) (As := [.int a2, .int r3]) (rest := []) hx hb hml hown hts hE hP hS (c_X11_mean l G hF a2 r3 w54 w62 hf) (c_rec hE hP (hp_sh hP hF 0 4 (by decide)) (by decide) rfl rfl) w3_146 miX11_mean ⟨Nat.le_of_ble_eq_true rfl, Nat.le_of_ble_eq_true rfl⟩ rfl hl.1 rfl (Nat.le_of_ble_eq_true rfl) dX5_errorOfOldName_118 hcs) hS (fun H locs hP hS => ?_)
                    refine lv_iconst (v := 0) hx hb dX5_errorOfOldName_121 (by decide) ?_
                    exact e_i hx hb hr rfl hlocks hP hS (Nat.le_of_ble_eq_true rfl) (Nat.le_of_ble_eq_true rfl) (Prod.mk.inj (so_el h)) dX5_errorOfOldName_122
                  · have h := br_er h cc
                    refine lv_iconst (v := 3) hx hb dX5_errorOfOldName_112 (by decide) ?_
                    exact e_i hx hb hr rfl hlocks hP hS (Nat.le_of_ble_eq_true rfl) (Nat.le_of_ble_eq_true rfl) (Prod.mk.inj (so_el h)) dX5_errorOfOldName_113

def f_X11_meaning (a1 : Int32) (w : Mm) : Option (Int32 × Mm) := bd1 (f_X11_has a1 w) (fun r1 w2 => br (r1 = 0) (some (0, w2)) (gd (vB a1 401) (some (gI w2 8 0 a1.toNatClampNeg, w2))))

theorem miX11_meaning : MI RX11 yX11_meaning cX11_meaning 2 (some .int) 1 := ⟨w3_102, w3_103, w1_3, w3_104, rfl, by decide +kernel, by decide +kernel, by decide +kernel⟩
set_option maxHeartbeats 4000000 in
set_option maxRecDepth 100000 in
theorem c_X11_meaning (l : Launch) (G : GG) (hF : gF G = true) (a1 : Int32) (w : Mm) (r : Int32) (w' : Mm) (h : f_X11_meaning a1 w = some (r, w')) : Ki l G yX11_meaning cX11_meaning 2 (some .int) { frames := 1, cells := 0, slots := 0, locals := 21 } [.ref (adr (gB G) 4 0), .int a1] w r w' := by
  refine k_of (by decide +kernel) (Nat.le_of_ble_eq_true rfl) ?_
  intro p e s m args below meth c ls hx hb hml hr hown hlocks hts hin hP hE hl
  have hC : CX p s m args c meth G cX11_meaning 2 (some .int) RX11 := ⟨hx, hb, hml, hr, hown, hlocks, hts, hE⟩
  have hS : va_S (Ab G) s.heap s.heap [] := va_S.rf
  have hcs : 0 ≤ 0 ∧ 0 ≤ 0 := ⟨Nat.zero_le _, Nat.zero_le _⟩
  have hl : lv_has ls 2 [(0, .ref (adr (gB G) 4 0)), (1, .int a1)] := hl
  unfold f_X11_meaning at h
  refine lv_aload_n hx hb dX11_meaning_0 rfl (lv_at hl 0 rfl) ?_
  refine lv_iload_n hx hb dX11_meaning_1 rfl (lv_at hl 1 rfl) ?_
  obtain ⟨r1, w2, hf, h⟩ := bd1_el h
  refine c_oni (c_runV (b := adr (gB G) 4 0) (As := [.int a1]) (rest := []) hx hb hml hown hts hE hP hS (c_X11_has l G hF a1 w r1 w2 hf) (c_rec hE hP (hp_sh hP hF 0 4 (by decide)) (by decide) rfl rfl) w3_74 miX11_has ⟨Nat.le_of_ble_eq_true rfl, Nat.le_of_ble_eq_true rfl⟩ rfl hl.1 rfl (Nat.le_of_ble_eq_true rfl) dX11_meaning_2 hcs) hS (fun H locs hP hS => ?_)
  refine lv_if_eq (tgt := 17) hx hb dX11_meaning_5 (by decide) (fun cc => ?_) (fun cc => ?_)
  · have h := br_el h cc
    refine lv_iconst (v := 0) hx hb dX11_meaning_17 (by decide) ?_
    exact e_i hx hb hr rfl hlocks hP hS (Nat.le_of_ble_eq_true rfl) (Nat.le_of_ble_eq_true rfl) (Prod.mk.inj (so_el h)) dX11_meaning_18
  · have h := br_er h cc
    refine lv_aload_n hx hb dX11_meaning_8 rfl (lv_at hl 0 rfl) ?_
    refine k_get (ci := 9) (v := .ref (adr (gB G) 8 0)) hx hb hts hE inX11 hown hP (hp_sh hP hF 0 4 (by decide)) (by decide) rfl rfl 3 (by decide) w1_69 rfl rfl dX11_meaning_9 ?_
    refine lv_iload_n hx hb dX11_meaning_12 rfl (lv_at hl 1 rfl) ?_
    obtain ⟨g3, h⟩ := gd_el h
    refine k_iald hx hb hE hP (hp_sh hP hF 0 8 (by decide)) (by decide) rfl g3 dX11_meaning_13 ?_
    refine lv_goto (tgt := 18) hx hb dX11_meaning_14 (by decide) ?_
    exact e_i hx hb hr rfl hlocks hP hS (Nat.le_of_ble_eq_true rfl) (Nat.le_of_ble_eq_true rfl) (Prod.mk.inj (so_el h)) dX11_meaning_18

def f_X5_errorOf (a2 : Int32) (a3 : Nat) (w : Mm) : Option (Int32 × Mm) := bd1 (f_X11_kind a2 w) (fun r1 w2 => bd1 (f_X11_kind (a2 - 1) w2) (fun r3 w4 => gd (kok r1) (bd1 (f_X4_isOrder r1 w4) (fun r5 w6 => br (r5 = 0) (br (r1 = 4) (bd1 (f_X11_meaning a2 w6) (fun r18 w19 => bd1 (f_X5_errorOfNumber r18 r3 a3 w19) (fun r20 w21 => some (r20, w21)))) (br (r1 = 3) (br (r3 = 7) (bd1 (f_X11_key a2 w6) (fun r8 w9 => bd1 (f_X5_errorOfNewName r8 r3 a3 w9) (fun r10 w11 => some (r10, w11)))) (br (r3 = 9) (bd1 (f_X11_key a2 w6) (fun r14 w15 => bd1 (f_X5_errorOfNewName r14 r3 a3 w15) (fun r16 w17 => some (r16, w17)))) (bd1 (f_X5_errorOfOldName a2 a3 w6) (fun r12 w13 => some (r12, w13))))) (some (0, w6)))) (sq (pI w6 9 0 1 ((gI w6 9 0 1) + 1)) (fun w22 => br ((gI w22 9 0 1) ≤ 16) (some (0, w22)) (some (4, w22))))))))

theorem miX5_errorOf : MI RX5 yX5_errorOf cX5_errorOf 6 (some .int) 3 := ⟨w3_89, (tb_sel 14 rfl rfl), w1_6, w3_90, rfl, by decide +kernel, by decide +kernel, by decide +kernel⟩
set_option maxHeartbeats 4000000 in
set_option maxRecDepth 100000 in
theorem c_X5_errorOf (l : Launch) (G : GG) (hF : gF G = true) (a2 : Int32) (a3 : Nat) (ha3 : a3 < cnt 25) (w : Mm) (r : Int32) (w' : Mm) (h : f_X5_errorOf a2 a3 w = some (r, w')) : Ki l G yX5_errorOf cX5_errorOf 6 (some .int) { frames := 3, cells := 0, slots := 0, locals := 71 } [.ref (adr (gB G) 9 0), .ref (adr (gB G) 4 0), .int a2, .ref (adr (gB G) 25 a3)] w r w' := by
  refine k_of (by decide +kernel) (Nat.le_of_ble_eq_true rfl) ?_
  intro p e s m args below meth c ls hx hb hml hr hown hlocks hts hin hP hE hl
  have hC : CX p s m args c meth G cX5_errorOf 6 (some .int) RX5 := ⟨hx, hb, hml, hr, hown, hlocks, hts, hE⟩
  have hS : va_S (Ab G) s.heap s.heap [] := va_S.rf
  have hcs : 0 ≤ 0 ∧ 0 ≤ 0 := ⟨Nat.zero_le _, Nat.zero_le _⟩
  have hl : lv_has ls 6 [(0, .ref (adr (gB G) 9 0)), (1, .ref (adr (gB G) 4 0)), (2, .int a2), (3, .ref (adr (gB G) 25 a3))] := hl
  unfold f_X5_errorOf at h
  refine lv_aload_n hx hb dX5_errorOf_0 rfl (lv_at hl 1 rfl) ?_
  refine lv_iload_n hx hb dX5_errorOf_1 rfl (lv_at hl 2 rfl) ?_
  obtain ⟨r1, w2, hf, h⟩ := bd1_el h
  refine c_onq (c_runV (b := adr (gB G) 4 0) (As := [.int a2]) (rest := []) hx hb hml hown hts hE hP hS (c_X11_kind l G hF a2 w r1 w2 hf) (c_rec hE hP (hp_sh hP hF 0 4 (by decide)) (by decide) rfl rfl) w3_82 miX11_kind ⟨Nat.le_of_ble_eq_true rfl, Nat.le_of_ble_eq_true rfl⟩ rfl hl.1 rfl (Nat.le_of_ble_eq_true rfl) dX5_errorOf_2 hcs) hS (fun H locs hP hS => ?_)
  refine k_astore (i := 4) (lv' := [(4, kR G r1), (0, .ref (adr (gB G) 9 0)), (1, .ref (adr (gB G) 4 0)), (2, .int a2), (3, .ref (adr (gB G) 25 a3))]) hx hb dX5_errorOf_5 hl (by decide) (by simp [kR, cat_rf, cat_ref, cat_int, cat_long, cat_null]) (fun ls hl => ?_)
  refine lv_aload_n hx hb dX5_errorOf_7 rfl (lv_at hl 2 rfl) ?_
  refine lv_iload_n hx hb dX5_errorOf_8 rfl (lv_at hl 3 rfl) ?_
  refine lv_iconst (v := 1) hx hb dX5_errorOf_9 (by decide) ?_
  refine lv_isub hx hb dX5_errorOf_10 ?_
  obtain ⟨r3, w4, hf, h⟩ := bd1_el h
  refine c_onq (c_runV (b := adr (gB G) 4 0) (As := [.int (a2 - 1)]) (rest := []) hx hb hml hown hts hE hP hS (c_X11_kind l G hF (a2 - 1) w2 r3 w4 hf) (c_rec hE hP (hp_sh hP hF 0 4 (by decide)) (by decide) rfl rfl) w3_82 miX11_kind ⟨Nat.le_of_ble_eq_true rfl, Nat.le_of_ble_eq_true rfl⟩ rfl hl.1 rfl (Nat.le_of_ble_eq_true rfl) dX5_errorOf_11 hcs) hS (fun H locs hP hS => ?_)
  refine k_astore (i := 5) (lv' := [(5, kR G r3), (4, kR G r1), (0, .ref (adr (gB G) 9 0)), (1, .ref (adr (gB G) 4 0)), (2, .int a2), (3, .ref (adr (gB G) 25 a3))]) hx hb dX5_errorOf_14 hl (by decide) (by simp [kR, cat_rf, cat_ref, cat_int, cat_long, cat_null]) (fun ls hl => ?_)
  refine k_aload hx hb dX5_errorOf_16 (lv_at hl 1 rfl) ?_
  obtain ⟨g7, h⟩ := gd_el h
  obtain ⟨r5, w6, hf, h⟩ := bd1_el h
  refine c_oni (c_runVE g7 (As := []) (rest := []) hx hb hml hown hts hE hP hS (c_X4_isOrder l G hF r1 w4 r5 w6 hf) w3_91 miX4_isOrder ⟨Nat.le_of_ble_eq_true rfl, Nat.le_of_ble_eq_true rfl⟩ rfl hl.1 rfl (Nat.le_of_ble_eq_true rfl) dX5_errorOf_18 hcs) hS (fun H locs hP hS => ?_)
  refine lv_if_eq (tgt := 49) hx hb dX5_errorOf_21 (by decide) (fun cc => ?_) (fun cc => ?_)
  · have h := br_el h cc
    refine k_aload hx hb dX5_errorOf_49 (lv_at hl 1 rfl) ?_
    refine k_kind (i := 3) (nm := "NUMBER") hx hb hE hS hown rfl (by decide) (hts _ w3_100) dX5_errorOf_51 ?_
    refine k_acmp_ne (x := r1) (y := 4) (tgt := 70) hx hb hE dX5_errorOf_54 (by decide) (fun cc => ?_) (fun cc => ?_)
    · have h := br_er h cc
      refine k_aload hx hb dX5_errorOf_70 (lv_at hl 1 rfl) ?_
      refine k_kind (i := 2) (nm := "NAME") hx hb hE hS hown rfl (by decide) (hts _ w3_119) dX5_errorOf_72 ?_
      refine k_acmp_eq (x := r1) (y := 3) (tgt := 80) hx hb hE dX5_errorOf_75 (by decide) (fun cc => ?_) (fun cc => ?_)
      · have h := br_el h cc
        refine k_aload hx hb dX5_errorOf_80 (lv_at hl 0 rfl) ?_
        refine k_kind (i := 6) (nm := "HEDGE") hx hb hE hS hown rfl (by decide) (hts _ w3_120) dX5_errorOf_82 ?_
        refine k_acmp_eq (x := r3) (y := 7) (tgt := 96) hx hb hE dX5_errorOf_85 (by decide) (fun cc => ?_) (fun cc => ?_)
        · have h := br_el h cc
          refine lv_aload_n hx hb dX5_errorOf_96 rfl (lv_at hl 2 rfl) ?_
          refine lv_aload_n hx hb dX5_errorOf_97 rfl (lv_at hl 3 rfl) ?_
          refine lv_iload_n hx hb dX5_errorOf_98 rfl (lv_at hl 4 rfl) ?_
          obtain ⟨r8, w9, hf, h⟩ := bd1_el h
          refine c_onl (c_runV (b := adr (gB G) 4 0) (As := [.int a2]) (rest := [.ref (adr (gB G) 9 0)]) hx hb hml hown hts hE hP hS (c_X11_key l G hF a2 w6 r8 w9 hf) (c_rec hE hP (hp_sh hP hF 0 4 (by decide)) (by decide) rfl rfl) w3_124 miX11_key ⟨Nat.le_of_ble_eq_true rfl, Nat.le_of_ble_eq_true rfl⟩ rfl hl.1 rfl (Nat.le_of_ble_eq_true rfl) dX5_errorOf_99 hcs) hS (fun H locs hP hS => ?_)
          refine k_aload hx hb dX5_errorOf_102 (lv_at hl 0 rfl) ?_
          refine lv_aload_n hx hb dX5_errorOf_104 rfl (lv_at hl 5 rfl) ?_
          obtain ⟨r10, w11, hf, h⟩ := bd1_el h
          refine c_oni (c_runV (b := adr (gB G) 9 0) (As := [.long r8, kR G r3, .ref (adr (gB G) 25 a3)]) (rest := []) hx hb hml hown hts hE hP hS (c_X5_errorOfNewName l G hF r8 r3 a3 ha3 w9 r10 w11 hf) (c_rec hE hP (hp_sh hP hF 0 9 (by decide)) (by decide) rfl rfl) w3_128 miX5_errorOfNewName ⟨Nat.le_of_ble_eq_true rfl, Nat.le_of_ble_eq_true rfl⟩ rfl hl.1 rfl (Nat.le_of_ble_eq_true rfl) dX5_errorOf_105 hcs) hS (fun H locs hP hS => ?_)
          exact e_i hx hb hr rfl hlocks hP hS (Nat.le_of_ble_eq_true rfl) (Nat.le_of_ble_eq_true rfl) (Prod.mk.inj (so_el h)) dX5_errorOf_108
        · have h := br_er h cc
          refine k_aload hx hb dX5_errorOf_88 (lv_at hl 0 rfl) ?_
          refine k_kind (i := 8) (nm := "ROSE") hx hb hE hS hown rfl (by decide) (hts _ w3_122) dX5_errorOf_90 ?_
          refine k_acmp_ne (x := r3) (y := 9) (tgt := 109) hx hb hE dX5_errorOf_93 (by decide) (fun cc => ?_) (fun cc => ?_)
          · have h := br_er h cc
            refine lv_aload_n hx hb dX5_errorOf_109 rfl (lv_at hl 2 rfl) ?_
            refine lv_aload_n hx hb dX5_errorOf_110 rfl (lv_at hl 3 rfl) ?_
            refine lv_iload_n hx hb dX5_errorOf_111 rfl (lv_at hl 4 rfl) ?_
            refine lv_aload_n hx hb dX5_errorOf_112 rfl (lv_at hl 5 rfl) ?_
            obtain ⟨r12, w13, hf, h⟩ := bd1_el h
            refine c_oni (c_runV (b := adr (gB G) 9 0) (As := [.ref (adr (gB G) 4 0), .int a2, .ref (adr (gB G) 25 a3)]) (rest := []) hx hb hml hown hts hE hP hS (c_X5_errorOfOldName l G hF a2 a3 ha3 w6 r12 w13 hf) (c_rec hE hP (hp_sh hP hF 0 9 (by decide)) (by decide) rfl rfl) w3_136 miX5_errorOfOldName ⟨Nat.le_of_ble_eq_true rfl, Nat.le_of_ble_eq_true rfl⟩ rfl hl.1 rfl (Nat.le_of_ble_eq_true rfl) dX5_errorOf_113 hcs) hS (fun H locs hP hS => ?_)
            exact e_i hx hb hr rfl hlocks hP hS (Nat.le_of_ble_eq_true rfl) (Nat.le_of_ble_eq_true rfl) (Prod.mk.inj (so_el h)) dX5_errorOf_116
          · have h := br_el h cc
            refine lv_aload_n hx hb dX5_errorOf_96 rfl (lv_at hl 2 rfl) ?_
            refine lv_aload_n hx hb dX5_errorOf_97 rfl (lv_at hl 3 rfl) ?_
            refine lv_iload_n hx hb dX5_errorOf_98 rfl (lv_at hl 4 rfl) ?_
            obtain ⟨r14, w15, hf, h⟩ := bd1_el h
            refine c_onl (c_runV (b := adr (gB G) 4 0) (As := [.int a2]) (rest := [.ref (adr (gB G) 9 0)]) hx hb hml hown hts hE hP hS (c_X11_key l G hF a2 w6 r14 w15 hf) (c_rec hE hP (hp_sh hP hF 0 4 (by decide)) (by decide) rfl rfl) w3_124 miX11_key ⟨Nat.le_of_ble_eq_true rfl, Nat.le_of_ble_eq_true rfl⟩ rfl hl.1 rfl (Nat.le_of_ble_eq_true rfl) dX5_errorOf_99 hcs) hS (fun H locs hP hS => ?_)
            refine k_aload hx hb dX5_errorOf_102 (lv_at hl 0 rfl) ?_
            refine lv_aload_n hx hb dX5_errorOf_104 rfl (lv_at hl 5 rfl) ?_
            obtain ⟨r16, w17, hf, h⟩ := bd1_el h
            refine c_oni (c_runV (b := adr (gB G) 9 0) (As := [.long r14, kR G r3, .ref (adr (gB G) 25 a3)]) (rest := []) hx hb hml hown hts hE hP hS (c_X5_errorOfNewName l G hF r14 r3 a3 ha3 w15 r16 w17 hf) (c_rec hE hP (hp_sh hP hF 0 9 (by decide)) (by decide) rfl rfl) w3_128 miX5_errorOfNewName ⟨Nat.le_of_ble_eq_true rfl, Nat.le_of_ble_eq_true rfl⟩ rfl hl.1 rfl (Nat.le_of_ble_eq_true rfl) dX5_errorOf_105 hcs) hS (fun H locs hP hS => ?_)
            exact e_i hx hb hr rfl hlocks hP hS (Nat.le_of_ble_eq_true rfl) (Nat.le_of_ble_eq_true rfl) (Prod.mk.inj (so_el h)) dX5_errorOf_108
      · have h := br_er h cc
        refine lv_iconst (v := 0) hx hb dX5_errorOf_78 (by decide) ?_
        exact e_i hx hb hr rfl hlocks hP hS (Nat.le_of_ble_eq_true rfl) (Nat.le_of_ble_eq_true rfl) (Prod.mk.inj (so_el h)) dX5_errorOf_79
    · have h := br_el h cc
      refine lv_aload_n hx hb dX5_errorOf_57 rfl (lv_at hl 2 rfl) ?_
      refine lv_aload_n hx hb dX5_errorOf_58 rfl (lv_at hl 3 rfl) ?_
      refine lv_iload_n hx hb dX5_errorOf_59 rfl (lv_at hl 4 rfl) ?_
      obtain ⟨r18, w19, hf, h⟩ := bd1_el h
      refine c_oni (c_runV (b := adr (gB G) 4 0) (As := [.int a2]) (rest := [.ref (adr (gB G) 9 0)]) hx hb hml hown hts hE hP hS (c_X11_meaning l G hF a2 w6 r18 w19 hf) (c_rec hE hP (hp_sh hP hF 0 4 (by decide)) (by decide) rfl rfl) w3_101 miX11_meaning ⟨Nat.le_of_ble_eq_true rfl, Nat.le_of_ble_eq_true rfl⟩ rfl hl.1 rfl (Nat.le_of_ble_eq_true rfl) dX5_errorOf_60 hcs) hS (fun H locs hP hS => ?_)
      refine k_aload hx hb dX5_errorOf_63 (lv_at hl 0 rfl) ?_
      refine lv_aload_n hx hb dX5_errorOf_65 rfl (lv_at hl 5 rfl) ?_
      obtain ⟨r20, w21, hf, h⟩ := bd1_el h
      refine c_oni (c_runV (b := adr (gB G) 9 0) (As := [.int r18, kR G r3, .ref (adr (gB G) 25 a3)]) (rest := []) hx hb hml hown hts hE hP hS (c_X5_errorOfNumber l G hF r18 r3 a3 ha3 w19 r20 w21 hf) (c_rec hE hP (hp_sh hP hF 0 9 (by decide)) (by decide) rfl rfl) w3_105 miX5_errorOfNumber ⟨Nat.le_of_ble_eq_true rfl, Nat.le_of_ble_eq_true rfl⟩ rfl hl.1 rfl (Nat.le_of_ble_eq_true rfl) dX5_errorOf_66 hcs) hS (fun H locs hP hS => ?_)
      exact e_i hx hb hr rfl hlocks hP hS (Nat.le_of_ble_eq_true rfl) (Nat.le_of_ble_eq_true rfl) (Prod.mk.inj (so_el h)) dX5_errorOf_69
  · have h := br_er h cc
    refine lv_aload_n hx hb dX5_errorOf_24 rfl (lv_at hl 2 rfl) ?_
    refine lv_dup hx hb dX5_errorOf_25 rfl ?_
    refine k_get (ci := 3) (v := .int (gI w6 9 0 1)) hx hb hts hE inX5 hown hP (hp_sh hP hF 0 9 (by decide)) (by decide) rfl rfl 1 (by decide) w1_100 rfl rfl dX5_errorOf_26 ?_
    refine lv_iconst (v := 1) hx hb dX5_errorOf_29 (by decide) ?_
    refine lv_iadd hx hb dX5_errorOf_30 ?_
    refine k_put (ci := 3) (ty := .int) (v := .int ((gI w6 9 0 1) + 1)) (w1 := pI w6 9 0 1 ((gI w6 9 0 1) + 1)) hx hb hts hE inX5 tyX5 tyX5_ok nmX5 hown hP hS (hp_sh hP hF 0 9 (by decide)) (by decide) rfl rfl 1 (by decide) w1_100 rfl rfl rfl rfl rfl (Nat.le_of_ble_eq_true rfl) loc_pI (wce_pI.trans rfl) dX5_errorOf_31 (fun w22 H locs e hP hS => ?_)
    have h := sq_at h e
    refine lv_aload_n hx hb dX5_errorOf_34 rfl (lv_at hl 2 rfl) ?_
    refine k_get (ci := 3) (v := .int (gI w22 9 0 1)) hx hb hts hE inX5 hown hP (hp_sh hP hF 0 9 (by decide)) (by decide) rfl rfl 1 (by decide) w1_100 rfl rfl dX5_errorOf_35 ?_
    refine lv_bipush (v := 16) hx hb dX5_errorOf_38 (by decide) ?_
    refine lv_icmp_le (tgt := 47) hx hb dX5_errorOf_40 (by decide) (fun cc => ?_) (fun cc => ?_)
    · have h := br_el h cc
      refine lv_iconst (v := 0) hx hb dX5_errorOf_47 (by decide) ?_
      exact e_i hx hb hr rfl hlocks hP hS (Nat.le_of_ble_eq_true rfl) (Nat.le_of_ble_eq_true rfl) (Prod.mk.inj (so_el h)) dX5_errorOf_48
    · have h := br_er h cc
      refine lv_iconst (v := 4) hx hb dX5_errorOf_43 (by decide) ?_
      refine lv_goto (tgt := 48) hx hb dX5_errorOf_44 (by decide) ?_
      exact e_i hx hb hr rfl hlocks hP hS (Nat.le_of_ble_eq_true rfl) (Nat.le_of_ble_eq_true rfl) (Prod.mk.inj (so_el h)) dX5_errorOf_48

def f_X4_addsUp (a0 : Nat) (w : Mm) : Option (Int32 × Mm) := br (a0 = 36) (some (1, w)) (br (a0 = 37) (some (1, w)) (some (0, w)))

theorem miX4_addsUp : MI RX4 yX4_addsUp cX4_addsUp 1 (some .boolean) 0 := ⟨w3_25, w3_26, w1_5, w3_27, rfl, by decide +kernel, by decide +kernel, by decide +kernel⟩
set_option maxHeartbeats 4000000 in
set_option maxRecDepth 100000 in
theorem c_X4_addsUp (l : Launch) (G : GG) (hF : gF G = true) (a0 : Nat) (w : Mm) (r : Int32) (w' : Mm) (h : f_X4_addsUp a0 w = some (r, w')) : Ki l G yX4_addsUp cX4_addsUp 1 (some .boolean) { frames := 0, cells := 0, slots := 0, locals := 0 } [kR G a0] w r w' := by
  refine k_of (by decide +kernel) (by simp [lg_sl, cat_kR, cat_ref, cat_int, cat_long]) ?_
  intro p e s m args below meth c ls hx hb hml hr hown hlocks hts hin hP hE hl
  have hC : CX p s m args c meth G cX4_addsUp 1 (some .boolean) RX4 := ⟨hx, hb, hml, hr, hown, hlocks, hts, hE⟩
  have hS : va_S (Ab G) s.heap s.heap [] := va_S.rf
  have hcs : 0 ≤ 0 ∧ 0 ≤ 0 := ⟨Nat.zero_le _, Nat.zero_le _⟩
  have hl : lv_has ls 1 [(0, kR G a0)] := by simpa [lv_args, cat_kR, cat_ref, cat_int, cat_long] using hl
  unfold f_X4_addsUp at h
  refine k_aload_n hx hb dX4_addsUp_0 rfl (lv_at hl 0 rfl) ?_
  refine k_kind (i := 35) (nm := "PLUS") hx hb hE hS hown rfl (by decide) (hts _ w3_28) dX4_addsUp_1 ?_
  refine k_acmp_eq (x := a0) (y := 36) (tgt := 14) hx hb hE dX4_addsUp_4 (by decide) (fun cc => ?_) (fun cc => ?_)
  · have h := br_el h cc
    refine lv_iconst (v := 1) hx hb dX4_addsUp_14 (by decide) ?_
    refine lv_goto (tgt := 19) hx hb dX4_addsUp_15 (by decide) ?_
    exact e_i hx hb hr rfl hlocks hP hS (Nat.le_of_ble_eq_true rfl) (Nat.le_of_ble_eq_true rfl) (Prod.mk.inj (so_el h)) dX4_addsUp_19
  · have h := br_er h cc
    refine k_aload_n hx hb dX4_addsUp_7 rfl (lv_at hl 0 rfl) ?_
    refine k_kind (i := 36) (nm := "MINUS") hx hb hE hS hown rfl (by decide) (hts _ w3_29) dX4_addsUp_8 ?_
    refine k_acmp_ne (x := a0) (y := 37) (tgt := 18) hx hb hE dX4_addsUp_11 (by decide) (fun cc => ?_) (fun cc => ?_)
    · have h := br_er h cc
      refine lv_iconst (v := 0) hx hb dX4_addsUp_18 (by decide) ?_
      exact e_i hx hb hr rfl hlocks hP hS (Nat.le_of_ble_eq_true rfl) (Nat.le_of_ble_eq_true rfl) (Prod.mk.inj (so_el h)) dX4_addsUp_19
    · have h := br_el h cc
      refine lv_iconst (v := 1) hx hb dX4_addsUp_14 (by decide) ?_
      refine lv_goto (tgt := 19) hx hb dX4_addsUp_15 (by decide) ?_
      exact e_i hx hb hr rfl hlocks hP hS (Nat.le_of_ble_eq_true rfl) (Nat.le_of_ble_eq_true rfl) (Prod.mk.inj (so_el h)) dX4_addsUp_19

def f_X4_multiplies (a0 : Nat) (w : Mm) : Option (Int32 × Mm) := br (a0 = 38) (some (1, w)) (br (a0 = 39) (some (1, w)) (some (0, w)))

theorem miX4_multiplies : MI RX4 yX4_multiplies cX4_multiplies 1 (some .boolean) 0 := ⟨w3_31, w3_32, w1_5, w3_33, rfl, by decide +kernel, by decide +kernel, by decide +kernel⟩
set_option maxHeartbeats 4000000 in
set_option maxRecDepth 100000 in
theorem c_X4_multiplies (l : Launch) (G : GG) (hF : gF G = true) (a0 : Nat) (w : Mm) (r : Int32) (w' : Mm) (h : f_X4_multiplies a0 w = some (r, w')) : Ki l G yX4_multiplies cX4_multiplies 1 (some .boolean) { frames := 0, cells := 0, slots := 0, locals := 0 } [kR G a0] w r w' := by
  refine k_of (by decide +kernel) (by simp [lg_sl, cat_kR, cat_ref, cat_int, cat_long]) ?_
  intro p e s m args below meth c ls hx hb hml hr hown hlocks hts hin hP hE hl
  have hC : CX p s m args c meth G cX4_multiplies 1 (some .boolean) RX4 := ⟨hx, hb, hml, hr, hown, hlocks, hts, hE⟩
  have hS : va_S (Ab G) s.heap s.heap [] := va_S.rf
  have hcs : 0 ≤ 0 ∧ 0 ≤ 0 := ⟨Nat.zero_le _, Nat.zero_le _⟩
  have hl : lv_has ls 1 [(0, kR G a0)] := by simpa [lv_args, cat_kR, cat_ref, cat_int, cat_long] using hl
  unfold f_X4_multiplies at h
  refine k_aload_n hx hb dX4_multiplies_0 rfl (lv_at hl 0 rfl) ?_
  refine k_kind (i := 37) (nm := "TIMES") hx hb hE hS hown rfl (by decide) (hts _ w3_34) dX4_multiplies_1 ?_
  refine k_acmp_eq (x := a0) (y := 38) (tgt := 14) hx hb hE dX4_multiplies_4 (by decide) (fun cc => ?_) (fun cc => ?_)
  · have h := br_el h cc
    refine lv_iconst (v := 1) hx hb dX4_multiplies_14 (by decide) ?_
    refine lv_goto (tgt := 19) hx hb dX4_multiplies_15 (by decide) ?_
    exact e_i hx hb hr rfl hlocks hP hS (Nat.le_of_ble_eq_true rfl) (Nat.le_of_ble_eq_true rfl) (Prod.mk.inj (so_el h)) dX4_multiplies_19
  · have h := br_er h cc
    refine k_aload_n hx hb dX4_multiplies_7 rfl (lv_at hl 0 rfl) ?_
    refine k_kind (i := 38) (nm := "OVER") hx hb hE hS hown rfl (by decide) (hts _ w3_35) dX4_multiplies_8 ?_
    refine k_acmp_ne (x := a0) (y := 39) (tgt := 18) hx hb hE dX4_multiplies_11 (by decide) (fun cc => ?_) (fun cc => ?_)
    · have h := br_er h cc
      refine lv_iconst (v := 0) hx hb dX4_multiplies_18 (by decide) ?_
      exact e_i hx hb hr rfl hlocks hP hS (Nat.le_of_ble_eq_true rfl) (Nat.le_of_ble_eq_true rfl) (Prod.mk.inj (so_el h)) dX4_multiplies_19
    · have h := br_el h cc
      refine lv_iconst (v := 1) hx hb dX4_multiplies_14 (by decide) ?_
      refine lv_goto (tgt := 19) hx hb dX4_multiplies_15 (by decide) ?_
      exact e_i hx hb hr rfl hlocks hP hS (Nat.le_of_ble_eq_true rfl) (Nat.le_of_ble_eq_true rfl) (Prod.mk.inj (so_el h)) dX4_multiplies_19

def f_X7_take (a1 : Nat) (w : Mm) : Option (Int32 × Mm) := br ((gR w 31 0 3) = a1) (br ((gI w 31 0 2) < 0) (some (0, w)) (br ((gI w 31 0 2) < 400) (sq (pI w 31 0 2 ((gI w 31 0 2) + 1)) (fun w1 => gd (vB (gI w1 31 0 2) 401) (sq (pR w1 31 0 3 (gR w1 5 0 (gI w1 31 0 2).toNatClampNeg)) (fun w3 => some (1, w3))))) (some (0, w)))) (some (0, w))

theorem miX7_take : MI RX7 yX7_take cX7_take 2 (some .boolean) 1 := ⟨w2_229, (tb_sel 7 rfl rfl), w1_13, w2_230, rfl, by decide +kernel, by decide +kernel, by decide +kernel⟩
set_option maxHeartbeats 4000000 in
set_option maxRecDepth 100000 in
theorem c_X7_take (l : Launch) (G : GG) (hF : gF G = true) (a1 : Nat) (w : Mm) (r : Int32) (w' : Mm) (h : f_X7_take a1 w = some (r, w')) : Ki l G yX7_take cX7_take 2 (some .boolean) { frames := 0, cells := 0, slots := 0, locals := 0 } [.ref (adr (gB G) 31 0), kR G a1] w r w' := by
  refine k_of (by decide +kernel) (by simp [lg_sl, cat_kR, cat_ref, cat_int, cat_long]) ?_
  intro p e s m args below meth c ls hx hb hml hr hown hlocks hts hin hP hE hl
  have hC : CX p s m args c meth G cX7_take 2 (some .boolean) RX7 := ⟨hx, hb, hml, hr, hown, hlocks, hts, hE⟩
  have hS : va_S (Ab G) s.heap s.heap [] := va_S.rf
  have hcs : 0 ≤ 0 ∧ 0 ≤ 0 := ⟨Nat.zero_le _, Nat.zero_le _⟩
  have hl : lv_has ls 2 [(0, .ref (adr (gB G) 31 0)), (1, kR G a1)] := by simpa [lv_args, cat_kR, cat_ref, cat_int, cat_long] using hl
  unfold f_X7_take at h
  refine lv_aload_n hx hb dX7_take_0 rfl (lv_at hl 0 rfl) ?_
  refine k_get (ci := 5) (v := kR G (gR w 31 0 3)) hx hb hts hE inX7 hown hP (hp_sh hP hF 0 31 (by decide)) (by decide) rfl rfl 3 (by decide) w2_74 rfl rfl dX7_take_1 ?_
  refine k_aload_n hx hb dX7_take_4 rfl (lv_at hl 1 rfl) ?_
  refine k_acmp_ne (x := (gR w 31 0 3)) (y := a1) (tgt := 25) hx hb hE dX7_take_5 (by decide) (fun cc => ?_) (fun cc => ?_)
  · have h := br_er h cc
    refine lv_iconst (v := 0) hx hb dX7_take_25 (by decide) ?_
    exact e_i hx hb hr rfl hlocks hP hS (Nat.le_of_ble_eq_true rfl) (Nat.le_of_ble_eq_true rfl) (Prod.mk.inj (so_el h)) dX7_take_26
  · have h := br_el h cc
    refine lv_aload_n hx hb dX7_take_8 rfl (lv_at hl 0 rfl) ?_
    refine k_get (ci := 5) (v := .int (gI w 31 0 2)) hx hb hts hE inX7 hown hP (hp_sh hP hF 0 31 (by decide)) (by decide) rfl rfl 2 (by decide) w2_72 rfl rfl dX7_take_9 ?_
    refine lv_if_lt (tgt := 25) hx hb dX7_take_12 (by decide) (fun cc => ?_) (fun cc => ?_)
    · have h := br_el h cc
      refine lv_iconst (v := 0) hx hb dX7_take_25 (by decide) ?_
      exact e_i hx hb hr rfl hlocks hP hS (Nat.le_of_ble_eq_true rfl) (Nat.le_of_ble_eq_true rfl) (Prod.mk.inj (so_el h)) dX7_take_26
    · have h := br_er h cc
      refine lv_aload_n hx hb dX7_take_15 rfl (lv_at hl 0 rfl) ?_
      refine k_get (ci := 5) (v := .int (gI w 31 0 2)) hx hb hts hE inX7 hown hP (hp_sh hP hF 0 31 (by decide)) (by decide) rfl rfl 2 (by decide) w2_72 rfl rfl dX7_take_16 ?_
      refine lv_sipush (v := 400) hx hb dX7_take_19 (by decide) ?_
      refine lv_icmp_lt (tgt := 27) hx hb dX7_take_22 (by decide) (fun cc => ?_) (fun cc => ?_)
      · have h := br_el h cc
        refine lv_aload_n hx hb dX7_take_27 rfl (lv_at hl 0 rfl) ?_
        refine lv_dup hx hb dX7_take_28 rfl ?_
        refine k_get (ci := 5) (v := .int (gI w 31 0 2)) hx hb hts hE inX7 hown hP (hp_sh hP hF 0 31 (by decide)) (by decide) rfl rfl 2 (by decide) w2_72 rfl rfl dX7_take_29 ?_
        refine lv_iconst (v := 1) hx hb dX7_take_32 (by decide) ?_
        refine lv_iadd hx hb dX7_take_33 ?_
        refine k_put (ci := 5) (ty := .int) (v := .int ((gI w 31 0 2) + 1)) (w1 := pI w 31 0 2 ((gI w 31 0 2) + 1)) hx hb hts hE inX7 tyX7 tyX7_ok nmX7 hown hP hS (hp_sh hP hF 0 31 (by decide)) (by decide) rfl rfl 2 (by decide) w2_72 rfl rfl rfl rfl rfl (Nat.le_of_ble_eq_true rfl) loc_pI (wce_pI.trans rfl) dX7_take_34 (fun w1 H locs e hP hS => ?_)
        have h := sq_at h e
        refine lv_aload_n hx hb dX7_take_37 rfl (lv_at hl 0 rfl) ?_
        refine lv_aload_n hx hb dX7_take_38 rfl (lv_at hl 0 rfl) ?_
        refine k_get (ci := 5) (v := .ref (adr (gB G) 4 0)) hx hb hts hE inX7 hown hP (hp_sh hP hF 0 31 (by decide)) (by decide) rfl rfl 0 (by decide) w2_70 rfl rfl dX7_take_39 ?_
        refine k_getN (host := "HedgeNews") (ci := 9) (v := .ref (adr (gB G) 5 0)) hx hb hts hE inX11 hown hP (hp_sh hP hF 0 4 (by decide)) (by decide) rfl rfl 0 (by decide) (List.mem_of_getElem? (i := 0) rfl) rfl rfl dX7_take_42 ?_
        refine lv_aload_n hx hb dX7_take_45 rfl (lv_at hl 0 rfl) ?_
        refine k_get (ci := 5) (v := .int (gI w1 31 0 2)) hx hb hts hE inX7 hown hP (hp_sh hP hF 0 31 (by decide)) (by decide) rfl rfl 2 (by decide) w2_72 rfl rfl dX7_take_46 ?_
        obtain ⟨g2, h⟩ := gd_el h
        refine k_aald (t0 := 6) hx hb hE hP (hp_sh hP hF 0 5 (by decide)) (by decide) rfl rfl g2 dX7_take_49 ?_
        refine k_put (ci := 5) (ty := (tyX7 3)) (v := kR G (gR w1 5 0 (gI w1 31 0 2).toNatClampNeg)) (w1 := pR w1 31 0 3 (gR w1 5 0 (gI w1 31 0 2).toNatClampNeg)) hx hb hts hE inX7 tyX7 tyX7_ok nmX7 hown hP hS (hp_sh hP hF 0 31 (by decide)) (by decide) rfl rfl 3 (by decide) w2_74 rfl rfl rfl nar_kR fit_kR (Nat.le_of_ble_eq_true rfl) loc_pR (wce_pR.trans rfl) dX7_take_50 (fun w3 H locs e hP hS => ?_)
        have h := sq_at h e
        refine lv_iconst (v := 1) hx hb dX7_take_53 (by decide) ?_
        exact e_i hx hb hr rfl hlocks hP hS (Nat.le_of_ble_eq_true rfl) (Nat.le_of_ble_eq_true rfl) (Prod.mk.inj (so_el h)) dX7_take_54
      · have h := br_er h cc
        refine lv_iconst (v := 0) hx hb dX7_take_25 (by decide) ?_
        exact e_i hx hb hr rfl hlocks hP hS (Nat.le_of_ble_eq_true rfl) (Nat.le_of_ble_eq_true rfl) (Prod.mk.inj (so_el h)) dX7_take_26

def f_X8_add (a0 : Nat) (a1 : Nat) (a2 : Int32) (a3 : Int32) (w : Mm) : Option (Int32 × Mm) := br ((gI w 25 a0 7) < 0) (some (0, w)) (br ((gI w 25 a0 7) < 400) (gd (vB (gI w 25 a0 7) 400) (gd (kok a1) (sq (pR w 28 a0 (gI w 25 a0 7).toNatClampNeg a1) (fun w2 => gd (vB (gI w2 25 a0 7) 400) (sq (pI w2 29 a0 (gI w2 25 a0 7).toNatClampNeg a2) (fun w4 => gd (vB (gI w4 25 a0 7) 400) (sq (pI w4 30 a0 (gI w4 25 a0 7).toNatClampNeg a3) (fun w6 => sq (pI w6 25 a0 7 ((gI w6 25 a0 7) + 1)) (fun w7 => some (1, w7)))))))))) (some (0, w)))

theorem miX8_add : MI RX8 yX8_add cX8_add 4 (some .boolean) 3 := ⟨w3_14, w3_15, w1_12, w3_16, rfl, by decide +kernel, by decide +kernel, by decide +kernel⟩
set_option maxHeartbeats 4000000 in
set_option maxRecDepth 100000 in
theorem c_X8_add (l : Launch) (G : GG) (hF : gF G = true) (a0 : Nat) (ha0 : a0 < cnt 25) (a1 : Nat) (a2 : Int32) (a3 : Int32) (w : Mm) (r : Int32) (w' : Mm) (h : f_X8_add a0 a1 a2 a3 w = some (r, w')) : Ki l G yX8_add cX8_add 4 (some .boolean) { frames := 0, cells := 0, slots := 0, locals := 0 } [.ref (adr (gB G) 25 a0), kR G a1, .int a2, .int a3] w r w' := by
  refine k_of (by decide +kernel) (by simp [lg_sl, cat_kR, cat_ref, cat_int, cat_long]) ?_
  intro p e s m args below meth c ls hx hb hml hr hown hlocks hts hin hP hE hl
  have hC : CX p s m args c meth G cX8_add 4 (some .boolean) RX8 := ⟨hx, hb, hml, hr, hown, hlocks, hts, hE⟩
  have hS : va_S (Ab G) s.heap s.heap [] := va_S.rf
  have hcs : 0 ≤ 0 ∧ 0 ≤ 0 := ⟨Nat.zero_le _, Nat.zero_le _⟩
  have hl : lv_has ls 4 [(0, .ref (adr (gB G) 25 a0)), (1, kR G a1), (2, .int a2), (3, .int a3)] := by simpa [lv_args, cat_kR, cat_ref, cat_int, cat_long] using hl
  unfold f_X8_add at h
  refine lv_aload_n hx hb dX8_add_0 rfl (lv_at hl 0 rfl) ?_
  refine k_get (ci := 6) (v := .int (gI w 25 a0 7)) hx hb hts hE inX8 hown hP (hp_sh hP hF a0 25 ha0) (by decide) rfl rfl 7 (by decide) w2_45 rfl rfl dX8_add_1 ?_
  refine lv_if_lt (tgt := 17) hx hb dX8_add_4 (by decide) (fun cc => ?_) (fun cc => ?_)
  · have h := br_el h cc
    refine lv_iconst (v := 0) hx hb dX8_add_17 (by decide) ?_
    exact e_i hx hb hr rfl hlocks hP hS (Nat.le_of_ble_eq_true rfl) (Nat.le_of_ble_eq_true rfl) (Prod.mk.inj (so_el h)) dX8_add_18
  · have h := br_er h cc
    refine lv_aload_n hx hb dX8_add_7 rfl (lv_at hl 0 rfl) ?_
    refine k_get (ci := 6) (v := .int (gI w 25 a0 7)) hx hb hts hE inX8 hown hP (hp_sh hP hF a0 25 ha0) (by decide) rfl rfl 7 (by decide) w2_45 rfl rfl dX8_add_8 ?_
    refine lv_sipush (v := 400) hx hb dX8_add_11 (by decide) ?_
    refine lv_icmp_lt (tgt := 19) hx hb dX8_add_14 (by decide) (fun cc => ?_) (fun cc => ?_)
    · have h := br_el h cc
      refine lv_aload_n hx hb dX8_add_19 rfl (lv_at hl 0 rfl) ?_
      refine k_get (ci := 6) (v := .ref (adr (gB G) 28 a0)) hx hb hts hE inX8 hown hP (hp_sh hP hF a0 25 ha0) (by decide) rfl rfl 4 (by decide) w2_38 rfl rfl dX8_add_20 ?_
      refine lv_aload_n hx hb dX8_add_23 rfl (lv_at hl 0 rfl) ?_
      refine k_get (ci := 6) (v := .int (gI w 25 a0 7)) hx hb hts hE inX8 hown hP (hp_sh hP hF a0 25 ha0) (by decide) rfl rfl 7 (by decide) w2_45 rfl rfl dX8_add_24 ?_
      refine k_aload_n hx hb dX8_add_27 rfl (lv_at hl 1 rfl) ?_
      obtain ⟨g1, h⟩ := gd_el h
      obtain ⟨gk, h⟩ := gd_el h
      refine k_kast (x := a1) hx hb hE hP hS (hp_sh hP hF a0 28 ha0) (by decide) rfl rfl g1 gk dX8_add_28 (fun w2 H locs e hP hS => ?_)
      have h := sq_at h e
      refine lv_aload_n hx hb dX8_add_29 rfl (lv_at hl 0 rfl) ?_
      refine k_get (ci := 6) (v := .ref (adr (gB G) 29 a0)) hx hb hts hE inX8 hown hP (hp_sh hP hF a0 25 ha0) (by decide) rfl rfl 5 (by decide) w2_40 rfl rfl dX8_add_30 ?_
      refine lv_aload_n hx hb dX8_add_33 rfl (lv_at hl 0 rfl) ?_
      refine k_get (ci := 6) (v := .int (gI w2 25 a0 7)) hx hb hts hE inX8 hown hP (hp_sh hP hF a0 25 ha0) (by decide) rfl rfl 7 (by decide) w2_45 rfl rfl dX8_add_34 ?_
      refine lv_iload_n hx hb dX8_add_37 rfl (lv_at hl 2 rfl) ?_
      obtain ⟨g3, h⟩ := gd_el h
      refine k_iast hx hb hE hP hS (hp_sh hP hF a0 29 ha0) (by decide) rfl rfl g3 dX8_add_38 (fun w4 H locs e hP hS => ?_)
      have h := sq_at h e
      refine lv_aload_n hx hb dX8_add_39 rfl (lv_at hl 0 rfl) ?_
      refine k_get (ci := 6) (v := .ref (adr (gB G) 30 a0)) hx hb hts hE inX8 hown hP (hp_sh hP hF a0 25 ha0) (by decide) rfl rfl 6 (by decide) w2_42 rfl rfl dX8_add_40 ?_
      refine lv_aload_n hx hb dX8_add_43 rfl (lv_at hl 0 rfl) ?_
      refine k_get (ci := 6) (v := .int (gI w4 25 a0 7)) hx hb hts hE inX8 hown hP (hp_sh hP hF a0 25 ha0) (by decide) rfl rfl 7 (by decide) w2_45 rfl rfl dX8_add_44 ?_
      refine lv_iload_n hx hb dX8_add_47 rfl (lv_at hl 3 rfl) ?_
      obtain ⟨g5, h⟩ := gd_el h
      refine k_iast hx hb hE hP hS (hp_sh hP hF a0 30 ha0) (by decide) rfl rfl g5 dX8_add_48 (fun w6 H locs e hP hS => ?_)
      have h := sq_at h e
      refine lv_aload_n hx hb dX8_add_49 rfl (lv_at hl 0 rfl) ?_
      refine lv_dup hx hb dX8_add_50 rfl ?_
      refine k_get (ci := 6) (v := .int (gI w6 25 a0 7)) hx hb hts hE inX8 hown hP (hp_sh hP hF a0 25 ha0) (by decide) rfl rfl 7 (by decide) w2_45 rfl rfl dX8_add_51 ?_
      refine lv_iconst (v := 1) hx hb dX8_add_54 (by decide) ?_
      refine lv_iadd hx hb dX8_add_55 ?_
      refine k_put (ci := 6) (ty := .int) (v := .int ((gI w6 25 a0 7) + 1)) (w1 := pI w6 25 a0 7 ((gI w6 25 a0 7) + 1)) hx hb hts hE inX8 tyX8 tyX8_ok nmX8 hown hP hS (hp_sh hP hF a0 25 ha0) (by decide) rfl rfl 7 (by decide) w2_45 rfl rfl rfl rfl rfl (Nat.le_of_ble_eq_true rfl) loc_pI (wce_pI.trans rfl) dX8_add_56 (fun w7 H locs e hP hS => ?_)
      have h := sq_at h e
      refine lv_iconst (v := 1) hx hb dX8_add_59 (by decide) ?_
      exact e_i hx hb hr rfl hlocks hP hS (Nat.le_of_ble_eq_true rfl) (Nat.le_of_ble_eq_true rfl) (Prod.mk.inj (so_el h)) dX8_add_60
    · have h := br_er h cc
      refine lv_iconst (v := 0) hx hb dX8_add_17 (by decide) ?_
      exact e_i hx hb hr rfl hlocks hP hS (Nat.le_of_ble_eq_true rfl) (Nat.le_of_ble_eq_true rfl) (Prod.mk.inj (so_el h)) dX8_add_18

def f_X4_isComparison (a0 : Nat) (w : Mm) : Option (Int32 × Mm) := br (a0 = 40) (some (1, w)) (br (a0 = 41) (some (1, w)) (br (a0 = 42) (some (1, w)) (br (a0 = 43) (some (1, w)) (br (a0 = 44) (some (1, w)) (some (0, w))))))

theorem miX4_isComparison : MI RX4 yX4_isComparison cX4_isComparison 1 (some .boolean) 0 := ⟨w3_55, w3_56, w1_5, w3_57, rfl, by decide +kernel, by decide +kernel, by decide +kernel⟩
set_option maxHeartbeats 4000000 in
set_option maxRecDepth 100000 in
theorem c_X4_isComparison (l : Launch) (G : GG) (hF : gF G = true) (a0 : Nat) (w : Mm) (r : Int32) (w' : Mm) (h : f_X4_isComparison a0 w = some (r, w')) : Ki l G yX4_isComparison cX4_isComparison 1 (some .boolean) { frames := 0, cells := 0, slots := 0, locals := 0 } [kR G a0] w r w' := by
  refine k_of (by decide +kernel) (by simp [lg_sl, cat_kR, cat_ref, cat_int, cat_long]) ?_
  intro p e s m args below meth c ls hx hb hml hr hown hlocks hts hin hP hE hl
  have hC : CX p s m args c meth G cX4_isComparison 1 (some .boolean) RX4 := ⟨hx, hb, hml, hr, hown, hlocks, hts, hE⟩
  have hS : va_S (Ab G) s.heap s.heap [] := va_S.rf
  have hcs : 0 ≤ 0 ∧ 0 ≤ 0 := ⟨Nat.zero_le _, Nat.zero_le _⟩
  have hl : lv_has ls 1 [(0, kR G a0)] := by simpa [lv_args, cat_kR, cat_ref, cat_int, cat_long] using hl
  unfold f_X4_isComparison at h
  refine k_aload_n hx hb dX4_isComparison_0 rfl (lv_at hl 0 rfl) ?_
  refine k_kind (i := 39) (nm := "LESS") hx hb hE hS hown rfl (by decide) (hts _ w3_58) dX4_isComparison_1 ?_
  refine k_acmp_eq (x := a0) (y := 40) (tgt := 35) hx hb hE dX4_isComparison_4 (by decide) (fun cc => ?_) (fun cc => ?_)
  · have h := br_el h cc
    refine lv_iconst (v := 1) hx hb dX4_isComparison_35 (by decide) ?_
    refine lv_goto (tgt := 40) hx hb dX4_isComparison_36 (by decide) ?_
    exact e_i hx hb hr rfl hlocks hP hS (Nat.le_of_ble_eq_true rfl) (Nat.le_of_ble_eq_true rfl) (Prod.mk.inj (so_el h)) dX4_isComparison_40
  · have h := br_er h cc
    refine k_aload_n hx hb dX4_isComparison_7 rfl (lv_at hl 0 rfl) ?_
    refine k_kind (i := 40) (nm := "GREATER") hx hb hE hS hown rfl (by decide) (hts _ w3_59) dX4_isComparison_8 ?_
    refine k_acmp_eq (x := a0) (y := 41) (tgt := 35) hx hb hE dX4_isComparison_11 (by decide) (fun cc => ?_) (fun cc => ?_)
    · have h := br_el h cc
      refine lv_iconst (v := 1) hx hb dX4_isComparison_35 (by decide) ?_
      refine lv_goto (tgt := 40) hx hb dX4_isComparison_36 (by decide) ?_
      exact e_i hx hb hr rfl hlocks hP hS (Nat.le_of_ble_eq_true rfl) (Nat.le_of_ble_eq_true rfl) (Prod.mk.inj (so_el h)) dX4_isComparison_40
    · have h := br_er h cc
      refine k_aload_n hx hb dX4_isComparison_14 rfl (lv_at hl 0 rfl) ?_
      refine k_kind (i := 41) (nm := "EQUAL") hx hb hE hS hown rfl (by decide) (hts _ w3_60) dX4_isComparison_15 ?_
      refine k_acmp_eq (x := a0) (y := 42) (tgt := 35) hx hb hE dX4_isComparison_18 (by decide) (fun cc => ?_) (fun cc => ?_)
      · have h := br_el h cc
        refine lv_iconst (v := 1) hx hb dX4_isComparison_35 (by decide) ?_
        refine lv_goto (tgt := 40) hx hb dX4_isComparison_36 (by decide) ?_
        exact e_i hx hb hr rfl hlocks hP hS (Nat.le_of_ble_eq_true rfl) (Nat.le_of_ble_eq_true rfl) (Prod.mk.inj (so_el h)) dX4_isComparison_40
      · have h := br_er h cc
        refine k_aload_n hx hb dX4_isComparison_21 rfl (lv_at hl 0 rfl) ?_
        refine k_kind (i := 42) (nm := "AT_MOST") hx hb hE hS hown rfl (by decide) (hts _ w3_61) dX4_isComparison_22 ?_
        refine k_acmp_eq (x := a0) (y := 43) (tgt := 35) hx hb hE dX4_isComparison_25 (by decide) (fun cc => ?_) (fun cc => ?_)
        · have h := br_el h cc
          refine lv_iconst (v := 1) hx hb dX4_isComparison_35 (by decide) ?_
          refine lv_goto (tgt := 40) hx hb dX4_isComparison_36 (by decide) ?_
          exact e_i hx hb hr rfl hlocks hP hS (Nat.le_of_ble_eq_true rfl) (Nat.le_of_ble_eq_true rfl) (Prod.mk.inj (so_el h)) dX4_isComparison_40
        · have h := br_er h cc
          refine k_aload_n hx hb dX4_isComparison_28 rfl (lv_at hl 0 rfl) ?_
          refine k_kind (i := 43) (nm := "AT_LEAST") hx hb hE hS hown rfl (by decide) (hts _ w3_62) dX4_isComparison_29 ?_
          refine k_acmp_ne (x := a0) (y := 44) (tgt := 39) hx hb hE dX4_isComparison_32 (by decide) (fun cc => ?_) (fun cc => ?_)
          · have h := br_er h cc
            refine lv_iconst (v := 0) hx hb dX4_isComparison_39 (by decide) ?_
            exact e_i hx hb hr rfl hlocks hP hS (Nat.le_of_ble_eq_true rfl) (Nat.le_of_ble_eq_true rfl) (Prod.mk.inj (so_el h)) dX4_isComparison_40
          · have h := br_el h cc
            refine lv_iconst (v := 1) hx hb dX4_isComparison_35 (by decide) ?_
            refine lv_goto (tgt := 40) hx hb dX4_isComparison_36 (by decide) ?_
            exact e_i hx hb hr rfl hlocks hP hS (Nat.le_of_ble_eq_true rfl) (Nat.le_of_ble_eq_true rfl) (Prod.mk.inj (so_el h)) dX4_isComparison_40

def f_X8_clear (a0 : Nat) (w : Mm) : Option (Mm) := sq (pI w 25 a0 2 0) (fun w1 => sq (pI w1 25 a0 3 0) (fun w2 => sq (pI w2 25 a0 7 0) (fun w3 => some w3)))

theorem miX8_clear : MI RX8 yX8_clear cX8_clear 1 none 0 := ⟨w2_208, w2_209, w1_12, w2_210, rfl, by decide +kernel, by decide +kernel, by decide +kernel⟩
set_option maxHeartbeats 4000000 in
set_option maxRecDepth 100000 in
theorem c_X8_clear (l : Launch) (G : GG) (hF : gF G = true) (a0 : Nat) (ha0 : a0 < cnt 25) (w : Mm) (w' : Mm) (h : f_X8_clear a0 w = some w') : Kv l G yX8_clear cX8_clear 1 none { frames := 0, cells := 0, slots := 0, locals := 0 } [.ref (adr (gB G) 25 a0)] w w' := by
  refine k_of (by decide +kernel) (Nat.le_of_ble_eq_true rfl) ?_
  intro p e s m args below meth c ls hx hb hml hr hown hlocks hts hin hP hE hl
  have hC : CX p s m args c meth G cX8_clear 1 none RX8 := ⟨hx, hb, hml, hr, hown, hlocks, hts, hE⟩
  have hS : va_S (Ab G) s.heap s.heap [] := va_S.rf
  have hcs : 0 ≤ 0 ∧ 0 ≤ 0 := ⟨Nat.zero_le _, Nat.zero_le _⟩
  have hl : lv_has ls 1 [(0, .ref (adr (gB G) 25 a0))] := hl
  unfold f_X8_clear at h
  refine lv_aload_n hx hb dX8_clear_0 rfl (lv_at hl 0 rfl) ?_
  refine lv_iconst (v := 0) hx hb dX8_clear_1 (by decide) ?_
  refine k_put (ci := 6) (ty := .int) (v := .int 0) (w1 := pI w 25 a0 2 0) hx hb hts hE inX8 tyX8 tyX8_ok nmX8 hown hP hS (hp_sh hP hF a0 25 ha0) (by decide) rfl rfl 2 (by decide) w2_32 rfl rfl rfl rfl rfl (Nat.le_of_ble_eq_true rfl) loc_pI (wce_pI.trans rfl) dX8_clear_2 (fun w1 H locs e hP hS => ?_)
  have h := sq_at h e
  refine lv_aload_n hx hb dX8_clear_5 rfl (lv_at hl 0 rfl) ?_
  refine lv_iconst (v := 0) hx hb dX8_clear_6 (by decide) ?_
  refine k_put (ci := 6) (ty := .int) (v := .int 0) (w1 := pI w1 25 a0 3 0) hx hb hts hE inX8 tyX8 tyX8_ok nmX8 hown hP hS (hp_sh hP hF a0 25 ha0) (by decide) rfl rfl 3 (by decide) w2_35 rfl rfl rfl rfl rfl (Nat.le_of_ble_eq_true rfl) loc_pI (wce_pI.trans rfl) dX8_clear_7 (fun w2 H locs e hP hS => ?_)
  have h := sq_at h e
  refine lv_aload_n hx hb dX8_clear_10 rfl (lv_at hl 0 rfl) ?_
  refine lv_iconst (v := 0) hx hb dX8_clear_11 (by decide) ?_
  refine k_put (ci := 6) (ty := .int) (v := .int 0) (w1 := pI w2 25 a0 7 0) hx hb hts hE inX8 tyX8 tyX8_ok nmX8 hown hP hS (hp_sh hP hF a0 25 ha0) (by decide) rfl rfl 7 (by decide) w2_45 rfl rfl rfl rfl rfl (Nat.le_of_ble_eq_true rfl) loc_pI (wce_pI.trans rfl) dX8_clear_12 (fun w3 H locs e hP hS => ?_)
  have h := sq_at h e
  exact e_v hx hb hr hlocks hP hS (Nat.le_of_ble_eq_true rfl) (Nat.le_of_ble_eq_true rfl) (so_el h) dX8_clear_15

def f_X8_link_L2 (z0 : Nat) : Nat → Int32 → Mm → Option (Mm)
  | 0, _, _ => none
  | n + 1, u2, w => br ((gI w 25 z0 7) ≤ u2) (some w) (br (400 ≤ u2) (some w) (gd (vB u2 400) (bd1 (f_X11_meaning (gI w 29 z0 u2.toNatClampNeg) w) (fun r2 w3 => gd (vB u2 400) (sq (pI w3 29 z0 u2.toNatClampNeg r2) (fun w5 => gd (vB u2 400) (bd1 (f_X11_meaning (gI w5 30 z0 u2.toNatClampNeg) w5) (fun r7 w8 => gd (vB u2 400) (sq (pI w8 30 z0 u2.toNatClampNeg r7) (fun w10 => sq (u2 + 1) (fun x11 => f_X8_link_L2 z0 n x11 w10)))))))))))

def f_X8_link (a0 : Nat) (w : Mm) : Option (Mm) := bd0 (f_X8_link_L2 a0 LF 0 w) (fun w12 => some w12)

theorem miX8_link : MI RX8 yX8_link cX8_link 3 none 1 := ⟨w3_151, w3_152, w1_12, w3_153, rfl, by decide +kernel, by decide +kernel, by decide +kernel⟩
set_option maxHeartbeats 4000000 in
set_option maxRecDepth 100000 in
theorem l_X8_link_2 {p : Program} {l : Launch} {e : Env} {R : Room} {s : State} {m : MethodId} {args : Array Value} {below : List Frame} {meth : Method} {c : Code} {cells slots : Nat} {Q : State → Prop} {G : GG} (hC : CX p s m args c meth G cX8_link 3 none RX8) (hR : R = { frames := 2, cells := 0, slots := 0, locals := 42 }) (hcs : cells ≤ R.cells ∧ slots ≤ R.slots) (hF : gF G = true) (z0 : Nat) (hz0 : z0 < cnt 25) : ∀ (n : Nat) (u2 : Int32) (w : Mm) (w' : Mm), f_X8_link_L2 z0 n u2 w = some w' → ∀ (H : Heap) (locs : List Loc) (ls : Array Slot), HP G w H → va_S (Ab G) s.heap H locs → lv_has ls 3 [(0, .ref (adr (gB G) 25 z0)), (1, .ref (adr (gB G) 4 0)), (2, .int u2)] → (∀ (H : Heap) (locs : List Loc) (ls : Array Slot), HP G w' H → va_S (Ab G) s.heap H locs → lv_has ls 3 [] → W p l e R s m args below meth c H locs cells slots Q (F0 m 55 ls [])) → W p l e R s m args below meth c H locs cells slots Q (F0 m 2 ls []) := by
  subst hR
  obtain ⟨hx, hb, hml, hr, hown, hlocks, hts, hE⟩ := id hC
  intro n
  induction n with
  | zero =>
    intro u2 w w' h
    rw [f_X8_link_L2] at h
    cases h
  | succ n ih =>
    intro u2 w w' h H locs ls hP hS hl k0
    rw [f_X8_link_L2] at h
    refine lv_iload_n hx hb dX8_link_2 rfl (lv_at hl 2 rfl) ?_
    refine lv_aload_n hx hb dX8_link_3 rfl (lv_at hl 0 rfl) ?_
    refine k_get (ci := 6) (v := .int (gI w 25 z0 7)) hx hb hts hE inX8 hown hP (hp_sh hP hF z0 25 hz0) (by decide) rfl rfl 7 (by decide) w2_45 rfl rfl dX8_link_4 ?_
    refine lv_icmp_ge (tgt := 55) hx hb dX8_link_7 (by decide) (fun cc => ?_) (fun cc => ?_)
    · have h := br_el h cc
      cases h
      exact k0 _ _ _ hP hS (lv_sub hl [] rfl)
    · have h := br_er h cc
      refine lv_iload_n hx hb dX8_link_10 rfl (lv_at hl 2 rfl) ?_
      refine lv_sipush (v := 400) hx hb dX8_link_11 (by decide) ?_
      refine lv_icmp_ge (tgt := 55) hx hb dX8_link_14 (by decide) (fun cc => ?_) (fun cc => ?_)
      · have h := br_el h cc
        cases h
        exact k0 _ _ _ hP hS (lv_sub hl [] rfl)
      · have h := br_er h cc
        refine lv_aload_n hx hb dX8_link_17 rfl (lv_at hl 0 rfl) ?_
        refine k_get (ci := 6) (v := .ref (adr (gB G) 29 z0)) hx hb hts hE inX8 hown hP (hp_sh hP hF z0 25 hz0) (by decide) rfl rfl 5 (by decide) w2_40 rfl rfl dX8_link_18 ?_
        refine lv_iload_n hx hb dX8_link_21 rfl (lv_at hl 2 rfl) ?_
        refine lv_aload_n hx hb dX8_link_22 rfl (lv_at hl 1 rfl) ?_
        refine lv_aload_n hx hb dX8_link_23 rfl (lv_at hl 0 rfl) ?_
        refine k_get (ci := 6) (v := .ref (adr (gB G) 29 z0)) hx hb hts hE inX8 hown hP (hp_sh hP hF z0 25 hz0) (by decide) rfl rfl 5 (by decide) w2_40 rfl rfl dX8_link_24 ?_
        refine lv_iload_n hx hb dX8_link_27 rfl (lv_at hl 2 rfl) ?_
        obtain ⟨g1, h⟩ := gd_el h
        refine k_iald hx hb hE hP (hp_sh hP hF z0 29 hz0) (by decide) rfl g1 dX8_link_28 ?_
        obtain ⟨r2, w3, hf, h⟩ := bd1_el h
        refine c_oni (c_runV (b := adr (gB G) 4 0) (As := [.int (gI w 29 z0 u2.toNatClampNeg)]) (rest := [.int u2, .ref (adr (gB G) 29 z0)]) hx hb hml hown hts hE hP hS (c_X11_meaning l G hF (gI w 29 z0 u2.toNatClampNeg) w r2 w3 hf) (c_rec hE hP (hp_sh hP hF 0 4 (by decide)) (by decide) rfl rfl) w3_154 miX11_meaning ⟨Nat.le_of_ble_eq_true rfl, Nat.le_of_ble_eq_true rfl⟩ rfl hl.1 rfl (Nat.le_of_ble_eq_true rfl) dX8_link_29 hcs) hS (fun H locs hP hS => ?_)
        obtain ⟨g4, h⟩ := gd_el h
        refine k_iast hx hb hE hP hS (hp_sh hP hF z0 29 hz0) (by decide) rfl rfl g4 dX8_link_32 (fun w5 H locs e hP hS => ?_)
        have h := sq_at h e
        refine lv_aload_n hx hb dX8_link_33 rfl (lv_at hl 0 rfl) ?_
        refine k_get (ci := 6) (v := .ref (adr (gB G) 30 z0)) hx hb hts hE inX8 hown hP (hp_sh hP hF z0 25 hz0) (by decide) rfl rfl 6 (by decide) w2_42 rfl rfl dX8_link_34 ?_
        refine lv_iload_n hx hb dX8_link_37 rfl (lv_at hl 2 rfl) ?_
        refine lv_aload_n hx hb dX8_link_38 rfl (lv_at hl 1 rfl) ?_
        refine lv_aload_n hx hb dX8_link_39 rfl (lv_at hl 0 rfl) ?_
        refine k_get (ci := 6) (v := .ref (adr (gB G) 30 z0)) hx hb hts hE inX8 hown hP (hp_sh hP hF z0 25 hz0) (by decide) rfl rfl 6 (by decide) w2_42 rfl rfl dX8_link_40 ?_
        refine lv_iload_n hx hb dX8_link_43 rfl (lv_at hl 2 rfl) ?_
        obtain ⟨g6, h⟩ := gd_el h
        refine k_iald hx hb hE hP (hp_sh hP hF z0 30 hz0) (by decide) rfl g6 dX8_link_44 ?_
        obtain ⟨r7, w8, hf, h⟩ := bd1_el h
        refine c_oni (c_runV (b := adr (gB G) 4 0) (As := [.int (gI w5 30 z0 u2.toNatClampNeg)]) (rest := [.int u2, .ref (adr (gB G) 30 z0)]) hx hb hml hown hts hE hP hS (c_X11_meaning l G hF (gI w5 30 z0 u2.toNatClampNeg) w5 r7 w8 hf) (c_rec hE hP (hp_sh hP hF 0 4 (by decide)) (by decide) rfl rfl) w3_154 miX11_meaning ⟨Nat.le_of_ble_eq_true rfl, Nat.le_of_ble_eq_true rfl⟩ rfl hl.1 rfl (Nat.le_of_ble_eq_true rfl) dX8_link_45 hcs) hS (fun H locs hP hS => ?_)
        obtain ⟨g9, h⟩ := gd_el h
        refine k_iast hx hb hE hP hS (hp_sh hP hF z0 30 hz0) (by decide) rfl rfl g9 dX8_link_48 (fun w10 H locs e hP hS => ?_)
        have h := sq_at h e
        obtain ⟨x11, e⟩ : ∃ z : Int32, z = u2 + 1 := ⟨_, rfl⟩
        have h := sq_at h e
        refine lv_iinc (v := x11) (lv' := [(2, .int x11), (0, .ref (adr (gB G) 25 z0)), (1, .ref (adr (gB G) 4 0))]) hx hb dX8_link_49 hl (k := 2) rfl (by rw [e]; rfl) (by decide) rfl (fun ls hl => ?_)
        refine lv_goto (tgt := 2) hx hb dX8_link_52 (by decide) ?_
        exact ih x11 w10 w' h _ _ _ hP hS (lv_sub hl [1, 2, 0] rfl) k0

set_option maxHeartbeats 4000000 in
set_option maxRecDepth 100000 in
theorem c_X8_link (l : Launch) (G : GG) (hF : gF G = true) (a0 : Nat) (ha0 : a0 < cnt 25) (w : Mm) (w' : Mm) (h : f_X8_link a0 w = some w') : Kv l G yX8_link cX8_link 3 none { frames := 2, cells := 0, slots := 0, locals := 42 } [.ref (adr (gB G) 25 a0), .ref (adr (gB G) 4 0)] w w' := by
  refine k_of (by decide +kernel) (Nat.le_of_ble_eq_true rfl) ?_
  intro p e s m args below meth c ls hx hb hml hr hown hlocks hts hin hP hE hl
  have hC : CX p s m args c meth G cX8_link 3 none RX8 := ⟨hx, hb, hml, hr, hown, hlocks, hts, hE⟩
  have hS : va_S (Ab G) s.heap s.heap [] := va_S.rf
  have hcs : 0 ≤ 0 ∧ 0 ≤ 0 := ⟨Nat.zero_le _, Nat.zero_le _⟩
  have hl : lv_has ls 3 [(0, .ref (adr (gB G) 25 a0)), (1, .ref (adr (gB G) 4 0))] := hl
  unfold f_X8_link at h
  refine lv_iconst (v := 0) hx hb dX8_link_0 (by decide) ?_
  refine lv_istore_n (i := 2) (lv' := [(2, .int 0), (0, .ref (adr (gB G) 25 a0)), (1, .ref (adr (gB G) 4 0))]) hx hb dX8_link_1 rfl hl (by decide) rfl (fun ls hl => ?_)
  obtain ⟨w12, hf, h⟩ := bd0_el h
  refine l_X8_link_2 hC rfl hcs hF a0 ha0 LF 0 w w12 hf _ _ _ hP hS (lv_sub hl [1, 2, 0] rfl) (fun H locs ls hP hS hl => ?_)
  exact e_v hx hb hr hlocks hP hS (Nat.le_of_ble_eq_true rfl) (Nat.le_of_ble_eq_true rfl) (so_el h) dX8_link_55

def f_X10_at (a1 : Int32) (w : Mm) : Option (Int32 × Mm) := br (a1 < 0) (some ((-1), w)) (br ((gI w 2 0 1) ≤ a1) (some ((-1), w)) (br (a1 < 2000) (gd (vB a1 2000) (some ((gI w 3 0 a1.toNatClampNeg) &&& 255, w))) (some ((-1), w))))

theorem miX10_at : MI RX10 yX10_at cX10_at 2 (some .int) 1 := ⟨w2_131, w2_132, w1_2, w2_133, rfl, by decide +kernel, by decide +kernel, by decide +kernel⟩
set_option maxHeartbeats 4000000 in
set_option maxRecDepth 100000 in
theorem c_X10_at (l : Launch) (G : GG) (hF : gF G = true) (a1 : Int32) (w : Mm) (r : Int32) (w' : Mm) (h : f_X10_at a1 w = some (r, w')) : Ki l G yX10_at cX10_at 2 (some .int) { frames := 0, cells := 0, slots := 0, locals := 0 } [.ref (adr (gB G) 2 0), .int a1] w r w' := by
  refine k_of (by decide +kernel) (Nat.le_of_ble_eq_true rfl) ?_
  intro p e s m args below meth c ls hx hb hml hr hown hlocks hts hin hP hE hl
  have hC : CX p s m args c meth G cX10_at 2 (some .int) RX10 := ⟨hx, hb, hml, hr, hown, hlocks, hts, hE⟩
  have hS : va_S (Ab G) s.heap s.heap [] := va_S.rf
  have hcs : 0 ≤ 0 ∧ 0 ≤ 0 := ⟨Nat.zero_le _, Nat.zero_le _⟩
  have hl : lv_has ls 2 [(0, .ref (adr (gB G) 2 0)), (1, .int a1)] := hl
  unfold f_X10_at at h
  refine lv_iload_n hx hb dX10_at_0 rfl (lv_at hl 1 rfl) ?_
  refine lv_if_lt (tgt := 21) hx hb dX10_at_1 (by decide) (fun cc => ?_) (fun cc => ?_)
  · have h := br_el h cc
    refine lv_iconst (v := (-1)) hx hb dX10_at_21 (by decide) ?_
    exact e_i hx hb hr rfl hlocks hP hS (Nat.le_of_ble_eq_true rfl) (Nat.le_of_ble_eq_true rfl) (Prod.mk.inj (so_el h)) dX10_at_22
  · have h := br_er h cc
    refine lv_iload_n hx hb dX10_at_4 rfl (lv_at hl 1 rfl) ?_
    refine lv_aload_n hx hb dX10_at_5 rfl (lv_at hl 0 rfl) ?_
    refine k_get (ci := 8) (v := .int (gI w 2 0 1)) hx hb hts hE inX10 hown hP (hp_sh hP hF 0 2 (by decide)) (by decide) rfl rfl 1 (by decide) w1_47 rfl rfl dX10_at_6 ?_
    refine lv_icmp_ge (tgt := 21) hx hb dX10_at_9 (by decide) (fun cc => ?_) (fun cc => ?_)
    · have h := br_el h cc
      refine lv_iconst (v := (-1)) hx hb dX10_at_21 (by decide) ?_
      exact e_i hx hb hr rfl hlocks hP hS (Nat.le_of_ble_eq_true rfl) (Nat.le_of_ble_eq_true rfl) (Prod.mk.inj (so_el h)) dX10_at_22
    · have h := br_er h cc
      refine lv_iload_n hx hb dX10_at_12 rfl (lv_at hl 1 rfl) ?_
      refine lv_aload_n hx hb dX10_at_13 rfl (lv_at hl 0 rfl) ?_
      refine k_get (ci := 8) (v := .ref (adr (gB G) 3 0)) hx hb hts hE inX10 hown hP (hp_sh hP hF 0 2 (by decide)) (by decide) rfl rfl 0 (by decide) w1_45 rfl rfl dX10_at_14 ?_
      refine k_alen (v := 2000) hx hb hE hP (hp_sh hP hF 0 3 (by decide)) (by decide) rfl 2 rfl rfl dX10_at_17 ?_
      refine lv_icmp_lt (tgt := 23) hx hb dX10_at_18 (by decide) (fun cc => ?_) (fun cc => ?_)
      · have h := br_el h cc
        refine lv_aload_n hx hb dX10_at_23 rfl (lv_at hl 0 rfl) ?_
        refine k_get (ci := 8) (v := .ref (adr (gB G) 3 0)) hx hb hts hE inX10 hown hP (hp_sh hP hF 0 2 (by decide)) (by decide) rfl rfl 0 (by decide) w1_45 rfl rfl dX10_at_24 ?_
        refine lv_iload_n hx hb dX10_at_27 rfl (lv_at hl 1 rfl) ?_
        obtain ⟨g1, h⟩ := gd_el h
        refine k_bald hx hb hE hP (hp_sh hP hF 0 3 (by decide)) (by decide) rfl g1 dX10_at_28 ?_
        refine lv_sipush (v := 255) hx hb dX10_at_29 (by decide) ?_
        refine lv_iand hx hb dX10_at_32 ?_
        exact e_i hx hb hr rfl hlocks hP hS (Nat.le_of_ble_eq_true rfl) (Nat.le_of_ble_eq_true rfl) (Prod.mk.inj (so_el h)) dX10_at_33
      · have h := br_er h cc
        refine lv_iconst (v := (-1)) hx hb dX10_at_21 (by decide) ?_
        exact e_i hx hb hr rfl hlocks hP hS (Nat.le_of_ble_eq_true rfl) (Nat.le_of_ble_eq_true rfl) (Prod.mk.inj (so_el h)) dX10_at_22

def f_X11_isDigit (a0 : Int32) (w : Mm) : Option (Int32 × Mm) := br (a0 < 48) (some (0, w)) (br (57 < a0) (some (0, w)) (some (1, w)))

theorem miX11_isDigit : MS yX11_isDigit cX11_isDigit 1 (some .boolean) 1 := ⟨w2_149, w1_3, w2_150, by decide +kernel, by decide +kernel, by decide +kernel⟩
set_option maxHeartbeats 4000000 in
set_option maxRecDepth 100000 in
theorem c_X11_isDigit (l : Launch) (G : GG) (hF : gF G = true) (a0 : Int32) (w : Mm) (r : Int32) (w' : Mm) (h : f_X11_isDigit a0 w = some (r, w')) : Ki l G yX11_isDigit cX11_isDigit 1 (some .boolean) { frames := 0, cells := 0, slots := 0, locals := 0 } [.int a0] w r w' := by
  refine k_of (by decide +kernel) (Nat.le_of_ble_eq_true rfl) ?_
  intro p e s m args below meth c ls hx hb hml hr hown hlocks hts hin hP hE hl
  have hC : CX p s m args c meth G cX11_isDigit 1 (some .boolean) RX11 := ⟨hx, hb, hml, hr, hown, hlocks, hts, hE⟩
  have hS : va_S (Ab G) s.heap s.heap [] := va_S.rf
  have hcs : 0 ≤ 0 ∧ 0 ≤ 0 := ⟨Nat.zero_le _, Nat.zero_le _⟩
  have hl : lv_has ls 1 [(0, .int a0)] := hl
  unfold f_X11_isDigit at h
  refine lv_iload_n hx hb dX11_isDigit_0 rfl (lv_at hl 0 rfl) ?_
  refine lv_bipush (v := 48) hx hb dX11_isDigit_1 (by decide) ?_
  refine lv_icmp_lt (tgt := 16) hx hb dX11_isDigit_3 (by decide) (fun cc => ?_) (fun cc => ?_)
  · have h := br_el h cc
    refine lv_iconst (v := 0) hx hb dX11_isDigit_16 (by decide) ?_
    exact e_i hx hb hr rfl hlocks hP hS (Nat.le_of_ble_eq_true rfl) (Nat.le_of_ble_eq_true rfl) (Prod.mk.inj (so_el h)) dX11_isDigit_17
  · have h := br_er h cc
    refine lv_iload_n hx hb dX11_isDigit_6 rfl (lv_at hl 0 rfl) ?_
    refine lv_bipush (v := 57) hx hb dX11_isDigit_7 (by decide) ?_
    refine lv_icmp_gt (tgt := 16) hx hb dX11_isDigit_9 (by decide) (fun cc => ?_) (fun cc => ?_)
    · have h := br_el h cc
      refine lv_iconst (v := 0) hx hb dX11_isDigit_16 (by decide) ?_
      exact e_i hx hb hr rfl hlocks hP hS (Nat.le_of_ble_eq_true rfl) (Nat.le_of_ble_eq_true rfl) (Prod.mk.inj (so_el h)) dX11_isDigit_17
    · have h := br_er h cc
      refine lv_iconst (v := 1) hx hb dX11_isDigit_12 (by decide) ?_
      refine lv_goto (tgt := 17) hx hb dX11_isDigit_13 (by decide) ?_
      exact e_i hx hb hr rfl hlocks hP hS (Nat.le_of_ble_eq_true rfl) (Nat.le_of_ble_eq_true rfl) (Prod.mk.inj (so_el h)) dX11_isDigit_17

def f_X11_isLetter (a0 : Int32) (w : Mm) : Option (Int32 × Mm) := br (a0 < 97) (some (0, w)) (br (122 < a0) (some (0, w)) (some (1, w)))

theorem miX11_isLetter : MS yX11_isLetter cX11_isLetter 1 (some .boolean) 1 := ⟨w2_139, w1_3, w2_140, by decide +kernel, by decide +kernel, by decide +kernel⟩
set_option maxHeartbeats 4000000 in
set_option maxRecDepth 100000 in
theorem c_X11_isLetter (l : Launch) (G : GG) (hF : gF G = true) (a0 : Int32) (w : Mm) (r : Int32) (w' : Mm) (h : f_X11_isLetter a0 w = some (r, w')) : Ki l G yX11_isLetter cX11_isLetter 1 (some .boolean) { frames := 0, cells := 0, slots := 0, locals := 0 } [.int a0] w r w' := by
  refine k_of (by decide +kernel) (Nat.le_of_ble_eq_true rfl) ?_
  intro p e s m args below meth c ls hx hb hml hr hown hlocks hts hin hP hE hl
  have hC : CX p s m args c meth G cX11_isLetter 1 (some .boolean) RX11 := ⟨hx, hb, hml, hr, hown, hlocks, hts, hE⟩
  have hS : va_S (Ab G) s.heap s.heap [] := va_S.rf
  have hcs : 0 ≤ 0 ∧ 0 ≤ 0 := ⟨Nat.zero_le _, Nat.zero_le _⟩
  have hl : lv_has ls 1 [(0, .int a0)] := hl
  unfold f_X11_isLetter at h
  refine lv_iload_n hx hb dX11_isLetter_0 rfl (lv_at hl 0 rfl) ?_
  refine lv_bipush (v := 97) hx hb dX11_isLetter_1 (by decide) ?_
  refine lv_icmp_lt (tgt := 16) hx hb dX11_isLetter_3 (by decide) (fun cc => ?_) (fun cc => ?_)
  · have h := br_el h cc
    refine lv_iconst (v := 0) hx hb dX11_isLetter_16 (by decide) ?_
    exact e_i hx hb hr rfl hlocks hP hS (Nat.le_of_ble_eq_true rfl) (Nat.le_of_ble_eq_true rfl) (Prod.mk.inj (so_el h)) dX11_isLetter_17
  · have h := br_er h cc
    refine lv_iload_n hx hb dX11_isLetter_6 rfl (lv_at hl 0 rfl) ?_
    refine lv_bipush (v := 122) hx hb dX11_isLetter_7 (by decide) ?_
    refine lv_icmp_gt (tgt := 16) hx hb dX11_isLetter_9 (by decide) (fun cc => ?_) (fun cc => ?_)
    · have h := br_el h cc
      refine lv_iconst (v := 0) hx hb dX11_isLetter_16 (by decide) ?_
      exact e_i hx hb hr rfl hlocks hP hS (Nat.le_of_ble_eq_true rfl) (Nat.le_of_ble_eq_true rfl) (Prod.mk.inj (so_el h)) dX11_isLetter_17
    · have h := br_er h cc
      refine lv_iconst (v := 1) hx hb dX11_isLetter_12 (by decide) ?_
      refine lv_goto (tgt := 17) hx hb dX11_isLetter_13 (by decide) ?_
      exact e_i hx hb hr rfl hlocks hP hS (Nat.le_of_ble_eq_true rfl) (Nat.le_of_ble_eq_true rfl) (Prod.mk.inj (so_el h)) dX11_isLetter_17

def f_X11_number_L7 : Nat → Int32 → Mm → Option (Int32 × Mm)
  | 0, _, _ => none
  | n + 1, u2, w => br (6 < u2) (some (u2, w)) (bd1 (f_X10_at (gI w 4 0 5) w) (fun r2 w3 => bd1 (f_X11_isDigit r2 w3) (fun r4 w5 => br (r4 = 0) (some (u2, w5)) (bd1 (f_X10_at (gI w5 4 0 5) w5) (fun r6 w7 => sq (pI w7 4 0 7 ((((gI w5 4 0 7) * 10) + r6) - 48)) (fun w8 => sq (u2 + 1) (fun x9 => sq (pI w8 4 0 5 ((gI w8 4 0 5) + 1)) (fun w10 => f_X11_number_L7 n x9 w10))))))))

def f_X11_number (w : Mm) : Option (Nat × Mm) := sq (pI w 4 0 7 0) (fun w1 => bd1 (f_X11_number_L7 LF 0 w1) (fun y11 w12 => br (y11 ≤ 6) (some (4, w12)) (some (2, w12))))

theorem miX11_number : MI RX11 yX11_number cX11_number 3 (some (.object "HedgeNews$Kind")) 1 := ⟨w2_165, (tb_sel 3 rfl rfl), w1_3, w2_166, rfl, by decide +kernel, by decide +kernel, by decide +kernel⟩
set_option maxHeartbeats 4000000 in
set_option maxRecDepth 100000 in
theorem l_X11_number_7 {p : Program} {l : Launch} {e : Env} {R : Room} {s : State} {m : MethodId} {args : Array Value} {below : List Frame} {meth : Method} {c : Code} {cells slots : Nat} {Q : State → Prop} {G : GG} (hC : CX p s m args c meth G cX11_number 3 (some (.object "HedgeNews$Kind")) RX11) (hR : R = { frames := 1, cells := 0, slots := 0, locals := 21 }) (hcs : cells ≤ R.cells ∧ slots ≤ R.slots) (hF : gF G = true)  : ∀ (n : Nat) (u2 : Int32) (w : Mm) (v2 : Int32) (w' : Mm), f_X11_number_L7  n u2 w = some (v2, w') → ∀ (H : Heap) (locs : List Loc) (ls : Array Slot), HP G w H → va_S (Ab G) s.heap H locs → lv_has ls 3 [(0, .ref (adr (gB G) 4 0)), (1, .ref (adr (gB G) 2 0)), (2, .int u2)] → (∀ (H : Heap) (locs : List Loc) (ls : Array Slot), HP G w' H → va_S (Ab G) s.heap H locs → lv_has ls 3 [(2, .int v2)] → W p l e R s m args below meth c H locs cells slots Q (F0 m 66 ls [])) → W p l e R s m args below meth c H locs cells slots Q (F0 m 7 ls []) := by
  subst hR
  obtain ⟨hx, hb, hml, hr, hown, hlocks, hts, hE⟩ := id hC
  intro n
  induction n with
  | zero =>
    intro u2 w v2 w' h
    rw [f_X11_number_L7] at h
    cases h
  | succ n ih =>
    intro u2 w v2 w' h H locs ls hP hS hl k0
    rw [f_X11_number_L7] at h
    refine lv_iload_n hx hb dX11_number_7 rfl (lv_at hl 2 rfl) ?_
    refine lv_bipush (v := 6) hx hb dX11_number_8 (by decide) ?_
    refine lv_icmp_gt (tgt := 66) hx hb dX11_number_10 (by decide) (fun cc => ?_) (fun cc => ?_)
    · have h := br_el h cc
      cases h
      exact k0 _ _ _ hP hS (lv_sub hl [2] rfl)
    · have h := br_er h cc
      refine lv_aload_n hx hb dX11_number_13 rfl (lv_at hl 1 rfl) ?_
      refine lv_aload_n hx hb dX11_number_14 rfl (lv_at hl 0 rfl) ?_
      refine k_get (ci := 9) (v := .int (gI w 4 0 5)) hx hb hts hE inX11 hown hP (hp_sh hP hF 0 4 (by decide)) (by decide) rfl rfl 5 (by decide) w1_71 rfl rfl dX11_number_15 ?_
      obtain ⟨r2, w3, hf, h⟩ := bd1_el h
      refine c_oni (c_runV (b := adr (gB G) 2 0) (As := [.int (gI w 4 0 5)]) (rest := []) hx hb hml hown hts hE hP hS (c_X10_at l G hF (gI w 4 0 5) w r2 w3 hf) (c_rec hE hP (hp_sh hP hF 0 2 (by decide)) (by decide) rfl rfl) w2_130 miX10_at ⟨Nat.le_of_ble_eq_true rfl, Nat.le_of_ble_eq_true rfl⟩ rfl hl.1 rfl (Nat.le_of_ble_eq_true rfl) dX11_number_18 hcs) hS (fun H locs hP hS => ?_)
      obtain ⟨r4, w5, hf, h⟩ := bd1_el h
      refine c_oni (c_runS (As := [.int r2]) (rest := []) hx hb hml hown hts hE hP hS (c_X11_isDigit l G hF r2 w3 r4 w5 hf) w2_148 miX11_isDigit ⟨Nat.le_of_ble_eq_true rfl, Nat.le_of_ble_eq_true rfl⟩ rfl hl.1 rfl (Nat.le_of_ble_eq_true rfl) dX11_number_21 hcs) hS (fun H locs hP hS => ?_)
      refine lv_if_eq (tgt := 66) hx hb dX11_number_24 (by decide) (fun cc => ?_) (fun cc => ?_)
      · have h := br_el h cc
        cases h
        exact k0 _ _ _ hP hS (lv_sub hl [2] rfl)
      · have h := br_er h cc
        refine lv_aload_n hx hb dX11_number_27 rfl (lv_at hl 0 rfl) ?_
        refine lv_aload_n hx hb dX11_number_28 rfl (lv_at hl 0 rfl) ?_
        refine k_get (ci := 9) (v := .int (gI w5 4 0 7)) hx hb hts hE inX11 hown hP (hp_sh hP hF 0 4 (by decide)) (by decide) rfl rfl 7 (by decide) w1_73 rfl rfl dX11_number_29 ?_
        refine lv_bipush (v := 10) hx hb dX11_number_32 (by decide) ?_
        refine lv_imul hx hb dX11_number_34 ?_
        refine lv_aload_n hx hb dX11_number_35 rfl (lv_at hl 1 rfl) ?_
        refine lv_aload_n hx hb dX11_number_36 rfl (lv_at hl 0 rfl) ?_
        refine k_get (ci := 9) (v := .int (gI w5 4 0 5)) hx hb hts hE inX11 hown hP (hp_sh hP hF 0 4 (by decide)) (by decide) rfl rfl 5 (by decide) w1_71 rfl rfl dX11_number_37 ?_
        obtain ⟨r6, w7, hf, h⟩ := bd1_el h
        refine c_oni (c_runV (b := adr (gB G) 2 0) (As := [.int (gI w5 4 0 5)]) (rest := [.int ((gI w5 4 0 7) * 10), .ref (adr (gB G) 4 0)]) hx hb hml hown hts hE hP hS (c_X10_at l G hF (gI w5 4 0 5) w5 r6 w7 hf) (c_rec hE hP (hp_sh hP hF 0 2 (by decide)) (by decide) rfl rfl) w2_130 miX10_at ⟨Nat.le_of_ble_eq_true rfl, Nat.le_of_ble_eq_true rfl⟩ rfl hl.1 rfl (Nat.le_of_ble_eq_true rfl) dX11_number_40 hcs) hS (fun H locs hP hS => ?_)
        refine lv_iadd hx hb dX11_number_43 ?_
        refine lv_bipush (v := 48) hx hb dX11_number_44 (by decide) ?_
        refine lv_isub hx hb dX11_number_46 ?_
        refine k_put (ci := 9) (ty := .int) (v := .int ((((gI w5 4 0 7) * 10) + r6) - 48)) (w1 := pI w7 4 0 7 ((((gI w5 4 0 7) * 10) + r6) - 48)) hx hb hts hE inX11 tyX11 tyX11_ok nmX11 hown hP hS (hp_sh hP hF 0 4 (by decide)) (by decide) rfl rfl 7 (by decide) w1_73 rfl rfl rfl rfl rfl (Nat.le_of_ble_eq_true rfl) loc_pI (wce_pI.trans rfl) dX11_number_47 (fun w8 H locs e hP hS => ?_)
        have h := sq_at h e
        obtain ⟨x9, e⟩ : ∃ z : Int32, z = u2 + 1 := ⟨_, rfl⟩
        have h := sq_at h e
        refine lv_iinc (v := x9) (lv' := [(2, .int x9), (0, .ref (adr (gB G) 4 0)), (1, .ref (adr (gB G) 2 0))]) hx hb dX11_number_50 hl (k := 2) rfl (by rw [e]; rfl) (by decide) rfl (fun ls hl => ?_)
        refine lv_aload_n hx hb dX11_number_53 rfl (lv_at hl 1 rfl) ?_
        refine lv_dup hx hb dX11_number_54 rfl ?_
        refine k_get (ci := 9) (v := .int (gI w8 4 0 5)) hx hb hts hE inX11 hown hP (hp_sh hP hF 0 4 (by decide)) (by decide) rfl rfl 5 (by decide) w1_71 rfl rfl dX11_number_55 ?_
        refine lv_iconst (v := 1) hx hb dX11_number_58 (by decide) ?_
        refine lv_iadd hx hb dX11_number_59 ?_
        refine k_put (ci := 9) (ty := .int) (v := .int ((gI w8 4 0 5) + 1)) (w1 := pI w8 4 0 5 ((gI w8 4 0 5) + 1)) hx hb hts hE inX11 tyX11 tyX11_ok nmX11 hown hP hS (hp_sh hP hF 0 4 (by decide)) (by decide) rfl rfl 5 (by decide) w1_71 rfl rfl rfl rfl rfl (Nat.le_of_ble_eq_true rfl) loc_pI (wce_pI.trans rfl) dX11_number_60 (fun w10 H locs e hP hS => ?_)
        have h := sq_at h e
        refine lv_goto (tgt := 7) hx hb dX11_number_63 (by decide) ?_
        exact ih x9 w10 v2 w' h _ _ _ hP hS (lv_sub hl [1, 2, 0] rfl) k0

set_option maxHeartbeats 4000000 in
set_option maxRecDepth 100000 in
theorem c_X11_number (l : Launch) (G : GG) (hF : gF G = true)  (w : Mm) (r : Nat) (w' : Mm) (h : f_X11_number  w = some (r, w')) : Kq l G yX11_number cX11_number 3 (some (.object "HedgeNews$Kind")) { frames := 1, cells := 0, slots := 0, locals := 21 } [.ref (adr (gB G) 4 0), .ref (adr (gB G) 2 0)] w (kO G r) w' := by
  refine k_of (by decide +kernel) (Nat.le_of_ble_eq_true rfl) ?_
  intro p e s m args below meth c ls hx hb hml hr hown hlocks hts hin hP hE hl
  have hC : CX p s m args c meth G cX11_number 3 (some (.object "HedgeNews$Kind")) RX11 := ⟨hx, hb, hml, hr, hown, hlocks, hts, hE⟩
  have hS : va_S (Ab G) s.heap s.heap [] := va_S.rf
  have hcs : 0 ≤ 0 ∧ 0 ≤ 0 := ⟨Nat.zero_le _, Nat.zero_le _⟩
  have hl : lv_has ls 3 [(0, .ref (adr (gB G) 4 0)), (1, .ref (adr (gB G) 2 0))] := hl
  unfold f_X11_number at h
  refine lv_iconst (v := 0) hx hb dX11_number_0 (by decide) ?_
  refine lv_istore_n (i := 2) (lv' := [(2, .int 0), (0, .ref (adr (gB G) 4 0)), (1, .ref (adr (gB G) 2 0))]) hx hb dX11_number_1 rfl hl (by decide) rfl (fun ls hl => ?_)
  refine lv_aload_n hx hb dX11_number_2 rfl (lv_at hl 1 rfl) ?_
  refine lv_iconst (v := 0) hx hb dX11_number_3 (by decide) ?_
  refine k_put (ci := 9) (ty := .int) (v := .int 0) (w1 := pI w 4 0 7 0) hx hb hts hE inX11 tyX11 tyX11_ok nmX11 hown hP hS (hp_sh hP hF 0 4 (by decide)) (by decide) rfl rfl 7 (by decide) w1_73 rfl rfl rfl rfl rfl (Nat.le_of_ble_eq_true rfl) loc_pI (wce_pI.trans rfl) dX11_number_4 (fun w1 H locs e hP hS => ?_)
  have h := sq_at h e
  obtain ⟨y11, w12, hf, h⟩ := bd1_el h
  refine l_X11_number_7 hC rfl hcs hF LF 0 w1 y11 w12 hf _ _ _ hP hS (lv_sub hl [1, 2, 0] rfl) (fun H locs ls hP hS hl => ?_)
  refine lv_iload_n hx hb dX11_number_66 rfl (lv_at hl 0 rfl) ?_
  refine lv_bipush (v := 6) hx hb dX11_number_67 (by decide) ?_
  refine lv_icmp_le (tgt := 78) hx hb dX11_number_69 (by decide) (fun cc => ?_) (fun cc => ?_)
  · have h := br_el h cc
    refine k_kind (i := 3) (nm := "NUMBER") hx hb hE hS hown rfl (by decide) (hts _ w2_167) dX11_number_78 ?_
    exact e_q (v := kO G 4) hx hb hr (Or.inl ⟨_, rfl⟩) hlocks hP hS (Nat.le_of_ble_eq_true rfl) (Nat.le_of_ble_eq_true rfl) ((Prod.mk.inj (so_el h)).imp (congrArg (kO G)) id) dX11_number_81
  · have h := br_er h cc
    refine k_kind (i := 1) (nm := "BAD") hx hb hE hS hown rfl (by decide) (hts _ w2_154) dX11_number_72 ?_
    refine lv_goto (tgt := 81) hx hb dX11_number_75 (by decide) ?_
    exact e_q (v := kO G 2) hx hb hr (Or.inl ⟨_, rfl⟩) hlocks hP hS (Nat.le_of_ble_eq_true rfl) (Nat.le_of_ble_eq_true rfl) ((Prod.mk.inj (so_el h)).imp (congrArg (kO G)) id) dX11_number_81

def f_X11_withEqual (w : Mm) : Option (Int32 × Mm) := bd1 (f_X10_at (gI w 4 0 5) w) (fun r1 w2 => br (r1 = 61) (sq (pI w2 4 0 5 ((gI w2 4 0 5) + 1)) (fun w3 => some (1, w3))) (some (0, w2)))

theorem miX11_withEqual : MI RX11 yX11_withEqual cX11_withEqual 2 (some .boolean) 1 := ⟨w2_197, (tb_sel 5 rfl rfl), w1_3, w2_198, rfl, by decide +kernel, by decide +kernel, by decide +kernel⟩
set_option maxHeartbeats 4000000 in
set_option maxRecDepth 100000 in
theorem c_X11_withEqual (l : Launch) (G : GG) (hF : gF G = true)  (w : Mm) (r : Int32) (w' : Mm) (h : f_X11_withEqual  w = some (r, w')) : Ki l G yX11_withEqual cX11_withEqual 2 (some .boolean) { frames := 1, cells := 0, slots := 0, locals := 21 } [.ref (adr (gB G) 4 0), .ref (adr (gB G) 2 0)] w r w' := by
  refine k_of (by decide +kernel) (Nat.le_of_ble_eq_true rfl) ?_
  intro p e s m args below meth c ls hx hb hml hr hown hlocks hts hin hP hE hl
  have hC : CX p s m args c meth G cX11_withEqual 2 (some .boolean) RX11 := ⟨hx, hb, hml, hr, hown, hlocks, hts, hE⟩
  have hS : va_S (Ab G) s.heap s.heap [] := va_S.rf
  have hcs : 0 ≤ 0 ∧ 0 ≤ 0 := ⟨Nat.zero_le _, Nat.zero_le _⟩
  have hl : lv_has ls 2 [(0, .ref (adr (gB G) 4 0)), (1, .ref (adr (gB G) 2 0))] := hl
  unfold f_X11_withEqual at h
  refine lv_aload_n hx hb dX11_withEqual_0 rfl (lv_at hl 1 rfl) ?_
  refine lv_aload_n hx hb dX11_withEqual_1 rfl (lv_at hl 0 rfl) ?_
  refine k_get (ci := 9) (v := .int (gI w 4 0 5)) hx hb hts hE inX11 hown hP (hp_sh hP hF 0 4 (by decide)) (by decide) rfl rfl 5 (by decide) w1_71 rfl rfl dX11_withEqual_2 ?_
  obtain ⟨r1, w2, hf, h⟩ := bd1_el h
  refine c_oni (c_runV (b := adr (gB G) 2 0) (As := [.int (gI w 4 0 5)]) (rest := []) hx hb hml hown hts hE hP hS (c_X10_at l G hF (gI w 4 0 5) w r1 w2 hf) (c_rec hE hP (hp_sh hP hF 0 2 (by decide)) (by decide) rfl rfl) w2_130 miX10_at ⟨Nat.le_of_ble_eq_true rfl, Nat.le_of_ble_eq_true rfl⟩ rfl hl.1 rfl (Nat.le_of_ble_eq_true rfl) dX11_withEqual_5 hcs) hS (fun H locs hP hS => ?_)
  refine lv_bipush (v := 61) hx hb dX11_withEqual_8 (by decide) ?_
  refine lv_icmp_eq (tgt := 15) hx hb dX11_withEqual_10 (by decide) (fun cc => ?_) (fun cc => ?_)
  · have h := br_el h cc
    refine lv_aload_n hx hb dX11_withEqual_15 rfl (lv_at hl 0 rfl) ?_
    refine lv_dup hx hb dX11_withEqual_16 rfl ?_
    refine k_get (ci := 9) (v := .int (gI w2 4 0 5)) hx hb hts hE inX11 hown hP (hp_sh hP hF 0 4 (by decide)) (by decide) rfl rfl 5 (by decide) w1_71 rfl rfl dX11_withEqual_17 ?_
    refine lv_iconst (v := 1) hx hb dX11_withEqual_20 (by decide) ?_
    refine lv_iadd hx hb dX11_withEqual_21 ?_
    refine k_put (ci := 9) (ty := .int) (v := .int ((gI w2 4 0 5) + 1)) (w1 := pI w2 4 0 5 ((gI w2 4 0 5) + 1)) hx hb hts hE inX11 tyX11 tyX11_ok nmX11 hown hP hS (hp_sh hP hF 0 4 (by decide)) (by decide) rfl rfl 5 (by decide) w1_71 rfl rfl rfl rfl rfl (Nat.le_of_ble_eq_true rfl) loc_pI (wce_pI.trans rfl) dX11_withEqual_22 (fun w3 H locs e hP hS => ?_)
    have h := sq_at h e
    refine lv_iconst (v := 1) hx hb dX11_withEqual_25 (by decide) ?_
    exact e_i hx hb hr rfl hlocks hP hS (Nat.le_of_ble_eq_true rfl) (Nat.le_of_ble_eq_true rfl) (Prod.mk.inj (so_el h)) dX11_withEqual_26
  · have h := br_er h cc
    refine lv_iconst (v := 0) hx hb dX11_withEqual_13 (by decide) ?_
    exact e_i hx hb hr rfl hlocks hP hS (Nat.le_of_ble_eq_true rfl) (Nat.le_of_ble_eq_true rfl) (Prod.mk.inj (so_el h)) dX11_withEqual_14

def f_X11_symbol (a1 : Int32) (w : Mm) : Option (Nat × Mm) := br (a1 = 40) (some (30, w)) (br (a1 = 41) (some (31, w)) (br (a1 = 42) (some (38, w)) (br (a1 = 43) (some (36, w)) (br (a1 = 44) (some (35, w)) (br (a1 = 45) (some (37, w)) (br (a1 = 47) (some (39, w)) (br (a1 = 59) (some (34, w)) (br (a1 = 60) (bd1 (f_X11_withEqual w) (fun r1 w2 => br (r1 = 0) (some (40, w2)) (some (43, w2)))) (br (a1 = 61) (some (42, w)) (br (a1 = 62) (bd1 (f_X11_withEqual w) (fun r3 w4 => br (r3 = 0) (some (41, w4)) (some (44, w4)))) (br (a1 = 91) (some (32, w)) (br (a1 = 93) (some (33, w)) (some (2, w))))))))))))))

theorem miX11_symbol : MI RX11 yX11_symbol cX11_symbol 3 (some (.object "HedgeNews$Kind")) 2 := ⟨w2_171, (tb_sel 4 rfl rfl), w1_3, w2_172, rfl, by decide +kernel, by decide +kernel, by decide +kernel⟩
set_option maxHeartbeats 4000000 in
set_option maxRecDepth 100000 in
theorem c_X11_symbol (l : Launch) (G : GG) (hF : gF G = true) (a1 : Int32) (w : Mm) (r : Nat) (w' : Mm) (h : f_X11_symbol a1 w = some (r, w')) : Kq l G yX11_symbol cX11_symbol 3 (some (.object "HedgeNews$Kind")) { frames := 2, cells := 0, slots := 0, locals := 42 } [.ref (adr (gB G) 4 0), .int a1, .ref (adr (gB G) 2 0)] w (kO G r) w' := by
  refine k_of (by decide +kernel) (Nat.le_of_ble_eq_true rfl) ?_
  intro p e s m args below meth c ls hx hb hml hr hown hlocks hts hin hP hE hl
  have hC : CX p s m args c meth G cX11_symbol 3 (some (.object "HedgeNews$Kind")) RX11 := ⟨hx, hb, hml, hr, hown, hlocks, hts, hE⟩
  have hS : va_S (Ab G) s.heap s.heap [] := va_S.rf
  have hcs : 0 ≤ 0 ∧ 0 ≤ 0 := ⟨Nat.zero_le _, Nat.zero_le _⟩
  have hl : lv_has ls 3 [(0, .ref (adr (gB G) 4 0)), (1, .int a1), (2, .ref (adr (gB G) 2 0))] := hl
  unfold f_X11_symbol at h
  refine lv_iload_n hx hb dX11_symbol_0 rfl (lv_at hl 1 rfl) ?_
  by_cases c0 : a1 = 40
  · have h := br_el h c0
    refine k_tab (tgt := 232) hx hb dX11_symbol_1 (by decide) (by have cq := c0; (rw [cq]; decide)) ?_
    refine k_kind (i := 29) (nm := "OPEN") hx hb hE hS hown rfl (by decide) (hts _ w2_173) dX11_symbol_232 ?_
    exact e_q (v := kO G 30) hx hb hr (Or.inl ⟨_, rfl⟩) hlocks hP hS (Nat.le_of_ble_eq_true rfl) (Nat.le_of_ble_eq_true rfl) ((Prod.mk.inj (so_el h)).imp (congrArg (kO G)) id) dX11_symbol_235
  · have h := br_er h c0
    by_cases c1 : a1 = 41
    · have h := br_el h c1
      refine k_tab (tgt := 236) hx hb dX11_symbol_1 (by decide) (by have cq := c1; (rw [cq]; decide)) ?_
      refine k_kind (i := 30) (nm := "CLOSE") hx hb hE hS hown rfl (by decide) (hts _ w2_175) dX11_symbol_236 ?_
      exact e_q (v := kO G 31) hx hb hr (Or.inl ⟨_, rfl⟩) hlocks hP hS (Nat.le_of_ble_eq_true rfl) (Nat.le_of_ble_eq_true rfl) ((Prod.mk.inj (so_el h)).imp (congrArg (kO G)) id) dX11_symbol_239
    · have h := br_er h c1
      by_cases c2 : a1 = 42
      · have h := br_el h c2
        refine k_tab (tgt := 264) hx hb dX11_symbol_1 (by decide) (by have cq := c2; (rw [cq]; decide)) ?_
        refine k_kind (i := 37) (nm := "TIMES") hx hb hE hS hown rfl (by decide) (hts _ w2_189) dX11_symbol_264 ?_
        exact e_q (v := kO G 38) hx hb hr (Or.inl ⟨_, rfl⟩) hlocks hP hS (Nat.le_of_ble_eq_true rfl) (Nat.le_of_ble_eq_true rfl) ((Prod.mk.inj (so_el h)).imp (congrArg (kO G)) id) dX11_symbol_267
      · have h := br_er h c2
        by_cases c3 : a1 = 43
        · have h := br_el h c3
          refine k_tab (tgt := 256) hx hb dX11_symbol_1 (by decide) (by have cq := c3; (rw [cq]; decide)) ?_
          refine k_kind (i := 35) (nm := "PLUS") hx hb hE hS hown rfl (by decide) (hts _ w2_185) dX11_symbol_256 ?_
          exact e_q (v := kO G 36) hx hb hr (Or.inl ⟨_, rfl⟩) hlocks hP hS (Nat.le_of_ble_eq_true rfl) (Nat.le_of_ble_eq_true rfl) ((Prod.mk.inj (so_el h)).imp (congrArg (kO G)) id) dX11_symbol_259
        · have h := br_er h c3
          by_cases c4 : a1 = 44
          · have h := br_el h c4
            refine k_tab (tgt := 252) hx hb dX11_symbol_1 (by decide) (by have cq := c4; (rw [cq]; decide)) ?_
            refine k_kind (i := 34) (nm := "COMMA") hx hb hE hS hown rfl (by decide) (hts _ w2_183) dX11_symbol_252 ?_
            exact e_q (v := kO G 35) hx hb hr (Or.inl ⟨_, rfl⟩) hlocks hP hS (Nat.le_of_ble_eq_true rfl) (Nat.le_of_ble_eq_true rfl) ((Prod.mk.inj (so_el h)).imp (congrArg (kO G)) id) dX11_symbol_255
          · have h := br_er h c4
            by_cases c5 : a1 = 45
            · have h := br_el h c5
              refine k_tab (tgt := 260) hx hb dX11_symbol_1 (by decide) (by have cq := c5; (rw [cq]; decide)) ?_
              refine k_kind (i := 36) (nm := "MINUS") hx hb hE hS hown rfl (by decide) (hts _ w2_187) dX11_symbol_260 ?_
              exact e_q (v := kO G 37) hx hb hr (Or.inl ⟨_, rfl⟩) hlocks hP hS (Nat.le_of_ble_eq_true rfl) (Nat.le_of_ble_eq_true rfl) ((Prod.mk.inj (so_el h)).imp (congrArg (kO G)) id) dX11_symbol_263
            · have h := br_er h c5
              by_cases c6 : a1 = 47
              · have h := br_el h c6
                refine k_tab (tgt := 268) hx hb dX11_symbol_1 (by decide) (by have cq := c6; (rw [cq]; decide)) ?_
                refine k_kind (i := 38) (nm := "OVER") hx hb hE hS hown rfl (by decide) (hts _ w2_191) dX11_symbol_268 ?_
                exact e_q (v := kO G 39) hx hb hr (Or.inl ⟨_, rfl⟩) hlocks hP hS (Nat.le_of_ble_eq_true rfl) (Nat.le_of_ble_eq_true rfl) ((Prod.mk.inj (so_el h)).imp (congrArg (kO G)) id) dX11_symbol_271
              · have h := br_er h c6
                by_cases c7 : a1 = 59
                · have h := br_el h c7
                  refine k_tab (tgt := 248) hx hb dX11_symbol_1 (by decide) (by have cq := c7; (rw [cq]; decide)) ?_
                  refine k_kind (i := 33) (nm := "SEMICOLON") hx hb hE hS hown rfl (by decide) (hts _ w2_181) dX11_symbol_248 ?_
                  exact e_q (v := kO G 34) hx hb hr (Or.inl ⟨_, rfl⟩) hlocks hP hS (Nat.le_of_ble_eq_true rfl) (Nat.le_of_ble_eq_true rfl) ((Prod.mk.inj (so_el h)).imp (congrArg (kO G)) id) dX11_symbol_251
                · have h := br_er h c7
                  by_cases c8 : a1 = 60
                  · have h := br_el h c8
                    refine k_tab (tgt := 276) hx hb dX11_symbol_1 (by decide) (by have cq := c8; (rw [cq]; decide)) ?_
                    refine lv_aload_n hx hb dX11_symbol_276 rfl (lv_at hl 0 rfl) ?_
                    refine lv_aload_n hx hb dX11_symbol_277 rfl (lv_at hl 2 rfl) ?_
                    obtain ⟨r1, w2, hf, h⟩ := bd1_el h
                    refine c_oni (c_runV (b := adr (gB G) 4 0) (As := [.ref (adr (gB G) 2 0)]) (rest := []) hx hb hml hown hts hE hP hS (c_X11_withEqual l G hF w r1 w2 hf) (c_rec hE hP (hp_sh hP hF 0 4 (by decide)) (by decide) rfl rfl) w2_195 miX11_withEqual ⟨Nat.le_of_ble_eq_true rfl, Nat.le_of_ble_eq_true rfl⟩ rfl hl.1 rfl (Nat.le_of_ble_eq_true rfl) dX11_symbol_278 hcs) hS (fun H locs hP hS => ?_)
                    refine lv_if_eq (tgt := 290) hx hb dX11_symbol_281 (by decide) (fun cc => ?_) (fun cc => ?_)
                    · have h := br_el h cc
                      refine k_kind (i := 39) (nm := "LESS") hx hb hE hS hown rfl (by decide) (hts _ w2_201) dX11_symbol_290 ?_
                      exact e_q (v := kO G 40) hx hb hr (Or.inl ⟨_, rfl⟩) hlocks hP hS (Nat.le_of_ble_eq_true rfl) (Nat.le_of_ble_eq_true rfl) ((Prod.mk.inj (so_el h)).imp (congrArg (kO G)) id) dX11_symbol_293
                    · have h := br_er h cc
                      refine k_kind (i := 42) (nm := "AT_MOST") hx hb hE hS hown rfl (by decide) (hts _ w2_199) dX11_symbol_284 ?_
                      refine lv_goto (tgt := 293) hx hb dX11_symbol_287 (by decide) ?_
                      exact e_q (v := kO G 43) hx hb hr (Or.inl ⟨_, rfl⟩) hlocks hP hS (Nat.le_of_ble_eq_true rfl) (Nat.le_of_ble_eq_true rfl) ((Prod.mk.inj (so_el h)).imp (congrArg (kO G)) id) dX11_symbol_293
                  · have h := br_er h c8
                    by_cases c9 : a1 = 61
                    · have h := br_el h c9
                      refine k_tab (tgt := 272) hx hb dX11_symbol_1 (by decide) (by have cq := c9; (rw [cq]; decide)) ?_
                      refine k_kind (i := 41) (nm := "EQUAL") hx hb hE hS hown rfl (by decide) (hts _ w2_193) dX11_symbol_272 ?_
                      exact e_q (v := kO G 42) hx hb hr (Or.inl ⟨_, rfl⟩) hlocks hP hS (Nat.le_of_ble_eq_true rfl) (Nat.le_of_ble_eq_true rfl) ((Prod.mk.inj (so_el h)).imp (congrArg (kO G)) id) dX11_symbol_275
                    · have h := br_er h c9
                      by_cases c10 : a1 = 62
                      · have h := br_el h c10
                        refine k_tab (tgt := 294) hx hb dX11_symbol_1 (by decide) (by have cq := c10; (rw [cq]; decide)) ?_
                        refine lv_aload_n hx hb dX11_symbol_294 rfl (lv_at hl 0 rfl) ?_
                        refine lv_aload_n hx hb dX11_symbol_295 rfl (lv_at hl 2 rfl) ?_
                        obtain ⟨r3, w4, hf, h⟩ := bd1_el h
                        refine c_oni (c_runV (b := adr (gB G) 4 0) (As := [.ref (adr (gB G) 2 0)]) (rest := []) hx hb hml hown hts hE hP hS (c_X11_withEqual l G hF w r3 w4 hf) (c_rec hE hP (hp_sh hP hF 0 4 (by decide)) (by decide) rfl rfl) w2_195 miX11_withEqual ⟨Nat.le_of_ble_eq_true rfl, Nat.le_of_ble_eq_true rfl⟩ rfl hl.1 rfl (Nat.le_of_ble_eq_true rfl) dX11_symbol_296 hcs) hS (fun H locs hP hS => ?_)
                        refine lv_if_eq (tgt := 308) hx hb dX11_symbol_299 (by decide) (fun cc => ?_) (fun cc => ?_)
                        · have h := br_el h cc
                          refine k_kind (i := 40) (nm := "GREATER") hx hb hE hS hown rfl (by decide) (hts _ w2_205) dX11_symbol_308 ?_
                          exact e_q (v := kO G 41) hx hb hr (Or.inl ⟨_, rfl⟩) hlocks hP hS (Nat.le_of_ble_eq_true rfl) (Nat.le_of_ble_eq_true rfl) ((Prod.mk.inj (so_el h)).imp (congrArg (kO G)) id) dX11_symbol_311
                        · have h := br_er h cc
                          refine k_kind (i := 43) (nm := "AT_LEAST") hx hb hE hS hown rfl (by decide) (hts _ w2_203) dX11_symbol_302 ?_
                          refine lv_goto (tgt := 311) hx hb dX11_symbol_305 (by decide) ?_
                          exact e_q (v := kO G 44) hx hb hr (Or.inl ⟨_, rfl⟩) hlocks hP hS (Nat.le_of_ble_eq_true rfl) (Nat.le_of_ble_eq_true rfl) ((Prod.mk.inj (so_el h)).imp (congrArg (kO G)) id) dX11_symbol_311
                      · have h := br_er h c10
                        by_cases c11 : a1 = 91
                        · have h := br_el h c11
                          refine k_tab (tgt := 240) hx hb dX11_symbol_1 (by decide) (by have cq := c11; (rw [cq]; decide)) ?_
                          refine k_kind (i := 31) (nm := "OPEN_TEST") hx hb hE hS hown rfl (by decide) (hts _ w2_177) dX11_symbol_240 ?_
                          exact e_q (v := kO G 32) hx hb hr (Or.inl ⟨_, rfl⟩) hlocks hP hS (Nat.le_of_ble_eq_true rfl) (Nat.le_of_ble_eq_true rfl) ((Prod.mk.inj (so_el h)).imp (congrArg (kO G)) id) dX11_symbol_243
                        · have h := br_er h c11
                          by_cases c12 : a1 = 93
                          · have h := br_el h c12
                            refine k_tab (tgt := 244) hx hb dX11_symbol_1 (by decide) (by have cq := c12; (rw [cq]; decide)) ?_
                            refine k_kind (i := 32) (nm := "CLOSE_TEST") hx hb hE hS hown rfl (by decide) (hts _ w2_179) dX11_symbol_244 ?_
                            exact e_q (v := kO G 33) hx hb hr (Or.inl ⟨_, rfl⟩) hlocks hP hS (Nat.le_of_ble_eq_true rfl) (Nat.le_of_ble_eq_true rfl) ((Prod.mk.inj (so_el h)).imp (congrArg (kO G)) id) dX11_symbol_247
                          · have h := br_er h c12
                            refine k_tabD (vs := [40, 41, 42, 43, 44, 45, 47, 59, 60, 61, 62, 91, 93]) (tgt := 312) hx hb dX11_symbol_1 (by decide) (by decide) (by decide) (fun q0 => ( fun q => Or.elim q (fun q => c0 (q)) (fun q => Or.elim q (fun q => c1 (q)) (fun q => Or.elim q (fun q => c2 (q)) (fun q => Or.elim q (fun q => c3 (q)) (fun q => Or.elim q (fun q => c4 (q)) (fun q => Or.elim q (fun q => c5 (q)) (fun q => Or.elim q (fun q => c6 (q)) (fun q => Or.elim q (fun q => c7 (q)) (fun q => Or.elim q (fun q => c8 (q)) (fun q => Or.elim q (fun q => c9 (q)) (fun q => Or.elim q (fun q => c10 (q)) (fun q => Or.elim q (fun q => c11 (q)) (fun q => c12 (q)))))))))))))) (by simpa only [List.mem_cons, List.not_mem_nil, or_false] using q0)) ?_
                            refine k_kind (i := 1) (nm := "BAD") hx hb hE hS hown rfl (by decide) (hts _ w2_154) dX11_symbol_312 ?_
                            exact e_q (v := kO G 2) hx hb hr (Or.inl ⟨_, rfl⟩) hlocks hP hS (Nat.le_of_ble_eq_true rfl) (Nat.le_of_ble_eq_true rfl) ((Prod.mk.inj (so_el h)).imp (congrArg (kO G)) id) dX11_symbol_315

def f_X4_longerKey (a0 : Int64) (a2 : Int32) (w : Mm) : Option (Int64 × Mm) := br (a2 < 97) (sq ((a2 - 48) + 27) (fun x1 => some ((a0 <<< ((6 : Int32).toInt64 &&& 63)) ||| x1.toInt64, w))) (sq ((a2 - 97) + 1) (fun x2 => some ((a0 <<< ((6 : Int32).toInt64 &&& 63)) ||| x2.toInt64, w)))

theorem miX4_longerKey : MS yX4_longerKey cX4_longerKey 4 (some .long) 2 := ⟨w2_152, w1_5, w2_153, by decide +kernel, by decide +kernel, by decide +kernel⟩
set_option maxHeartbeats 4000000 in
set_option maxRecDepth 100000 in
theorem c_X4_longerKey (l : Launch) (G : GG) (hF : gF G = true) (a0 : Int64) (a2 : Int32) (w : Mm) (r : Int64) (w' : Mm) (h : f_X4_longerKey a0 a2 w = some (r, w')) : Kl l G yX4_longerKey cX4_longerKey 4 (some .long) { frames := 0, cells := 0, slots := 0, locals := 0 } [.long a0, .int a2] w r w' := by
  refine k_of (by decide +kernel) (Nat.le_of_ble_eq_true rfl) ?_
  intro p e s m args below meth c ls hx hb hml hr hown hlocks hts hin hP hE hl
  have hC : CX p s m args c meth G cX4_longerKey 4 (some .long) RX4 := ⟨hx, hb, hml, hr, hown, hlocks, hts, hE⟩
  have hS : va_S (Ab G) s.heap s.heap [] := va_S.rf
  have hcs : 0 ≤ 0 ∧ 0 ≤ 0 := ⟨Nat.zero_le _, Nat.zero_le _⟩
  have hl : lv_has ls 4 [(0, .long a0), (2, .int a2)] := hl
  unfold f_X4_longerKey at h
  refine lv_iload_n hx hb dX4_longerKey_0 rfl (lv_at hl 1 rfl) ?_
  refine lv_bipush (v := 97) hx hb dX4_longerKey_1 (by decide) ?_
  refine lv_icmp_lt (tgt := 15) hx hb dX4_longerKey_3 (by decide) (fun cc => ?_) (fun cc => ?_)
  · have h := br_el h cc
    refine lv_iload_n hx hb dX4_longerKey_15 rfl (lv_at hl 1 rfl) ?_
    refine lv_bipush (v := 48) hx hb dX4_longerKey_16 (by decide) ?_
    refine lv_isub hx hb dX4_longerKey_18 ?_
    refine lv_bipush (v := 27) hx hb dX4_longerKey_19 (by decide) ?_
    refine lv_iadd hx hb dX4_longerKey_21 ?_
    refine lv_topi (fun x1 e => ?_)
    have h := sq_at h e
    refine lv_istore_n (i := 3) (lv' := [(3, .int x1), (0, .long a0), (2, .int a2)]) hx hb dX4_longerKey_22 rfl hl (by decide) rfl (fun ls hl => ?_)
    refine lv_lload_n hx hb dX4_longerKey_23 rfl (lv_at hl 1 rfl) ?_
    refine lv_bipush (v := 6) hx hb dX4_longerKey_24 (by decide) ?_
    refine lv_lshl hx hb dX4_longerKey_26 rfl ?_
    refine lv_iload_n hx hb dX4_longerKey_27 rfl (lv_at hl 0 rfl) ?_
    refine lv_i2l hx hb dX4_longerKey_28 rfl ?_
    refine lv_lor hx hb dX4_longerKey_29 ?_
    exact e_l hx hb hr hlocks hP hS (Nat.le_of_ble_eq_true rfl) (Nat.le_of_ble_eq_true rfl) (Prod.mk.inj (so_el h)) dX4_longerKey_30
  · have h := br_er h cc
    refine lv_iload_n hx hb dX4_longerKey_6 rfl (lv_at hl 1 rfl) ?_
    refine lv_bipush (v := 97) hx hb dX4_longerKey_7 (by decide) ?_
    refine lv_isub hx hb dX4_longerKey_9 ?_
    refine lv_iconst (v := 1) hx hb dX4_longerKey_10 (by decide) ?_
    refine lv_iadd hx hb dX4_longerKey_11 ?_
    refine lv_goto (tgt := 22) hx hb dX4_longerKey_12 (by decide) ?_
    refine lv_topi (fun x2 e => ?_)
    have h := sq_at h e
    refine lv_istore_n (i := 3) (lv' := [(3, .int x2), (0, .long a0), (2, .int a2)]) hx hb dX4_longerKey_22 rfl hl (by decide) rfl (fun ls hl => ?_)
    refine lv_lload_n hx hb dX4_longerKey_23 rfl (lv_at hl 1 rfl) ?_
    refine lv_bipush (v := 6) hx hb dX4_longerKey_24 (by decide) ?_
    refine lv_lshl hx hb dX4_longerKey_26 rfl ?_
    refine lv_iload_n hx hb dX4_longerKey_27 rfl (lv_at hl 0 rfl) ?_
    refine lv_i2l hx hb dX4_longerKey_28 rfl ?_
    refine lv_lor hx hb dX4_longerKey_29 ?_
    exact e_l hx hb hr hlocks hP hS (Nat.le_of_ble_eq_true rfl) (Nat.le_of_ble_eq_true rfl) (Prod.mk.inj (so_el h)) dX4_longerKey_30

def f_X4_ofWord_L2 (z0 : Int64) : Nat → Int32 → Mm → Option (Nat × Int32 × Mm)
  | 0, _, _ => none
  | n + 1, u2, w => br (44 ≤ u2) (some ((1 : Nat), u2, w)) (gd (vB u2 44) (gd (kok (u2.toNatClampNeg + 1)) (br ((lg_cmp (keyT (u2.toNatClampNeg + 1)) z0) = 0) (some ((0 : Nat), u2, w)) (sq (u2 + 1) (fun x1 => f_X4_ofWord_L2 z0 n x1 w)))))

def f_X4_ofWord (a0 : Int64) (w : Mm) : Option (Nat × Mm) := bd2 (f_X4_ofWord_L2 a0 LF 0 w) (fun t4 y2 w3 => br (t4 = 0) (gd (vB y2 44) (some (y2.toNatClampNeg + 1, w3))) (some (3, w3)))

theorem miX4_ofWord : MS yX4_ofWord cX4_ofWord 3 (some (.object "HedgeNews$Kind")) 1 := ⟨w2_157, w1_5, w2_158, by decide +kernel, by decide +kernel, by decide +kernel⟩
set_option maxHeartbeats 4000000 in
set_option maxRecDepth 100000 in
theorem l_X4_ofWord_2 {p : Program} {l : Launch} {e : Env} {R : Room} {s : State} {m : MethodId} {args : Array Value} {below : List Frame} {meth : Method} {c : Code} {cells slots : Nat} {Q : State → Prop} {G : GG} (hC : CX p s m args c meth G cX4_ofWord 3 (some (.object "HedgeNews$Kind")) RX4) (hR : R = { frames := 0, cells := 0, slots := 0, locals := 0 }) (hcs : cells ≤ R.cells ∧ slots ≤ R.slots) (hF : gF G = true) (z0 : Int64) : ∀ (n : Nat) (u2 : Int32) (w : Mm) (t : Nat) (v2 : Int32) (w' : Mm), f_X4_ofWord_L2 z0 n u2 w = some (t, v2, w') → ∀ (H : Heap) (locs : List Loc) (ls : Array Slot), HP G w H → va_S (Ab G) s.heap H locs → lv_has ls 3 [(0, .long z0), (2, .int u2)] → (t = 0 → ∀ (H : Heap) (locs : List Loc) (ls : Array Slot), HP G w' H → va_S (Ab G) s.heap H locs → lv_has ls 3 [(2, .int v2)] → W p l e R s m args below meth c H locs cells slots Q (F0 m 23 ls [])) → (t = 1 → ∀ (H : Heap) (locs : List Loc) (ls : Array Slot), HP G w' H → va_S (Ab G) s.heap H locs → lv_has ls 3 [] → W p l e R s m args below meth c H locs cells slots Q (F0 m 35 ls [])) → W p l e R s m args below meth c H locs cells slots Q (F0 m 2 ls []) := by
  subst hR
  obtain ⟨hx, hb, hml, hr, hown, hlocks, hts, hE⟩ := id hC
  intro n
  induction n with
  | zero =>
    intro u2 w t v2 w' h
    rw [f_X4_ofWord_L2] at h
    cases h
  | succ n ih =>
    intro u2 w t v2 w' h H locs ls hP hS hl k0 k1
    rw [f_X4_ofWord_L2] at h
    refine lv_iload_n hx hb dX4_ofWord_2 rfl (lv_at hl 1 rfl) ?_
    refine k_all hx hb hE hS hown (hts _ w2_159) dX4_ofWord_3 ?_
    refine k_alllen hx hb hE hS dX4_ofWord_6 ?_
    refine lv_icmp_ge (tgt := 35) hx hb dX4_ofWord_7 (by decide) (fun cc => ?_) (fun cc => ?_)
    · have h := br_el h cc
      cases h
      exact k1 rfl _ _ _ hP hS (lv_sub hl [] rfl)
    · have h := br_er h cc
      refine k_all hx hb hE hS hown (hts _ w2_159) dX4_ofWord_10 ?_
      refine lv_iload_n hx hb dX4_ofWord_13 rfl (lv_at hl 1 rfl) ?_
      obtain ⟨g, h⟩ := gd_el h
      refine k_allald hx hb hE hS g dX4_ofWord_14 ?_
      obtain ⟨g, h⟩ := gd_el h
      refine k_key hx hb hE hS hown (hts _ w9_16) g dX4_ofWord_15 ?_
      refine lv_lload_n hx hb dX4_ofWord_18 rfl (lv_at hl 0 rfl) ?_
      refine W.lcmp hx hb dX4_ofWord_19 ?_
      refine lv_if_ne (tgt := 29) hx hb dX4_ofWord_20 (by decide) (fun cc => ?_) (fun cc => ?_)
      · have h := br_er h cc
        obtain ⟨x1, e⟩ : ∃ z : Int32, z = u2 + 1 := ⟨_, rfl⟩
        have h := sq_at h e
        refine lv_iinc (v := x1) (lv' := [(2, .int x1), (0, .long z0)]) hx hb dX4_ofWord_29 hl (k := 1) rfl (by rw [e]; rfl) (by decide) rfl (fun ls hl => ?_)
        refine lv_goto (tgt := 2) hx hb dX4_ofWord_32 (by decide) ?_
        exact ih x1 w t v2 w' h _ _ _ hP hS (lv_sub hl [1, 0] rfl) k0 k1
      · have h := br_el h cc
        cases h
        exact k0 rfl _ _ _ hP hS (lv_sub hl [1] rfl)

set_option maxHeartbeats 4000000 in
set_option maxRecDepth 100000 in
theorem c_X4_ofWord (l : Launch) (G : GG) (hF : gF G = true) (a0 : Int64) (w : Mm) (r : Nat) (w' : Mm) (h : f_X4_ofWord a0 w = some (r, w')) : Kq l G yX4_ofWord cX4_ofWord 3 (some (.object "HedgeNews$Kind")) { frames := 0, cells := 0, slots := 0, locals := 0 } [.long a0] w (kO G r) w' := by
  refine k_of (by decide +kernel) (Nat.le_of_ble_eq_true rfl) ?_
  intro p e s m args below meth c ls hx hb hml hr hown hlocks hts hin hP hE hl
  have hC : CX p s m args c meth G cX4_ofWord 3 (some (.object "HedgeNews$Kind")) RX4 := ⟨hx, hb, hml, hr, hown, hlocks, hts, hE⟩
  have hS : va_S (Ab G) s.heap s.heap [] := va_S.rf
  have hcs : 0 ≤ 0 ∧ 0 ≤ 0 := ⟨Nat.zero_le _, Nat.zero_le _⟩
  have hl : lv_has ls 3 [(0, .long a0)] := hl
  unfold f_X4_ofWord at h
  refine lv_iconst (v := 0) hx hb dX4_ofWord_0 (by decide) ?_
  refine lv_istore_n (i := 2) (lv' := [(2, .int 0), (0, .long a0)]) hx hb dX4_ofWord_1 rfl hl (by decide) rfl (fun ls hl => ?_)
  obtain ⟨t4, y2, w3, hf, h⟩ := bd2_el h
  refine l_X4_ofWord_2 hC rfl hcs hF a0 LF 0 w t4 y2 w3 hf _ _ _ hP hS (lv_sub hl [1, 0] rfl) (fun ht H locs ls hP hS hl => ?_) (fun ht H locs ls hP hS hl => ?_)
  · have h := br_el h ht
    refine k_all hx hb hE hS hown (hts _ w2_159) dX4_ofWord_23 ?_
    refine lv_iload_n hx hb dX4_ofWord_26 rfl (lv_at hl 0 rfl) ?_
    obtain ⟨g, h⟩ := gd_el h
    refine k_allald hx hb hE hS g dX4_ofWord_27 ?_
    exact e_q (v := kO G (y2.toNatClampNeg + 1)) hx hb hr (Or.inl ⟨_, rfl⟩) hlocks hP hS (Nat.le_of_ble_eq_true rfl) (Nat.le_of_ble_eq_true rfl) ((Prod.mk.inj (so_el h)).imp (congrArg (kO G)) id) dX4_ofWord_28
  · have h := br_er h (by rw [ht]; decide)
    refine k_kind (i := 2) (nm := "NAME") hx hb hE hS hown rfl (by decide) (hts _ w2_161) dX4_ofWord_35 ?_
    exact e_q (v := kO G 3) hx hb hr (Or.inl ⟨_, rfl⟩) hlocks hP hS (Nat.le_of_ble_eq_true rfl) (Nat.le_of_ble_eq_true rfl) ((Prod.mk.inj (so_el h)).imp (congrArg (kO G)) id) dX4_ofWord_38

def f_X11_isInWord (a0 : Int32) (w : Mm) : Option (Int32 × Mm) := bd1 (f_X11_isLetter a0 w) (fun r1 w2 => br (r1 = 0) (bd1 (f_X11_isDigit a0 w2) (fun r3 w4 => br (r3 = 0) (some (0, w4)) (some (1, w4)))) (some (1, w2)))

theorem miX11_isInWord : MS yX11_isInWord cX11_isInWord 1 (some .boolean) 1 := ⟨w2_146, w1_3, w2_147, by decide +kernel, by decide +kernel, by decide +kernel⟩
set_option maxHeartbeats 4000000 in
set_option maxRecDepth 100000 in
theorem c_X11_isInWord (l : Launch) (G : GG) (hF : gF G = true) (a0 : Int32) (w : Mm) (r : Int32) (w' : Mm) (h : f_X11_isInWord a0 w = some (r, w')) : Ki l G yX11_isInWord cX11_isInWord 1 (some .boolean) { frames := 1, cells := 0, slots := 0, locals := 20 } [.int a0] w r w' := by
  refine k_of (by decide +kernel) (Nat.le_of_ble_eq_true rfl) ?_
  intro p e s m args below meth c ls hx hb hml hr hown hlocks hts hin hP hE hl
  have hC : CX p s m args c meth G cX11_isInWord 1 (some .boolean) RX11 := ⟨hx, hb, hml, hr, hown, hlocks, hts, hE⟩
  have hS : va_S (Ab G) s.heap s.heap [] := va_S.rf
  have hcs : 0 ≤ 0 ∧ 0 ≤ 0 := ⟨Nat.zero_le _, Nat.zero_le _⟩
  have hl : lv_has ls 1 [(0, .int a0)] := hl
  unfold f_X11_isInWord at h
  refine lv_iload_n hx hb dX11_isInWord_0 rfl (lv_at hl 0 rfl) ?_
  obtain ⟨r1, w2, hf, h⟩ := bd1_el h
  refine c_oni (c_runS (As := [.int a0]) (rest := []) hx hb hml hown hts hE hP hS (c_X11_isLetter l G hF a0 w r1 w2 hf) w2_138 miX11_isLetter ⟨Nat.le_of_ble_eq_true rfl, Nat.le_of_ble_eq_true rfl⟩ rfl hl.1 rfl (Nat.le_of_ble_eq_true rfl) dX11_isInWord_1 hcs) hS (fun H locs hP hS => ?_)
  refine lv_if_ne (tgt := 14) hx hb dX11_isInWord_4 (by decide) (fun cc => ?_) (fun cc => ?_)
  · have h := br_er h cc
    refine lv_iconst (v := 1) hx hb dX11_isInWord_14 (by decide) ?_
    refine lv_goto (tgt := 19) hx hb dX11_isInWord_15 (by decide) ?_
    exact e_i hx hb hr rfl hlocks hP hS (Nat.le_of_ble_eq_true rfl) (Nat.le_of_ble_eq_true rfl) (Prod.mk.inj (so_el h)) dX11_isInWord_19
  · have h := br_el h cc
    refine lv_iload_n hx hb dX11_isInWord_7 rfl (lv_at hl 0 rfl) ?_
    obtain ⟨r3, w4, hf, h⟩ := bd1_el h
    refine c_oni (c_runS (As := [.int a0]) (rest := []) hx hb hml hown hts hE hP hS (c_X11_isDigit l G hF a0 w2 r3 w4 hf) w2_148 miX11_isDigit ⟨Nat.le_of_ble_eq_true rfl, Nat.le_of_ble_eq_true rfl⟩ rfl hl.1 rfl (Nat.le_of_ble_eq_true rfl) dX11_isInWord_8 hcs) hS (fun H locs hP hS => ?_)
    refine lv_if_eq (tgt := 18) hx hb dX11_isInWord_11 (by decide) (fun cc => ?_) (fun cc => ?_)
    · have h := br_el h cc
      refine lv_iconst (v := 0) hx hb dX11_isInWord_18 (by decide) ?_
      exact e_i hx hb hr rfl hlocks hP hS (Nat.le_of_ble_eq_true rfl) (Nat.le_of_ble_eq_true rfl) (Prod.mk.inj (so_el h)) dX11_isInWord_19
    · have h := br_er h cc
      refine lv_iconst (v := 1) hx hb dX11_isInWord_14 (by decide) ?_
      refine lv_goto (tgt := 19) hx hb dX11_isInWord_15 (by decide) ?_
      exact e_i hx hb hr rfl hlocks hP hS (Nat.le_of_ble_eq_true rfl) (Nat.le_of_ble_eq_true rfl) (Prod.mk.inj (so_el h)) dX11_isInWord_19

def f_X11_word_L7 : Nat → Int32 → Mm → Option (Int32 × Mm)
  | 0, _, _ => none
  | n + 1, u2, w => br (10 < u2) (some (u2, w)) (bd1 (f_X10_at (gI w 4 0 5) w) (fun r2 w3 => bd1 (f_X11_isInWord r2 w3) (fun r4 w5 => br (r4 = 0) (some (u2, w5)) (bd1 (f_X10_at (gI w5 4 0 5) w5) (fun r6 w7 => bd1 (f_X4_longerKey (gL w5 4 0 6) r6 w7) (fun r8 w9 => sq (pL w9 4 0 6 r8) (fun w10 => sq (u2 + 1) (fun x11 => sq (pI w10 4 0 5 ((gI w10 4 0 5) + 1)) (fun w12 => f_X11_word_L7 n x11 w12)))))))))

def f_X11_word (w : Mm) : Option (Nat × Mm) := sq (pL w 4 0 6 0) (fun w1 => bd1 (f_X11_word_L7 LF 0 w1) (fun y13 w14 => br (y13 ≤ 10) (bd1 (f_X4_ofWord (gL w14 4 0 6) w14) (fun r15 w16 => some (r15, w16))) (some (2, w14))))

theorem miX11_word : MI RX11 yX11_word cX11_word 3 (some (.object "HedgeNews$Kind")) 1 := ⟨w2_143, (tb_sel 2 rfl rfl), w1_3, w2_144, rfl, by decide +kernel, by decide +kernel, by decide +kernel⟩
set_option maxHeartbeats 4000000 in
set_option maxRecDepth 100000 in
theorem l_X11_word_7 {p : Program} {l : Launch} {e : Env} {R : Room} {s : State} {m : MethodId} {args : Array Value} {below : List Frame} {meth : Method} {c : Code} {cells slots : Nat} {Q : State → Prop} {G : GG} (hC : CX p s m args c meth G cX11_word 3 (some (.object "HedgeNews$Kind")) RX11) (hR : R = { frames := 2, cells := 0, slots := 0, locals := 40 }) (hcs : cells ≤ R.cells ∧ slots ≤ R.slots) (hF : gF G = true)  : ∀ (n : Nat) (u2 : Int32) (w : Mm) (v2 : Int32) (w' : Mm), f_X11_word_L7  n u2 w = some (v2, w') → ∀ (H : Heap) (locs : List Loc) (ls : Array Slot), HP G w H → va_S (Ab G) s.heap H locs → lv_has ls 3 [(0, .ref (adr (gB G) 4 0)), (1, .ref (adr (gB G) 2 0)), (2, .int u2)] → (∀ (H : Heap) (locs : List Loc) (ls : Array Slot), HP G w' H → va_S (Ab G) s.heap H locs → lv_has ls 3 [(0, .ref (adr (gB G) 4 0)), (2, .int v2)] → W p l e R s m args below meth c H locs cells slots Q (F0 m 62 ls [])) → W p l e R s m args below meth c H locs cells slots Q (F0 m 7 ls []) := by
  subst hR
  obtain ⟨hx, hb, hml, hr, hown, hlocks, hts, hE⟩ := id hC
  intro n
  induction n with
  | zero =>
    intro u2 w v2 w' h
    rw [f_X11_word_L7] at h
    cases h
  | succ n ih =>
    intro u2 w v2 w' h H locs ls hP hS hl k0
    rw [f_X11_word_L7] at h
    refine lv_iload_n hx hb dX11_word_7 rfl (lv_at hl 2 rfl) ?_
    refine lv_bipush (v := 10) hx hb dX11_word_8 (by decide) ?_
    refine lv_icmp_gt (tgt := 62) hx hb dX11_word_10 (by decide) (fun cc => ?_) (fun cc => ?_)
    · have h := br_el h cc
      cases h
      exact k0 _ _ _ hP hS (lv_sub hl [0, 2] rfl)
    · have h := br_er h cc
      refine lv_aload_n hx hb dX11_word_13 rfl (lv_at hl 1 rfl) ?_
      refine lv_aload_n hx hb dX11_word_14 rfl (lv_at hl 0 rfl) ?_
      refine k_get (ci := 9) (v := .int (gI w 4 0 5)) hx hb hts hE inX11 hown hP (hp_sh hP hF 0 4 (by decide)) (by decide) rfl rfl 5 (by decide) w1_71 rfl rfl dX11_word_15 ?_
      obtain ⟨r2, w3, hf, h⟩ := bd1_el h
      refine c_oni (c_runV (b := adr (gB G) 2 0) (As := [.int (gI w 4 0 5)]) (rest := []) hx hb hml hown hts hE hP hS (c_X10_at l G hF (gI w 4 0 5) w r2 w3 hf) (c_rec hE hP (hp_sh hP hF 0 2 (by decide)) (by decide) rfl rfl) w2_130 miX10_at ⟨Nat.le_of_ble_eq_true rfl, Nat.le_of_ble_eq_true rfl⟩ rfl hl.1 rfl (Nat.le_of_ble_eq_true rfl) dX11_word_18 hcs) hS (fun H locs hP hS => ?_)
      obtain ⟨r4, w5, hf, h⟩ := bd1_el h
      refine c_oni (c_runS (As := [.int r2]) (rest := []) hx hb hml hown hts hE hP hS (c_X11_isInWord l G hF r2 w3 r4 w5 hf) w2_145 miX11_isInWord ⟨Nat.le_of_ble_eq_true rfl, Nat.le_of_ble_eq_true rfl⟩ rfl hl.1 rfl (Nat.le_of_ble_eq_true rfl) dX11_word_21 hcs) hS (fun H locs hP hS => ?_)
      refine lv_if_eq (tgt := 62) hx hb dX11_word_24 (by decide) (fun cc => ?_) (fun cc => ?_)
      · have h := br_el h cc
        cases h
        exact k0 _ _ _ hP hS (lv_sub hl [0, 2] rfl)
      · have h := br_er h cc
        refine lv_aload_n hx hb dX11_word_27 rfl (lv_at hl 0 rfl) ?_
        refine lv_aload_n hx hb dX11_word_28 rfl (lv_at hl 0 rfl) ?_
        refine k_get (ci := 9) (v := .long (gL w5 4 0 6)) hx hb hts hE inX11 hown hP (hp_sh hP hF 0 4 (by decide)) (by decide) rfl rfl 6 (by decide) w1_72 rfl rfl dX11_word_29 ?_
        refine lv_aload_n hx hb dX11_word_32 rfl (lv_at hl 1 rfl) ?_
        refine lv_aload_n hx hb dX11_word_33 rfl (lv_at hl 0 rfl) ?_
        refine k_get (ci := 9) (v := .int (gI w5 4 0 5)) hx hb hts hE inX11 hown hP (hp_sh hP hF 0 4 (by decide)) (by decide) rfl rfl 5 (by decide) w1_71 rfl rfl dX11_word_34 ?_
        obtain ⟨r6, w7, hf, h⟩ := bd1_el h
        refine c_oni (c_runV (b := adr (gB G) 2 0) (As := [.int (gI w5 4 0 5)]) (rest := [.long (gL w5 4 0 6), .ref (adr (gB G) 4 0)]) hx hb hml hown hts hE hP hS (c_X10_at l G hF (gI w5 4 0 5) w5 r6 w7 hf) (c_rec hE hP (hp_sh hP hF 0 2 (by decide)) (by decide) rfl rfl) w2_130 miX10_at ⟨Nat.le_of_ble_eq_true rfl, Nat.le_of_ble_eq_true rfl⟩ rfl hl.1 rfl (Nat.le_of_ble_eq_true rfl) dX11_word_37 hcs) hS (fun H locs hP hS => ?_)
        obtain ⟨r8, w9, hf, h⟩ := bd1_el h
        refine c_onl (c_runS (As := [.long (gL w5 4 0 6), .int r6]) (rest := [.ref (adr (gB G) 4 0)]) hx hb hml hown hts hE hP hS (c_X4_longerKey l G hF (gL w5 4 0 6) r6 w7 r8 w9 hf) w2_151 miX4_longerKey ⟨Nat.le_of_ble_eq_true rfl, Nat.le_of_ble_eq_true rfl⟩ rfl hl.1 rfl (Nat.le_of_ble_eq_true rfl) dX11_word_40 hcs) hS (fun H locs hP hS => ?_)
        refine k_put (ci := 9) (ty := .long) (v := .long r8) (w1 := pL w9 4 0 6 r8) hx hb hts hE inX11 tyX11 tyX11_ok nmX11 hown hP hS (hp_sh hP hF 0 4 (by decide)) (by decide) rfl rfl 6 (by decide) w1_72 rfl rfl rfl rfl rfl (Nat.le_of_ble_eq_true rfl) loc_pL (wce_pL.trans rfl) dX11_word_43 (fun w10 H locs e hP hS => ?_)
        have h := sq_at h e
        obtain ⟨x11, e⟩ : ∃ z : Int32, z = u2 + 1 := ⟨_, rfl⟩
        have h := sq_at h e
        refine lv_iinc (v := x11) (lv' := [(2, .int x11), (0, .ref (adr (gB G) 4 0)), (1, .ref (adr (gB G) 2 0))]) hx hb dX11_word_46 hl (k := 2) rfl (by rw [e]; rfl) (by decide) rfl (fun ls hl => ?_)
        refine lv_aload_n hx hb dX11_word_49 rfl (lv_at hl 1 rfl) ?_
        refine lv_dup hx hb dX11_word_50 rfl ?_
        refine k_get (ci := 9) (v := .int (gI w10 4 0 5)) hx hb hts hE inX11 hown hP (hp_sh hP hF 0 4 (by decide)) (by decide) rfl rfl 5 (by decide) w1_71 rfl rfl dX11_word_51 ?_
        refine lv_iconst (v := 1) hx hb dX11_word_54 (by decide) ?_
        refine lv_iadd hx hb dX11_word_55 ?_
        refine k_put (ci := 9) (ty := .int) (v := .int ((gI w10 4 0 5) + 1)) (w1 := pI w10 4 0 5 ((gI w10 4 0 5) + 1)) hx hb hts hE inX11 tyX11 tyX11_ok nmX11 hown hP hS (hp_sh hP hF 0 4 (by decide)) (by decide) rfl rfl 5 (by decide) w1_71 rfl rfl rfl rfl rfl (Nat.le_of_ble_eq_true rfl) loc_pI (wce_pI.trans rfl) dX11_word_56 (fun w12 H locs e hP hS => ?_)
        have h := sq_at h e
        refine lv_goto (tgt := 7) hx hb dX11_word_59 (by decide) ?_
        exact ih x11 w12 v2 w' h _ _ _ hP hS (lv_sub hl [1, 2, 0] rfl) k0

set_option maxHeartbeats 4000000 in
set_option maxRecDepth 100000 in
theorem c_X11_word (l : Launch) (G : GG) (hF : gF G = true)  (w : Mm) (r : Nat) (w' : Mm) (h : f_X11_word  w = some (r, w')) : Kq l G yX11_word cX11_word 3 (some (.object "HedgeNews$Kind")) { frames := 2, cells := 0, slots := 0, locals := 40 } [.ref (adr (gB G) 4 0), .ref (adr (gB G) 2 0)] w (kO G r) w' := by
  refine k_of (by decide +kernel) (Nat.le_of_ble_eq_true rfl) ?_
  intro p e s m args below meth c ls hx hb hml hr hown hlocks hts hin hP hE hl
  have hC : CX p s m args c meth G cX11_word 3 (some (.object "HedgeNews$Kind")) RX11 := ⟨hx, hb, hml, hr, hown, hlocks, hts, hE⟩
  have hS : va_S (Ab G) s.heap s.heap [] := va_S.rf
  have hcs : 0 ≤ 0 ∧ 0 ≤ 0 := ⟨Nat.zero_le _, Nat.zero_le _⟩
  have hl : lv_has ls 3 [(0, .ref (adr (gB G) 4 0)), (1, .ref (adr (gB G) 2 0))] := hl
  unfold f_X11_word at h
  refine lv_iconst (v := 0) hx hb dX11_word_0 (by decide) ?_
  refine lv_istore_n (i := 2) (lv' := [(2, .int 0), (0, .ref (adr (gB G) 4 0)), (1, .ref (adr (gB G) 2 0))]) hx hb dX11_word_1 rfl hl (by decide) rfl (fun ls hl => ?_)
  refine lv_aload_n hx hb dX11_word_2 rfl (lv_at hl 1 rfl) ?_
  refine lv_lconst (v := 0) hx hb dX11_word_3 (by decide) ?_
  refine k_put (ci := 9) (ty := .long) (v := .long 0) (w1 := pL w 4 0 6 0) hx hb hts hE inX11 tyX11 tyX11_ok nmX11 hown hP hS (hp_sh hP hF 0 4 (by decide)) (by decide) rfl rfl 6 (by decide) w1_72 rfl rfl rfl rfl rfl (Nat.le_of_ble_eq_true rfl) loc_pL (wce_pL.trans rfl) dX11_word_4 (fun w1 H locs e hP hS => ?_)
  have h := sq_at h e
  obtain ⟨y13, w14, hf, h⟩ := bd1_el h
  refine l_X11_word_7 hC rfl hcs hF LF 0 w1 y13 w14 hf _ _ _ hP hS (lv_sub hl [1, 2, 0] rfl) (fun H locs ls hP hS hl => ?_)
  refine lv_iload_n hx hb dX11_word_62 rfl (lv_at hl 1 rfl) ?_
  refine lv_bipush (v := 10) hx hb dX11_word_63 (by decide) ?_
  refine lv_icmp_le (tgt := 74) hx hb dX11_word_65 (by decide) (fun cc => ?_) (fun cc => ?_)
  · have h := br_el h cc
    refine lv_aload_n hx hb dX11_word_74 rfl (lv_at hl 0 rfl) ?_
    refine k_get (ci := 9) (v := .long (gL w14 4 0 6)) hx hb hts hE inX11 hown hP (hp_sh hP hF 0 4 (by decide)) (by decide) rfl rfl 6 (by decide) w1_72 rfl rfl dX11_word_75 ?_
    obtain ⟨r15, w16, hf, h⟩ := bd1_el h
    refine c_onq (c_runS (As := [.long (gL w14 4 0 6)]) (rest := []) hx hb hml hown hts hE hP hS (c_X4_ofWord l G hF (gL w14 4 0 6) w14 r15 w16 hf) w2_156 miX4_ofWord ⟨Nat.le_of_ble_eq_true rfl, Nat.le_of_ble_eq_true rfl⟩ rfl hl.1 rfl (Nat.le_of_ble_eq_true rfl) dX11_word_78 hcs) hS (fun H locs hP hS => ?_)
    exact e_q (v := kO G r15) hx hb hr (Or.inl ⟨_, rfl⟩) hlocks hP hS (Nat.le_of_ble_eq_true rfl) (Nat.le_of_ble_eq_true rfl) ((Prod.mk.inj (so_el h)).imp (congrArg (kO G)) id) dX11_word_81
  · have h := br_er h cc
    refine k_kind (i := 1) (nm := "BAD") hx hb hE hS hown rfl (by decide) (hts _ w2_154) dX11_word_68 ?_
    refine lv_goto (tgt := 81) hx hb dX11_word_71 (by decide) ?_
    exact e_q (v := kO G 2) hx hb hr (Or.inl ⟨_, rfl⟩) hlocks hP hS (Nat.le_of_ble_eq_true rfl) (Nat.le_of_ble_eq_true rfl) ((Prod.mk.inj (so_el h)).imp (congrArg (kO G)) id) dX11_word_81

def f_X11_next (w : Mm) : Option (Nat × Mm) := bd1 (f_X10_at (gI w 4 0 5) w) (fun r1 w2 => br (r1 = (-1)) (some (1, w2)) (bd1 (f_X11_isLetter r1 w2) (fun r3 w4 => br (r3 = 0) (bd1 (f_X11_isDigit r1 w4) (fun r5 w6 => br (r5 = 0) (sq (pI w6 4 0 5 ((gI w6 4 0 5) + 1)) (fun w7 => bd1 (f_X11_symbol r1 w7) (fun r8 w9 => some (r8, w9)))) (bd1 (f_X11_number w6) (fun r10 w11 => some (r10, w11))))) (bd1 (f_X11_word w4) (fun r12 w13 => some (r12, w13))))))

theorem miX11_next : MI RX11 yX11_next cX11_next 3 (some (.object "HedgeNews$Kind")) 1 := ⟨w2_136, (tb_sel 1 rfl rfl), w1_3, w2_137, rfl, by decide +kernel, by decide +kernel, by decide +kernel⟩
set_option maxHeartbeats 4000000 in
set_option maxRecDepth 100000 in
theorem c_X11_next (l : Launch) (G : GG) (hF : gF G = true)  (w : Mm) (r : Nat) (w' : Mm) (h : f_X11_next  w = some (r, w')) : Kq l G yX11_next cX11_next 3 (some (.object "HedgeNews$Kind")) { frames := 3, cells := 0, slots := 0, locals := 64 } [.ref (adr (gB G) 4 0), .ref (adr (gB G) 2 0)] w (kO G r) w' := by
  refine k_of (by decide +kernel) (Nat.le_of_ble_eq_true rfl) ?_
  intro p e s m args below meth c ls hx hb hml hr hown hlocks hts hin hP hE hl
  have hC : CX p s m args c meth G cX11_next 3 (some (.object "HedgeNews$Kind")) RX11 := ⟨hx, hb, hml, hr, hown, hlocks, hts, hE⟩
  have hS : va_S (Ab G) s.heap s.heap [] := va_S.rf
  have hcs : 0 ≤ 0 ∧ 0 ≤ 0 := ⟨Nat.zero_le _, Nat.zero_le _⟩
  have hl : lv_has ls 3 [(0, .ref (adr (gB G) 4 0)), (1, .ref (adr (gB G) 2 0))] := hl
  unfold f_X11_next at h
  refine lv_aload_n hx hb dX11_next_0 rfl (lv_at hl 1 rfl) ?_
  refine lv_aload_n hx hb dX11_next_1 rfl (lv_at hl 0 rfl) ?_
  refine k_get (ci := 9) (v := .int (gI w 4 0 5)) hx hb hts hE inX11 hown hP (hp_sh hP hF 0 4 (by decide)) (by decide) rfl rfl 5 (by decide) w1_71 rfl rfl dX11_next_2 ?_
  obtain ⟨r1, w2, hf, h⟩ := bd1_el h
  refine c_oni (c_runV (b := adr (gB G) 2 0) (As := [.int (gI w 4 0 5)]) (rest := []) hx hb hml hown hts hE hP hS (c_X10_at l G hF (gI w 4 0 5) w r1 w2 hf) (c_rec hE hP (hp_sh hP hF 0 2 (by decide)) (by decide) rfl rfl) w2_130 miX10_at ⟨Nat.le_of_ble_eq_true rfl, Nat.le_of_ble_eq_true rfl⟩ rfl hl.1 rfl (Nat.le_of_ble_eq_true rfl) dX11_next_5 hcs) hS (fun H locs hP hS => ?_)
  refine lv_istore_n (i := 2) (lv' := [(2, .int r1), (0, .ref (adr (gB G) 4 0)), (1, .ref (adr (gB G) 2 0))]) hx hb dX11_next_8 rfl hl (by decide) rfl (fun ls hl => ?_)
  refine lv_iload_n hx hb dX11_next_9 rfl (lv_at hl 0 rfl) ?_
  refine lv_iconst (v := (-1)) hx hb dX11_next_10 (by decide) ?_
  refine lv_icmp_ne (tgt := 18) hx hb dX11_next_11 (by decide) (fun cc => ?_) (fun cc => ?_)
  · have h := br_er h cc
    refine lv_iload_n hx hb dX11_next_18 rfl (lv_at hl 0 rfl) ?_
    obtain ⟨r3, w4, hf, h⟩ := bd1_el h
    refine c_oni (c_runS (As := [.int r1]) (rest := []) hx hb hml hown hts hE hP hS (c_X11_isLetter l G hF r1 w2 r3 w4 hf) w2_138 miX11_isLetter ⟨Nat.le_of_ble_eq_true rfl, Nat.le_of_ble_eq_true rfl⟩ rfl hl.1 rfl (Nat.le_of_ble_eq_true rfl) dX11_next_19 hcs) hS (fun H locs hP hS => ?_)
    refine lv_if_eq (tgt := 31) hx hb dX11_next_22 (by decide) (fun cc => ?_) (fun cc => ?_)
    · have h := br_el h cc
      refine lv_iload_n hx hb dX11_next_31 rfl (lv_at hl 0 rfl) ?_
      obtain ⟨r5, w6, hf, h⟩ := bd1_el h
      refine c_oni (c_runS (As := [.int r1]) (rest := []) hx hb hml hown hts hE hP hS (c_X11_isDigit l G hF r1 w4 r5 w6 hf) w2_148 miX11_isDigit ⟨Nat.le_of_ble_eq_true rfl, Nat.le_of_ble_eq_true rfl⟩ rfl hl.1 rfl (Nat.le_of_ble_eq_true rfl) dX11_next_32 hcs) hS (fun H locs hP hS => ?_)
      refine lv_if_eq (tgt := 44) hx hb dX11_next_35 (by decide) (fun cc => ?_) (fun cc => ?_)
      · have h := br_el h cc
        refine lv_aload_n hx hb dX11_next_44 rfl (lv_at hl 1 rfl) ?_
        refine lv_dup hx hb dX11_next_45 rfl ?_
        refine k_get (ci := 9) (v := .int (gI w6 4 0 5)) hx hb hts hE inX11 hown hP (hp_sh hP hF 0 4 (by decide)) (by decide) rfl rfl 5 (by decide) w1_71 rfl rfl dX11_next_46 ?_
        refine lv_iconst (v := 1) hx hb dX11_next_49 (by decide) ?_
        refine lv_iadd hx hb dX11_next_50 ?_
        refine k_put (ci := 9) (ty := .int) (v := .int ((gI w6 4 0 5) + 1)) (w1 := pI w6 4 0 5 ((gI w6 4 0 5) + 1)) hx hb hts hE inX11 tyX11 tyX11_ok nmX11 hown hP hS (hp_sh hP hF 0 4 (by decide)) (by decide) rfl rfl 5 (by decide) w1_71 rfl rfl rfl rfl rfl (Nat.le_of_ble_eq_true rfl) loc_pI (wce_pI.trans rfl) dX11_next_51 (fun w7 H locs e hP hS => ?_)
        have h := sq_at h e
        refine lv_aload_n hx hb dX11_next_54 rfl (lv_at hl 1 rfl) ?_
        refine lv_iload_n hx hb dX11_next_55 rfl (lv_at hl 0 rfl) ?_
        refine lv_aload_n hx hb dX11_next_56 rfl (lv_at hl 2 rfl) ?_
        obtain ⟨r8, w9, hf, h⟩ := bd1_el h
        refine c_onq (c_runV (b := adr (gB G) 4 0) (As := [.int r1, .ref (adr (gB G) 2 0)]) (rest := []) hx hb hml hown hts hE hP hS (c_X11_symbol l G hF r1 w7 r8 w9 hf) (c_rec hE hP (hp_sh hP hF 0 4 (by decide)) (by decide) rfl rfl) w2_169 miX11_symbol ⟨Nat.le_of_ble_eq_true rfl, Nat.le_of_ble_eq_true rfl⟩ rfl hl.1 rfl (Nat.le_of_ble_eq_true rfl) dX11_next_57 hcs) hS (fun H locs hP hS => ?_)
        exact e_q (v := kO G r8) hx hb hr (Or.inl ⟨_, rfl⟩) hlocks hP hS (Nat.le_of_ble_eq_true rfl) (Nat.le_of_ble_eq_true rfl) ((Prod.mk.inj (so_el h)).imp (congrArg (kO G)) id) dX11_next_60
      · have h := br_er h cc
        refine lv_aload_n hx hb dX11_next_38 rfl (lv_at hl 1 rfl) ?_
        refine lv_aload_n hx hb dX11_next_39 rfl (lv_at hl 2 rfl) ?_
        obtain ⟨r10, w11, hf, h⟩ := bd1_el h
        refine c_onq (c_runV (b := adr (gB G) 4 0) (As := [.ref (adr (gB G) 2 0)]) (rest := []) hx hb hml hown hts hE hP hS (c_X11_number l G hF w6 r10 w11 hf) (c_rec hE hP (hp_sh hP hF 0 4 (by decide)) (by decide) rfl rfl) w2_163 miX11_number ⟨Nat.le_of_ble_eq_true rfl, Nat.le_of_ble_eq_true rfl⟩ rfl hl.1 rfl (Nat.le_of_ble_eq_true rfl) dX11_next_40 hcs) hS (fun H locs hP hS => ?_)
        exact e_q (v := kO G r10) hx hb hr (Or.inl ⟨_, rfl⟩) hlocks hP hS (Nat.le_of_ble_eq_true rfl) (Nat.le_of_ble_eq_true rfl) ((Prod.mk.inj (so_el h)).imp (congrArg (kO G)) id) dX11_next_43
    · have h := br_er h cc
      refine lv_aload_n hx hb dX11_next_25 rfl (lv_at hl 1 rfl) ?_
      refine lv_aload_n hx hb dX11_next_26 rfl (lv_at hl 2 rfl) ?_
      obtain ⟨r12, w13, hf, h⟩ := bd1_el h
      refine c_onq (c_runV (b := adr (gB G) 4 0) (As := [.ref (adr (gB G) 2 0)]) (rest := []) hx hb hml hown hts hE hP hS (c_X11_word l G hF w4 r12 w13 hf) (c_rec hE hP (hp_sh hP hF 0 4 (by decide)) (by decide) rfl rfl) w2_141 miX11_word ⟨Nat.le_of_ble_eq_true rfl, Nat.le_of_ble_eq_true rfl⟩ rfl hl.1 rfl (Nat.le_of_ble_eq_true rfl) dX11_next_27 hcs) hS (fun H locs hP hS => ?_)
      exact e_q (v := kO G r12) hx hb hr (Or.inl ⟨_, rfl⟩) hlocks hP hS (Nat.le_of_ble_eq_true rfl) (Nat.le_of_ble_eq_true rfl) ((Prod.mk.inj (so_el h)).imp (congrArg (kO G)) id) dX11_next_30
  · have h := br_el h cc
    refine k_kind (i := 0) (nm := "END") hx hb hE hS hown rfl (by decide) (hts _ w1_63) dX11_next_14 ?_
    exact e_q (v := kO G 1) hx hb hr (Or.inl ⟨_, rfl⟩) hlocks hP hS (Nat.le_of_ble_eq_true rfl) (Nat.le_of_ble_eq_true rfl) ((Prod.mk.inj (so_el h)).imp (congrArg (kO G)) id) dX11_next_17

def f_X11_skipBlanks_L0 : Nat → Mm → Option (Mm)
  | 0, _ => none
  | n + 1, w => br ((gI w 2 0 1) ≤ (gI w 4 0 5)) (some w) (bd1 (f_X10_at (gI w 4 0 5) w) (fun r1 w2 => br (r1 = 32) (sq (pI w2 4 0 5 ((gI w2 4 0 5) + 1)) (fun w3 => f_X11_skipBlanks_L0 n w3)) (bd1 (f_X10_at (gI w2 4 0 5) w2) (fun r4 w5 => br (r4 = 10) (sq (pI w5 4 0 5 ((gI w5 4 0 5) + 1)) (fun w6 => f_X11_skipBlanks_L0 n w6)) (some w5)))))

def f_X11_skipBlanks (w : Mm) : Option (Mm) := bd0 (f_X11_skipBlanks_L0 LF w) (fun w7 => some w7)

theorem miX11_skipBlanks : MI RX11 yX11_skipBlanks cX11_skipBlanks 2 none 1 := ⟨w2_128, (tb_sel 0 rfl rfl), w1_3, w2_129, rfl, by decide +kernel, by decide +kernel, by decide +kernel⟩
set_option maxHeartbeats 4000000 in
set_option maxRecDepth 100000 in
theorem l_X11_skipBlanks_0 {p : Program} {l : Launch} {e : Env} {R : Room} {s : State} {m : MethodId} {args : Array Value} {below : List Frame} {meth : Method} {c : Code} {cells slots : Nat} {Q : State → Prop} {G : GG} (hC : CX p s m args c meth G cX11_skipBlanks 2 none RX11) (hR : R = { frames := 1, cells := 0, slots := 0, locals := 21 }) (hcs : cells ≤ R.cells ∧ slots ≤ R.slots) (hF : gF G = true)  : ∀ (n : Nat)  (w : Mm) (w' : Mm), f_X11_skipBlanks_L0  n  w = some w' → ∀ (H : Heap) (locs : List Loc) (ls : Array Slot), HP G w H → va_S (Ab G) s.heap H locs → lv_has ls 2 [(0, .ref (adr (gB G) 4 0)), (1, .ref (adr (gB G) 2 0))] → (∀ (H : Heap) (locs : List Loc) (ls : Array Slot), HP G w' H → va_S (Ab G) s.heap H locs → lv_has ls 2 [] → W p l e R s m args below meth c H locs cells slots Q (F0 m 50 ls [])) → W p l e R s m args below meth c H locs cells slots Q (F0 m 0 ls []) := by
  subst hR
  obtain ⟨hx, hb, hml, hr, hown, hlocks, hts, hE⟩ := id hC
  intro n
  induction n with
  | zero =>
    intro  w w' h
    rw [f_X11_skipBlanks_L0] at h
    cases h
  | succ n ih =>
    intro  w w' h H locs ls hP hS hl k0
    rw [f_X11_skipBlanks_L0] at h
    refine lv_aload_n hx hb dX11_skipBlanks_0 rfl (lv_at hl 0 rfl) ?_
    refine k_get (ci := 9) (v := .int (gI w 4 0 5)) hx hb hts hE inX11 hown hP (hp_sh hP hF 0 4 (by decide)) (by decide) rfl rfl 5 (by decide) w1_71 rfl rfl dX11_skipBlanks_1 ?_
    refine lv_aload_n hx hb dX11_skipBlanks_4 rfl (lv_at hl 1 rfl) ?_
    refine k_get (ci := 8) (v := .int (gI w 2 0 1)) hx hb hts hE inX10 hown hP (hp_sh hP hF 0 2 (by decide)) (by decide) rfl rfl 1 (by decide) w1_48 rfl rfl dX11_skipBlanks_5 ?_
    refine lv_icmp_ge (tgt := 50) hx hb dX11_skipBlanks_8 (by decide) (fun cc => ?_) (fun cc => ?_)
    · have h := br_el h cc
      cases h
      exact k0 _ _ _ hP hS (lv_sub hl [] rfl)
    · have h := br_er h cc
      refine lv_aload_n hx hb dX11_skipBlanks_11 rfl (lv_at hl 1 rfl) ?_
      refine lv_aload_n hx hb dX11_skipBlanks_12 rfl (lv_at hl 0 rfl) ?_
      refine k_get (ci := 9) (v := .int (gI w 4 0 5)) hx hb hts hE inX11 hown hP (hp_sh hP hF 0 4 (by decide)) (by decide) rfl rfl 5 (by decide) w1_71 rfl rfl dX11_skipBlanks_13 ?_
      obtain ⟨r1, w2, hf, h⟩ := bd1_el h
      refine c_oni (c_runV (b := adr (gB G) 2 0) (As := [.int (gI w 4 0 5)]) (rest := []) hx hb hml hown hts hE hP hS (c_X10_at l G hF (gI w 4 0 5) w r1 w2 hf) (c_rec hE hP (hp_sh hP hF 0 2 (by decide)) (by decide) rfl rfl) w2_130 miX10_at ⟨Nat.le_of_ble_eq_true rfl, Nat.le_of_ble_eq_true rfl⟩ rfl hl.1 rfl (Nat.le_of_ble_eq_true rfl) dX11_skipBlanks_16 hcs) hS (fun H locs hP hS => ?_)
      refine lv_bipush (v := 32) hx hb dX11_skipBlanks_19 (by decide) ?_
      refine lv_icmp_eq (tgt := 37) hx hb dX11_skipBlanks_21 (by decide) (fun cc => ?_) (fun cc => ?_)
      · have h := br_el h cc
        refine lv_aload_n hx hb dX11_skipBlanks_37 rfl (lv_at hl 0 rfl) ?_
        refine lv_dup hx hb dX11_skipBlanks_38 rfl ?_
        refine k_get (ci := 9) (v := .int (gI w2 4 0 5)) hx hb hts hE inX11 hown hP (hp_sh hP hF 0 4 (by decide)) (by decide) rfl rfl 5 (by decide) w1_71 rfl rfl dX11_skipBlanks_39 ?_
        refine lv_iconst (v := 1) hx hb dX11_skipBlanks_42 (by decide) ?_
        refine lv_iadd hx hb dX11_skipBlanks_43 ?_
        refine k_put (ci := 9) (ty := .int) (v := .int ((gI w2 4 0 5) + 1)) (w1 := pI w2 4 0 5 ((gI w2 4 0 5) + 1)) hx hb hts hE inX11 tyX11 tyX11_ok nmX11 hown hP hS (hp_sh hP hF 0 4 (by decide)) (by decide) rfl rfl 5 (by decide) w1_71 rfl rfl rfl rfl rfl (Nat.le_of_ble_eq_true rfl) loc_pI (wce_pI.trans rfl) dX11_skipBlanks_44 (fun w3 H locs e hP hS => ?_)
        have h := sq_at h e
        refine lv_goto (tgt := 0) hx hb dX11_skipBlanks_47 (by decide) ?_
        exact ih  w3 w' h _ _ _ hP hS (lv_sub hl [0, 1] rfl) k0
      · have h := br_er h cc
        refine lv_aload_n hx hb dX11_skipBlanks_24 rfl (lv_at hl 1 rfl) ?_
        refine lv_aload_n hx hb dX11_skipBlanks_25 rfl (lv_at hl 0 rfl) ?_
        refine k_get (ci := 9) (v := .int (gI w2 4 0 5)) hx hb hts hE inX11 hown hP (hp_sh hP hF 0 4 (by decide)) (by decide) rfl rfl 5 (by decide) w1_71 rfl rfl dX11_skipBlanks_26 ?_
        obtain ⟨r4, w5, hf, h⟩ := bd1_el h
        refine c_oni (c_runV (b := adr (gB G) 2 0) (As := [.int (gI w2 4 0 5)]) (rest := []) hx hb hml hown hts hE hP hS (c_X10_at l G hF (gI w2 4 0 5) w2 r4 w5 hf) (c_rec hE hP (hp_sh hP hF 0 2 (by decide)) (by decide) rfl rfl) w2_130 miX10_at ⟨Nat.le_of_ble_eq_true rfl, Nat.le_of_ble_eq_true rfl⟩ rfl hl.1 rfl (Nat.le_of_ble_eq_true rfl) dX11_skipBlanks_29 hcs) hS (fun H locs hP hS => ?_)
        refine lv_bipush (v := 10) hx hb dX11_skipBlanks_32 (by decide) ?_
        refine lv_icmp_ne (tgt := 50) hx hb dX11_skipBlanks_34 (by decide) (fun cc => ?_) (fun cc => ?_)
        · have h := br_er h cc
          cases h
          exact k0 _ _ _ hP hS (lv_sub hl [] rfl)
        · have h := br_el h cc
          refine lv_aload_n hx hb dX11_skipBlanks_37 rfl (lv_at hl 0 rfl) ?_
          refine lv_dup hx hb dX11_skipBlanks_38 rfl ?_
          refine k_get (ci := 9) (v := .int (gI w5 4 0 5)) hx hb hts hE inX11 hown hP (hp_sh hP hF 0 4 (by decide)) (by decide) rfl rfl 5 (by decide) w1_71 rfl rfl dX11_skipBlanks_39 ?_
          refine lv_iconst (v := 1) hx hb dX11_skipBlanks_42 (by decide) ?_
          refine lv_iadd hx hb dX11_skipBlanks_43 ?_
          refine k_put (ci := 9) (ty := .int) (v := .int ((gI w5 4 0 5) + 1)) (w1 := pI w5 4 0 5 ((gI w5 4 0 5) + 1)) hx hb hts hE inX11 tyX11 tyX11_ok nmX11 hown hP hS (hp_sh hP hF 0 4 (by decide)) (by decide) rfl rfl 5 (by decide) w1_71 rfl rfl rfl rfl rfl (Nat.le_of_ble_eq_true rfl) loc_pI (wce_pI.trans rfl) dX11_skipBlanks_44 (fun w6 H locs e hP hS => ?_)
          have h := sq_at h e
          refine lv_goto (tgt := 0) hx hb dX11_skipBlanks_47 (by decide) ?_
          exact ih  w6 w' h _ _ _ hP hS (lv_sub hl [0, 1] rfl) k0

set_option maxHeartbeats 4000000 in
set_option maxRecDepth 100000 in
theorem c_X11_skipBlanks (l : Launch) (G : GG) (hF : gF G = true)  (w : Mm) (w' : Mm) (h : f_X11_skipBlanks  w = some w') : Kv l G yX11_skipBlanks cX11_skipBlanks 2 none { frames := 1, cells := 0, slots := 0, locals := 21 } [.ref (adr (gB G) 4 0), .ref (adr (gB G) 2 0)] w w' := by
  refine k_of (by decide +kernel) (Nat.le_of_ble_eq_true rfl) ?_
  intro p e s m args below meth c ls hx hb hml hr hown hlocks hts hin hP hE hl
  have hC : CX p s m args c meth G cX11_skipBlanks 2 none RX11 := ⟨hx, hb, hml, hr, hown, hlocks, hts, hE⟩
  have hS : va_S (Ab G) s.heap s.heap [] := va_S.rf
  have hcs : 0 ≤ 0 ∧ 0 ≤ 0 := ⟨Nat.zero_le _, Nat.zero_le _⟩
  have hl : lv_has ls 2 [(0, .ref (adr (gB G) 4 0)), (1, .ref (adr (gB G) 2 0))] := hl
  unfold f_X11_skipBlanks at h
  obtain ⟨w7, hf, h⟩ := bd0_el h
  refine l_X11_skipBlanks_0 hC rfl hcs hF LF w w7 hf _ _ _ hP hS (lv_sub hl [0, 1] rfl) (fun H locs ls hP hS hl => ?_)
  exact e_v hx hb hr hlocks hP hS (Nat.le_of_ble_eq_true rfl) (Nat.le_of_ble_eq_true rfl) (so_el h) dX11_skipBlanks_50

def f_X11_scan_L7 : Nat → Int32 → Mm → Option (Nat × Mm)
  | 0, _, _ => none
  | n + 1, u2, w => br (400 < u2) (some ((1 : Nat), w)) (bd0 (f_X11_skipBlanks w) (fun w2 => gd (vB u2 401) (sq (pI w2 6 0 u2.toNatClampNeg (gI w2 4 0 5)) (fun w4 => bd1 (f_X11_next w4) (fun r5 w6 => br (u2 = 400) (br (r5 = 1) (gd (vB u2 401) (gd (kok r5) (sq (pR w6 5 0 u2.toNatClampNeg r5) (fun w16 => gd (vB u2 401) (sq (pL w16 7 0 u2.toNatClampNeg (gL w16 4 0 6)) (fun w18 => gd (vB u2 401) (sq (pI w18 8 0 u2.toNatClampNeg (gI w18 4 0 7)) (fun w20 => sq (pI w20 4 0 4 u2) (fun w21 => br (r5 = 1) (some ((0 : Nat), w21)) (br (r5 = 2) (some ((0 : Nat), w21)) (sq (u2 + 1) (fun x22 => f_X11_scan_L7 n x22 w21)))))))))))) (gd (vB u2 401) (gd (kok 2) (sq (pR w6 5 0 u2.toNatClampNeg 2) (fun w24 => gd (vB u2 401) (sq (pL w24 7 0 u2.toNatClampNeg (gL w24 4 0 6)) (fun w26 => gd (vB u2 401) (sq (pI w26 8 0 u2.toNatClampNeg (gI w26 4 0 7)) (fun w28 => sq (pI w28 4 0 4 u2) (fun w29 => br (2 = 1) (some ((0 : Nat), w29)) (br (2 = 2) (some ((0 : Nat), w29)) (sq (u2 + 1) (fun x30 => f_X11_scan_L7 n x30 w29))))))))))))) (gd (vB u2 401) (gd (kok r5) (sq (pR w6 5 0 u2.toNatClampNeg r5) (fun w8 => gd (vB u2 401) (sq (pL w8 7 0 u2.toNatClampNeg (gL w8 4 0 6)) (fun w10 => gd (vB u2 401) (sq (pI w10 8 0 u2.toNatClampNeg (gI w10 4 0 7)) (fun w12 => sq (pI w12 4 0 4 u2) (fun w13 => br (r5 = 1) (some ((0 : Nat), w13)) (br (r5 = 2) (some ((0 : Nat), w13)) (sq (u2 + 1) (fun x14 => f_X11_scan_L7 n x14 w13)))))))))))))))))

def f_X11_scan (w : Mm) : Option (Mm) := sq (pI w 4 0 5 0) (fun w1 => bd1 (f_X11_scan_L7 LF 0 w1) (fun t32 w31 => br (t32 = 0) (some w31) (some w31)))

theorem miX11_scan : MI RX11 yX11_scan cX11_scan 4 none 1 := ⟨w2_123, w2_124, w1_3, w2_125, rfl, by decide +kernel, by decide +kernel, by decide +kernel⟩
set_option maxHeartbeats 4000000 in
set_option maxRecDepth 100000 in
theorem l_X11_scan_7 {p : Program} {l : Launch} {e : Env} {R : Room} {s : State} {m : MethodId} {args : Array Value} {below : List Frame} {meth : Method} {c : Code} {cells slots : Nat} {Q : State → Prop} {G : GG} (hC : CX p s m args c meth G cX11_scan 4 none RX11) (hR : R = { frames := 4, cells := 0, slots := 0, locals := 86 }) (hcs : cells ≤ R.cells ∧ slots ≤ R.slots) (hF : gF G = true)  : ∀ (n : Nat) (u2 : Int32) (w : Mm) (t : Nat) (w' : Mm), f_X11_scan_L7  n u2 w = some (t, w') → ∀ (H : Heap) (locs : List Loc) (ls : Array Slot), HP G w H → va_S (Ab G) s.heap H locs → lv_has ls 4 [(0, .ref (adr (gB G) 4 0)), (1, .ref (adr (gB G) 2 0)), (2, .int u2)] → (t = 0 → ∀ (H : Heap) (locs : List Loc) (ls : Array Slot), HP G w' H → va_S (Ab G) s.heap H locs → lv_has ls 4 [] → W p l e R s m args below meth c H locs cells slots Q (F0 m 99 ls [])) → (t = 1 → ∀ (H : Heap) (locs : List Loc) (ls : Array Slot), HP G w' H → va_S (Ab G) s.heap H locs → lv_has ls 4 [] → W p l e R s m args below meth c H locs cells slots Q (F0 m 106 ls [])) → W p l e R s m args below meth c H locs cells slots Q (F0 m 7 ls []) := by
  subst hR
  obtain ⟨hx, hb, hml, hr, hown, hlocks, hts, hE⟩ := id hC
  intro n
  induction n with
  | zero =>
    intro u2 w t w' h
    rw [f_X11_scan_L7] at h
    cases h
  | succ n ih =>
    intro u2 w t w' h H locs ls hP hS hl k0 k1
    rw [f_X11_scan_L7] at h
    refine lv_iload_n hx hb dX11_scan_7 rfl (lv_at hl 2 rfl) ?_
    refine lv_sipush (v := 400) hx hb dX11_scan_8 (by decide) ?_
    refine lv_icmp_gt (tgt := 106) hx hb dX11_scan_11 (by decide) (fun cc => ?_) (fun cc => ?_)
    · have h := br_el h cc
      cases h
      exact k1 rfl _ _ _ hP hS (lv_sub hl [] rfl)
    · have h := br_er h cc
      refine lv_aload_n hx hb dX11_scan_14 rfl (lv_at hl 0 rfl) ?_
      refine lv_aload_n hx hb dX11_scan_15 rfl (lv_at hl 1 rfl) ?_
      obtain ⟨w2, hf, h⟩ := bd0_el h
      refine c_onv (c_runV (b := adr (gB G) 4 0) (As := [.ref (adr (gB G) 2 0)]) (rest := []) hx hb hml hown hts hE hP hS (c_X11_skipBlanks l G hF w w2 hf) (c_rec hE hP (hp_sh hP hF 0 4 (by decide)) (by decide) rfl rfl) w2_126 miX11_skipBlanks ⟨Nat.le_of_ble_eq_true rfl, Nat.le_of_ble_eq_true rfl⟩ rfl hl.1 rfl (Nat.le_of_ble_eq_true rfl) dX11_scan_16 hcs) hS (fun H locs hP hS => ?_)
      refine lv_aload_n hx hb dX11_scan_19 rfl (lv_at hl 0 rfl) ?_
      refine k_get (ci := 9) (v := .ref (adr (gB G) 6 0)) hx hb hts hE inX11 hown hP (hp_sh hP hF 0 4 (by decide)) (by decide) rfl rfl 1 (by decide) w1_67 rfl rfl dX11_scan_20 ?_
      refine lv_iload_n hx hb dX11_scan_23 rfl (lv_at hl 2 rfl) ?_
      refine lv_aload_n hx hb dX11_scan_24 rfl (lv_at hl 0 rfl) ?_
      refine k_get (ci := 9) (v := .int (gI w2 4 0 5)) hx hb hts hE inX11 hown hP (hp_sh hP hF 0 4 (by decide)) (by decide) rfl rfl 5 (by decide) w1_71 rfl rfl dX11_scan_25 ?_
      obtain ⟨g3, h⟩ := gd_el h
      refine k_iast hx hb hE hP hS (hp_sh hP hF 0 6 (by decide)) (by decide) rfl rfl g3 dX11_scan_28 (fun w4 H locs e hP hS => ?_)
      have h := sq_at h e
      refine lv_aload_n hx hb dX11_scan_29 rfl (lv_at hl 0 rfl) ?_
      refine lv_aload_n hx hb dX11_scan_30 rfl (lv_at hl 1 rfl) ?_
      obtain ⟨r5, w6, hf, h⟩ := bd1_el h
      refine c_onq (c_runV (b := adr (gB G) 4 0) (As := [.ref (adr (gB G) 2 0)]) (rest := []) hx hb hml hown hts hE hP hS (c_X11_next l G hF w4 r5 w6 hf) (c_rec hE hP (hp_sh hP hF 0 4 (by decide)) (by decide) rfl rfl) w2_134 miX11_next ⟨Nat.le_of_ble_eq_true rfl, Nat.le_of_ble_eq_true rfl⟩ rfl hl.1 rfl (Nat.le_of_ble_eq_true rfl) dX11_scan_31 hcs) hS (fun H locs hP hS => ?_)
      refine k_astore_n (i := 3) (lv' := [(3, kR G r5), (0, .ref (adr (gB G) 4 0)), (1, .ref (adr (gB G) 2 0)), (2, .int u2)]) hx hb dX11_scan_34 rfl hl (by decide) (by simp [kR, cat_rf, cat_ref, cat_int, cat_long, cat_null]) (fun ls hl => ?_)
      refine lv_iload_n hx hb dX11_scan_35 rfl (lv_at hl 3 rfl) ?_
      refine lv_sipush (v := 400) hx hb dX11_scan_36 (by decide) ?_
      refine lv_icmp_ne (tgt := 53) hx hb dX11_scan_39 (by decide) (fun cc => ?_) (fun cc => ?_)
      · have h := br_er h cc
        refine lv_aload_n hx hb dX11_scan_53 rfl (lv_at hl 1 rfl) ?_
        refine k_get (ci := 9) (v := .ref (adr (gB G) 5 0)) hx hb hts hE inX11 hown hP (hp_sh hP hF 0 4 (by decide)) (by decide) rfl rfl 0 (by decide) w1_65 rfl rfl dX11_scan_54 ?_
        refine lv_iload_n hx hb dX11_scan_57 rfl (lv_at hl 3 rfl) ?_
        refine k_aload_n hx hb dX11_scan_58 rfl (lv_at hl 0 rfl) ?_
        obtain ⟨g7, h⟩ := gd_el h
        obtain ⟨gk, h⟩ := gd_el h
        refine k_kast (x := r5) hx hb hE hP hS (hp_sh hP hF 0 5 (by decide)) (by decide) rfl rfl g7 gk dX11_scan_59 (fun w8 H locs e hP hS => ?_)
        have h := sq_at h e
        refine lv_aload_n hx hb dX11_scan_60 rfl (lv_at hl 1 rfl) ?_
        refine k_get (ci := 9) (v := .ref (adr (gB G) 7 0)) hx hb hts hE inX11 hown hP (hp_sh hP hF 0 4 (by decide)) (by decide) rfl rfl 2 (by decide) w1_68 rfl rfl dX11_scan_61 ?_
        refine lv_iload_n hx hb dX11_scan_64 rfl (lv_at hl 3 rfl) ?_
        refine lv_aload_n hx hb dX11_scan_65 rfl (lv_at hl 1 rfl) ?_
        refine k_get (ci := 9) (v := .long (gL w8 4 0 6)) hx hb hts hE inX11 hown hP (hp_sh hP hF 0 4 (by decide)) (by decide) rfl rfl 6 (by decide) w1_72 rfl rfl dX11_scan_66 ?_
        obtain ⟨g9, h⟩ := gd_el h
        refine k_last hx hb hE hP hS (hp_sh hP hF 0 7 (by decide)) (by decide) rfl rfl g9 dX11_scan_69 (fun w10 H locs e hP hS => ?_)
        have h := sq_at h e
        refine lv_aload_n hx hb dX11_scan_70 rfl (lv_at hl 1 rfl) ?_
        refine k_get (ci := 9) (v := .ref (adr (gB G) 8 0)) hx hb hts hE inX11 hown hP (hp_sh hP hF 0 4 (by decide)) (by decide) rfl rfl 3 (by decide) w1_69 rfl rfl dX11_scan_71 ?_
        refine lv_iload_n hx hb dX11_scan_74 rfl (lv_at hl 3 rfl) ?_
        refine lv_aload_n hx hb dX11_scan_75 rfl (lv_at hl 1 rfl) ?_
        refine k_get (ci := 9) (v := .int (gI w10 4 0 7)) hx hb hts hE inX11 hown hP (hp_sh hP hF 0 4 (by decide)) (by decide) rfl rfl 7 (by decide) w1_73 rfl rfl dX11_scan_76 ?_
        obtain ⟨g11, h⟩ := gd_el h
        refine k_iast hx hb hE hP hS (hp_sh hP hF 0 8 (by decide)) (by decide) rfl rfl g11 dX11_scan_79 (fun w12 H locs e hP hS => ?_)
        have h := sq_at h e
        refine lv_aload_n hx hb dX11_scan_80 rfl (lv_at hl 1 rfl) ?_
        refine lv_iload_n hx hb dX11_scan_81 rfl (lv_at hl 3 rfl) ?_
        refine k_put (ci := 9) (ty := .int) (v := .int u2) (w1 := pI w12 4 0 4 u2) hx hb hts hE inX11 tyX11 tyX11_ok nmX11 hown hP hS (hp_sh hP hF 0 4 (by decide)) (by decide) rfl rfl 4 (by decide) w1_70 rfl rfl rfl rfl rfl (Nat.le_of_ble_eq_true rfl) loc_pI (wce_pI.trans rfl) dX11_scan_82 (fun w13 H locs e hP hS => ?_)
        have h := sq_at h e
        refine k_aload_n hx hb dX11_scan_85 rfl (lv_at hl 0 rfl) ?_
        refine k_kind (i := 0) (nm := "END") hx hb hE hS hown rfl (by decide) (hts _ w1_63) dX11_scan_86 ?_
        refine k_acmp_eq (x := r5) (y := 1) (tgt := 99) hx hb hE dX11_scan_89 (by decide) (fun cc => ?_) (fun cc => ?_)
        · have h := br_el h cc
          cases h
          exact k0 rfl _ _ _ hP hS (lv_sub hl [] rfl)
        · have h := br_er h cc
          refine k_aload_n hx hb dX11_scan_92 rfl (lv_at hl 0 rfl) ?_
          refine k_kind (i := 1) (nm := "BAD") hx hb hE hS hown rfl (by decide) (hts _ w2_154) dX11_scan_93 ?_
          refine k_acmp_ne (x := r5) (y := 2) (tgt := 100) hx hb hE dX11_scan_96 (by decide) (fun cc => ?_) (fun cc => ?_)
          · have h := br_er h cc
            obtain ⟨x14, e⟩ : ∃ z : Int32, z = u2 + 1 := ⟨_, rfl⟩
            have h := sq_at h e
            refine lv_iinc (v := x14) (lv' := [(2, .int x14), (3, kR G r5), (0, .ref (adr (gB G) 4 0)), (1, .ref (adr (gB G) 2 0))]) hx hb dX11_scan_100 hl (k := 3) rfl (by rw [e]; rfl) (by decide) (by simp [kR, cat_rf, cat_ref, cat_int, cat_long, cat_null]) (fun ls hl => ?_)
            refine lv_goto (tgt := 7) hx hb dX11_scan_103 (by decide) ?_
            exact ih x14 w13 t w' h _ _ _ hP hS (lv_sub hl [2, 3, 0] rfl) k0 k1
          · have h := br_el h cc
            cases h
            exact k0 rfl _ _ _ hP hS (lv_sub hl [] rfl)
      · have h := br_el h cc
        refine k_aload_n hx hb dX11_scan_42 rfl (lv_at hl 0 rfl) ?_
        refine k_kind (i := 0) (nm := "END") hx hb hE hS hown rfl (by decide) (hts _ w1_63) dX11_scan_43 ?_
        refine k_acmp_eq (x := r5) (y := 1) (tgt := 53) hx hb hE dX11_scan_46 (by decide) (fun cc => ?_) (fun cc => ?_)
        · have h := br_el h cc
          refine lv_aload_n hx hb dX11_scan_53 rfl (lv_at hl 1 rfl) ?_
          refine k_get (ci := 9) (v := .ref (adr (gB G) 5 0)) hx hb hts hE inX11 hown hP (hp_sh hP hF 0 4 (by decide)) (by decide) rfl rfl 0 (by decide) w1_65 rfl rfl dX11_scan_54 ?_
          refine lv_iload_n hx hb dX11_scan_57 rfl (lv_at hl 3 rfl) ?_
          refine k_aload_n hx hb dX11_scan_58 rfl (lv_at hl 0 rfl) ?_
          obtain ⟨g15, h⟩ := gd_el h
          obtain ⟨gk, h⟩ := gd_el h
          refine k_kast (x := r5) hx hb hE hP hS (hp_sh hP hF 0 5 (by decide)) (by decide) rfl rfl g15 gk dX11_scan_59 (fun w16 H locs e hP hS => ?_)
          have h := sq_at h e
          refine lv_aload_n hx hb dX11_scan_60 rfl (lv_at hl 1 rfl) ?_
          refine k_get (ci := 9) (v := .ref (adr (gB G) 7 0)) hx hb hts hE inX11 hown hP (hp_sh hP hF 0 4 (by decide)) (by decide) rfl rfl 2 (by decide) w1_68 rfl rfl dX11_scan_61 ?_
          refine lv_iload_n hx hb dX11_scan_64 rfl (lv_at hl 3 rfl) ?_
          refine lv_aload_n hx hb dX11_scan_65 rfl (lv_at hl 1 rfl) ?_
          refine k_get (ci := 9) (v := .long (gL w16 4 0 6)) hx hb hts hE inX11 hown hP (hp_sh hP hF 0 4 (by decide)) (by decide) rfl rfl 6 (by decide) w1_72 rfl rfl dX11_scan_66 ?_
          obtain ⟨g17, h⟩ := gd_el h
          refine k_last hx hb hE hP hS (hp_sh hP hF 0 7 (by decide)) (by decide) rfl rfl g17 dX11_scan_69 (fun w18 H locs e hP hS => ?_)
          have h := sq_at h e
          refine lv_aload_n hx hb dX11_scan_70 rfl (lv_at hl 1 rfl) ?_
          refine k_get (ci := 9) (v := .ref (adr (gB G) 8 0)) hx hb hts hE inX11 hown hP (hp_sh hP hF 0 4 (by decide)) (by decide) rfl rfl 3 (by decide) w1_69 rfl rfl dX11_scan_71 ?_
          refine lv_iload_n hx hb dX11_scan_74 rfl (lv_at hl 3 rfl) ?_
          refine lv_aload_n hx hb dX11_scan_75 rfl (lv_at hl 1 rfl) ?_
          refine k_get (ci := 9) (v := .int (gI w18 4 0 7)) hx hb hts hE inX11 hown hP (hp_sh hP hF 0 4 (by decide)) (by decide) rfl rfl 7 (by decide) w1_73 rfl rfl dX11_scan_76 ?_
          obtain ⟨g19, h⟩ := gd_el h
          refine k_iast hx hb hE hP hS (hp_sh hP hF 0 8 (by decide)) (by decide) rfl rfl g19 dX11_scan_79 (fun w20 H locs e hP hS => ?_)
          have h := sq_at h e
          refine lv_aload_n hx hb dX11_scan_80 rfl (lv_at hl 1 rfl) ?_
          refine lv_iload_n hx hb dX11_scan_81 rfl (lv_at hl 3 rfl) ?_
          refine k_put (ci := 9) (ty := .int) (v := .int u2) (w1 := pI w20 4 0 4 u2) hx hb hts hE inX11 tyX11 tyX11_ok nmX11 hown hP hS (hp_sh hP hF 0 4 (by decide)) (by decide) rfl rfl 4 (by decide) w1_70 rfl rfl rfl rfl rfl (Nat.le_of_ble_eq_true rfl) loc_pI (wce_pI.trans rfl) dX11_scan_82 (fun w21 H locs e hP hS => ?_)
          have h := sq_at h e
          refine k_aload_n hx hb dX11_scan_85 rfl (lv_at hl 0 rfl) ?_
          refine k_kind (i := 0) (nm := "END") hx hb hE hS hown rfl (by decide) (hts _ w1_63) dX11_scan_86 ?_
          refine k_acmp_eq (x := r5) (y := 1) (tgt := 99) hx hb hE dX11_scan_89 (by decide) (fun cc => ?_) (fun cc => ?_)
          · have h := br_el h cc
            cases h
            exact k0 rfl _ _ _ hP hS (lv_sub hl [] rfl)
          · have h := br_er h cc
            refine k_aload_n hx hb dX11_scan_92 rfl (lv_at hl 0 rfl) ?_
            refine k_kind (i := 1) (nm := "BAD") hx hb hE hS hown rfl (by decide) (hts _ w2_154) dX11_scan_93 ?_
            refine k_acmp_ne (x := r5) (y := 2) (tgt := 100) hx hb hE dX11_scan_96 (by decide) (fun cc => ?_) (fun cc => ?_)
            · have h := br_er h cc
              obtain ⟨x22, e⟩ : ∃ z : Int32, z = u2 + 1 := ⟨_, rfl⟩
              have h := sq_at h e
              refine lv_iinc (v := x22) (lv' := [(2, .int x22), (3, kR G r5), (0, .ref (adr (gB G) 4 0)), (1, .ref (adr (gB G) 2 0))]) hx hb dX11_scan_100 hl (k := 3) rfl (by rw [e]; rfl) (by decide) (by simp [kR, cat_rf, cat_ref, cat_int, cat_long, cat_null]) (fun ls hl => ?_)
              refine lv_goto (tgt := 7) hx hb dX11_scan_103 (by decide) ?_
              exact ih x22 w21 t w' h _ _ _ hP hS (lv_sub hl [2, 3, 0] rfl) k0 k1
            · have h := br_el h cc
              cases h
              exact k0 rfl _ _ _ hP hS (lv_sub hl [] rfl)
        · have h := br_er h cc
          refine k_kind (i := 1) (nm := "BAD") hx hb hE hS hown rfl (by decide) (hts _ w2_154) dX11_scan_49 ?_
          refine k_astore_n (i := 3) (lv' := [(3, kR G 2), (0, .ref (adr (gB G) 4 0)), (1, .ref (adr (gB G) 2 0)), (2, .int u2)]) hx hb dX11_scan_52 rfl hl (by decide) (by simp [kR, cat_rf, cat_ref, cat_int, cat_long, cat_null]) (fun ls hl => ?_)
          refine lv_aload_n hx hb dX11_scan_53 rfl (lv_at hl 1 rfl) ?_
          refine k_get (ci := 9) (v := .ref (adr (gB G) 5 0)) hx hb hts hE inX11 hown hP (hp_sh hP hF 0 4 (by decide)) (by decide) rfl rfl 0 (by decide) w1_65 rfl rfl dX11_scan_54 ?_
          refine lv_iload_n hx hb dX11_scan_57 rfl (lv_at hl 3 rfl) ?_
          refine k_aload_n hx hb dX11_scan_58 rfl (lv_at hl 0 rfl) ?_
          obtain ⟨g23, h⟩ := gd_el h
          obtain ⟨gk, h⟩ := gd_el h
          refine k_kast (x := 2) hx hb hE hP hS (hp_sh hP hF 0 5 (by decide)) (by decide) rfl rfl g23 gk dX11_scan_59 (fun w24 H locs e hP hS => ?_)
          have h := sq_at h e
          refine lv_aload_n hx hb dX11_scan_60 rfl (lv_at hl 1 rfl) ?_
          refine k_get (ci := 9) (v := .ref (adr (gB G) 7 0)) hx hb hts hE inX11 hown hP (hp_sh hP hF 0 4 (by decide)) (by decide) rfl rfl 2 (by decide) w1_68 rfl rfl dX11_scan_61 ?_
          refine lv_iload_n hx hb dX11_scan_64 rfl (lv_at hl 3 rfl) ?_
          refine lv_aload_n hx hb dX11_scan_65 rfl (lv_at hl 1 rfl) ?_
          refine k_get (ci := 9) (v := .long (gL w24 4 0 6)) hx hb hts hE inX11 hown hP (hp_sh hP hF 0 4 (by decide)) (by decide) rfl rfl 6 (by decide) w1_72 rfl rfl dX11_scan_66 ?_
          obtain ⟨g25, h⟩ := gd_el h
          refine k_last hx hb hE hP hS (hp_sh hP hF 0 7 (by decide)) (by decide) rfl rfl g25 dX11_scan_69 (fun w26 H locs e hP hS => ?_)
          have h := sq_at h e
          refine lv_aload_n hx hb dX11_scan_70 rfl (lv_at hl 1 rfl) ?_
          refine k_get (ci := 9) (v := .ref (adr (gB G) 8 0)) hx hb hts hE inX11 hown hP (hp_sh hP hF 0 4 (by decide)) (by decide) rfl rfl 3 (by decide) w1_69 rfl rfl dX11_scan_71 ?_
          refine lv_iload_n hx hb dX11_scan_74 rfl (lv_at hl 3 rfl) ?_
          refine lv_aload_n hx hb dX11_scan_75 rfl (lv_at hl 1 rfl) ?_
          refine k_get (ci := 9) (v := .int (gI w26 4 0 7)) hx hb hts hE inX11 hown hP (hp_sh hP hF 0 4 (by decide)) (by decide) rfl rfl 7 (by decide) w1_73 rfl rfl dX11_scan_76 ?_
          obtain ⟨g27, h⟩ := gd_el h
          refine k_iast hx hb hE hP hS (hp_sh hP hF 0 8 (by decide)) (by decide) rfl rfl g27 dX11_scan_79 (fun w28 H locs e hP hS => ?_)
          have h := sq_at h e
          refine lv_aload_n hx hb dX11_scan_80 rfl (lv_at hl 1 rfl) ?_
          refine lv_iload_n hx hb dX11_scan_81 rfl (lv_at hl 3 rfl) ?_
          refine k_put (ci := 9) (ty := .int) (v := .int u2) (w1 := pI w28 4 0 4 u2) hx hb hts hE inX11 tyX11 tyX11_ok nmX11 hown hP hS (hp_sh hP hF 0 4 (by decide)) (by decide) rfl rfl 4 (by decide) w1_70 rfl rfl rfl rfl rfl (Nat.le_of_ble_eq_true rfl) loc_pI (wce_pI.trans rfl) dX11_scan_82 (fun w29 H locs e hP hS => ?_)
          have h := sq_at h e
          refine k_aload_n hx hb dX11_scan_85 rfl (lv_at hl 0 rfl) ?_
          refine k_kind (i := 0) (nm := "END") hx hb hE hS hown rfl (by decide) (hts _ w1_63) dX11_scan_86 ?_
          refine k_acmp_eq (x := 2) (y := 1) (tgt := 99) hx hb hE dX11_scan_89 (by decide) (fun cc => ?_) (fun cc => ?_)
          · have h := br_el h cc
            cases h
            exact k0 rfl _ _ _ hP hS (lv_sub hl [] rfl)
          · have h := br_er h cc
            refine k_aload_n hx hb dX11_scan_92 rfl (lv_at hl 0 rfl) ?_
            refine k_kind (i := 1) (nm := "BAD") hx hb hE hS hown rfl (by decide) (hts _ w2_154) dX11_scan_93 ?_
            refine k_acmp_ne (x := 2) (y := 2) (tgt := 100) hx hb hE dX11_scan_96 (by decide) (fun cc => ?_) (fun cc => ?_)
            · have h := br_er h cc
              obtain ⟨x30, e⟩ : ∃ z : Int32, z = u2 + 1 := ⟨_, rfl⟩
              have h := sq_at h e
              refine lv_iinc (v := x30) (lv' := [(2, .int x30), (3, kR G 2), (0, .ref (adr (gB G) 4 0)), (1, .ref (adr (gB G) 2 0))]) hx hb dX11_scan_100 hl (k := 3) rfl (by rw [e]; rfl) (by decide) (by simp [kR, cat_rf, cat_ref, cat_int, cat_long, cat_null]) (fun ls hl => ?_)
              refine lv_goto (tgt := 7) hx hb dX11_scan_103 (by decide) ?_
              exact ih x30 w29 t w' h _ _ _ hP hS (lv_sub hl [2, 3, 0] rfl) k0 k1
            · have h := br_el h cc
              cases h
              exact k0 rfl _ _ _ hP hS (lv_sub hl [] rfl)

set_option maxHeartbeats 4000000 in
set_option maxRecDepth 100000 in
theorem c_X11_scan (l : Launch) (G : GG) (hF : gF G = true)  (w : Mm) (w' : Mm) (h : f_X11_scan  w = some w') : Kv l G yX11_scan cX11_scan 4 none { frames := 4, cells := 0, slots := 0, locals := 86 } [.ref (adr (gB G) 4 0), .ref (adr (gB G) 2 0)] w w' := by
  refine k_of (by decide +kernel) (Nat.le_of_ble_eq_true rfl) ?_
  intro p e s m args below meth c ls hx hb hml hr hown hlocks hts hin hP hE hl
  have hC : CX p s m args c meth G cX11_scan 4 none RX11 := ⟨hx, hb, hml, hr, hown, hlocks, hts, hE⟩
  have hS : va_S (Ab G) s.heap s.heap [] := va_S.rf
  have hcs : 0 ≤ 0 ∧ 0 ≤ 0 := ⟨Nat.zero_le _, Nat.zero_le _⟩
  have hl : lv_has ls 4 [(0, .ref (adr (gB G) 4 0)), (1, .ref (adr (gB G) 2 0))] := hl
  unfold f_X11_scan at h
  refine lv_aload_n hx hb dX11_scan_0 rfl (lv_at hl 0 rfl) ?_
  refine lv_iconst (v := 0) hx hb dX11_scan_1 (by decide) ?_
  refine k_put (ci := 9) (ty := .int) (v := .int 0) (w1 := pI w 4 0 5 0) hx hb hts hE inX11 tyX11 tyX11_ok nmX11 hown hP hS (hp_sh hP hF 0 4 (by decide)) (by decide) rfl rfl 5 (by decide) w1_71 rfl rfl rfl rfl rfl (Nat.le_of_ble_eq_true rfl) loc_pI (wce_pI.trans rfl) dX11_scan_2 (fun w1 H locs e hP hS => ?_)
  have h := sq_at h e
  refine lv_iconst (v := 0) hx hb dX11_scan_5 (by decide) ?_
  refine lv_istore_n (i := 2) (lv' := [(2, .int 0), (0, .ref (adr (gB G) 4 0)), (1, .ref (adr (gB G) 2 0))]) hx hb dX11_scan_6 rfl hl (by decide) rfl (fun ls hl => ?_)
  obtain ⟨t32, w31, hf, h⟩ := bd1_el h
  refine l_X11_scan_7 hC rfl hcs hF LF 0 w1 t32 w31 hf _ _ _ hP hS (lv_sub hl [1, 2, 0] rfl) (fun ht H locs ls hP hS hl => ?_) (fun ht H locs ls hP hS hl => ?_)
  · have h := br_el h ht
    exact e_v hx hb hr hlocks hP hS (Nat.le_of_ble_eq_true rfl) (Nat.le_of_ble_eq_true rfl) (so_el h) dX11_scan_99
  · have h := br_er h (by rw [ht]; decide)
    exact e_v hx hb hr hlocks hP hS (Nat.le_of_ble_eq_true rfl) (Nat.le_of_ble_eq_true rfl) (so_el h) dX11_scan_106

def f_X11_start (a1 : Int32) (w : Mm) : Option (Int32 × Mm) := bd1 (f_X11_has a1 w) (fun r1 w2 => br (r1 = 0) (some ((-1), w2)) (gd (vB a1 401) (some (gI w2 6 0 a1.toNatClampNeg, w2))))

theorem miX11_start : MI RX11 yX11_start cX11_start 2 (some .int) 1 := ⟨w3_71, w3_72, w1_3, w3_73, rfl, by decide +kernel, by decide +kernel, by decide +kernel⟩
set_option maxHeartbeats 4000000 in
set_option maxRecDepth 100000 in
theorem c_X11_start (l : Launch) (G : GG) (hF : gF G = true) (a1 : Int32) (w : Mm) (r : Int32) (w' : Mm) (h : f_X11_start a1 w = some (r, w')) : Ki l G yX11_start cX11_start 2 (some .int) { frames := 1, cells := 0, slots := 0, locals := 21 } [.ref (adr (gB G) 4 0), .int a1] w r w' := by
  refine k_of (by decide +kernel) (Nat.le_of_ble_eq_true rfl) ?_
  intro p e s m args below meth c ls hx hb hml hr hown hlocks hts hin hP hE hl
  have hC : CX p s m args c meth G cX11_start 2 (some .int) RX11 := ⟨hx, hb, hml, hr, hown, hlocks, hts, hE⟩
  have hS : va_S (Ab G) s.heap s.heap [] := va_S.rf
  have hcs : 0 ≤ 0 ∧ 0 ≤ 0 := ⟨Nat.zero_le _, Nat.zero_le _⟩
  have hl : lv_has ls 2 [(0, .ref (adr (gB G) 4 0)), (1, .int a1)] := hl
  unfold f_X11_start at h
  refine lv_aload_n hx hb dX11_start_0 rfl (lv_at hl 0 rfl) ?_
  refine lv_iload_n hx hb dX11_start_1 rfl (lv_at hl 1 rfl) ?_
  obtain ⟨r1, w2, hf, h⟩ := bd1_el h
  refine c_oni (c_runV (b := adr (gB G) 4 0) (As := [.int a1]) (rest := []) hx hb hml hown hts hE hP hS (c_X11_has l G hF a1 w r1 w2 hf) (c_rec hE hP (hp_sh hP hF 0 4 (by decide)) (by decide) rfl rfl) w3_74 miX11_has ⟨Nat.le_of_ble_eq_true rfl, Nat.le_of_ble_eq_true rfl⟩ rfl hl.1 rfl (Nat.le_of_ble_eq_true rfl) dX11_start_2 hcs) hS (fun H locs hP hS => ?_)
  refine lv_if_eq (tgt := 17) hx hb dX11_start_5 (by decide) (fun cc => ?_) (fun cc => ?_)
  · have h := br_el h cc
    refine lv_iconst (v := (-1)) hx hb dX11_start_17 (by decide) ?_
    exact e_i hx hb hr rfl hlocks hP hS (Nat.le_of_ble_eq_true rfl) (Nat.le_of_ble_eq_true rfl) (Prod.mk.inj (so_el h)) dX11_start_18
  · have h := br_er h cc
    refine lv_aload_n hx hb dX11_start_8 rfl (lv_at hl 0 rfl) ?_
    refine k_get (ci := 9) (v := .ref (adr (gB G) 6 0)) hx hb hts hE inX11 hown hP (hp_sh hP hF 0 4 (by decide)) (by decide) rfl rfl 1 (by decide) w1_67 rfl rfl dX11_start_9 ?_
    refine lv_iload_n hx hb dX11_start_12 rfl (lv_at hl 1 rfl) ?_
    obtain ⟨g3, h⟩ := gd_el h
    refine k_iald hx hb hE hP (hp_sh hP hF 0 6 (by decide)) (by decide) rfl g3 dX11_start_13 ?_
    refine lv_goto (tgt := 18) hx hb dX11_start_14 (by decide) ?_
    exact e_i hx hb hr rfl hlocks hP hS (Nat.le_of_ble_eq_true rfl) (Nat.le_of_ble_eq_true rfl) (Prod.mk.inj (so_el h)) dX11_start_18

def f_X12_errorAt (w : Mm) : Option (Int32 × Mm) := some (gI w 1 0 10, w)

theorem miX12_errorAt : MI RX12 yX12_errorAt cX12_errorAt 1 (some .int) 0 := ⟨w3_172, w3_173, w1_1, w3_174, rfl, by decide +kernel, by decide +kernel, by decide +kernel⟩
set_option maxHeartbeats 4000000 in
set_option maxRecDepth 100000 in
theorem c_X12_errorAt (l : Launch) (G : GG) (hF : gF G = true)  (w : Mm) (r : Int32) (w' : Mm) (h : f_X12_errorAt  w = some (r, w')) : Ki l G yX12_errorAt cX12_errorAt 1 (some .int) { frames := 0, cells := 0, slots := 0, locals := 0 } [.ref (adr (gB G) 1 0)] w r w' := by
  refine k_of (by decide +kernel) (Nat.le_of_ble_eq_true rfl) ?_
  intro p e s m args below meth c ls hx hb hml hr hown hlocks hts hin hP hE hl
  have hC : CX p s m args c meth G cX12_errorAt 1 (some .int) RX12 := ⟨hx, hb, hml, hr, hown, hlocks, hts, hE⟩
  have hS : va_S (Ab G) s.heap s.heap [] := va_S.rf
  have hcs : 0 ≤ 0 ∧ 0 ≤ 0 := ⟨Nat.zero_le _, Nat.zero_le _⟩
  have hl : lv_has ls 1 [(0, .ref (adr (gB G) 1 0))] := hl
  unfold f_X12_errorAt at h
  refine lv_aload_n hx hb dX12_errorAt_0 rfl (lv_at hl 0 rfl) ?_
  refine k_get (ci := 10) (v := .int (gI w 1 0 10)) hx hb hts hE inX12 hown hP (hp_sh hP hF 0 1 (by decide)) (by decide) rfl rfl 10 (by decide) w2_94 rfl rfl dX12_errorAt_1 ?_
  exact e_i hx hb hr rfl hlocks hP hS (Nat.le_of_ble_eq_true rfl) (Nat.le_of_ble_eq_true rfl) (Prod.mk.inj (so_el h)) dX12_errorAt_4

def f_X12_hedges (w : Mm) : Option (Int32 × Mm) := some (gI w 19 0 2, w)

theorem miX12_hedges : MI RX12 yX12_hedges cX12_hedges 1 (some .int) 0 := ⟨w3_176, w3_177, w1_1, w3_178, rfl, by decide +kernel, by decide +kernel, by decide +kernel⟩
set_option maxHeartbeats 4000000 in
set_option maxRecDepth 100000 in
theorem c_X12_hedges (l : Launch) (G : GG) (hF : gF G = true)  (w : Mm) (r : Int32) (w' : Mm) (h : f_X12_hedges  w = some (r, w')) : Ki l G yX12_hedges cX12_hedges 1 (some .int) { frames := 0, cells := 0, slots := 0, locals := 0 } [.ref (adr (gB G) 1 0)] w r w' := by
  refine k_of (by decide +kernel) (Nat.le_of_ble_eq_true rfl) ?_
  intro p e s m args below meth c ls hx hb hml hr hown hlocks hts hin hP hE hl
  have hC : CX p s m args c meth G cX12_hedges 1 (some .int) RX12 := ⟨hx, hb, hml, hr, hown, hlocks, hts, hE⟩
  have hS : va_S (Ab G) s.heap s.heap [] := va_S.rf
  have hcs : 0 ≤ 0 ∧ 0 ≤ 0 := ⟨Nat.zero_le _, Nat.zero_le _⟩
  have hl : lv_has ls 1 [(0, .ref (adr (gB G) 1 0))] := hl
  unfold f_X12_hedges at h
  refine lv_aload_n hx hb dX12_hedges_0 rfl (lv_at hl 0 rfl) ?_
  refine k_get (ci := 10) (v := .ref (adr (gB G) 19 0)) hx hb hts hE inX12 hown hP (hp_sh hP hF 0 1 (by decide)) (by decide) rfl rfl 5 (by decide) w2_89 rfl rfl dX12_hedges_1 ?_
  refine k_get (ci := 0) (v := .int (gI w 19 0 2)) hx hb hts hE inX1 hown hP (hp_sh hP hF 0 19 (by decide)) (by decide) rfl rfl 2 (by decide) w1_222 rfl rfl dX12_hedges_4 ?_
  exact e_i hx hb hr rfl hlocks hP hS (Nat.le_of_ble_eq_true rfl) (Nat.le_of_ble_eq_true rfl) (Prod.mk.inj (so_el h)) dX12_hedges_7

def f_X12_roses (w : Mm) : Option (Int32 × Mm) := some (gI w 19 0 3, w)

theorem miX12_roses : MI RX12 yX12_roses cX12_roses 1 (some .int) 0 := ⟨w3_180, w3_181, w1_1, w3_182, rfl, by decide +kernel, by decide +kernel, by decide +kernel⟩
set_option maxHeartbeats 4000000 in
set_option maxRecDepth 100000 in
theorem c_X12_roses (l : Launch) (G : GG) (hF : gF G = true)  (w : Mm) (r : Int32) (w' : Mm) (h : f_X12_roses  w = some (r, w')) : Ki l G yX12_roses cX12_roses 1 (some .int) { frames := 0, cells := 0, slots := 0, locals := 0 } [.ref (adr (gB G) 1 0)] w r w' := by
  refine k_of (by decide +kernel) (Nat.le_of_ble_eq_true rfl) ?_
  intro p e s m args below meth c ls hx hb hml hr hown hlocks hts hin hP hE hl
  have hC : CX p s m args c meth G cX12_roses 1 (some .int) RX12 := ⟨hx, hb, hml, hr, hown, hlocks, hts, hE⟩
  have hS : va_S (Ab G) s.heap s.heap [] := va_S.rf
  have hcs : 0 ≤ 0 ∧ 0 ≤ 0 := ⟨Nat.zero_le _, Nat.zero_le _⟩
  have hl : lv_has ls 1 [(0, .ref (adr (gB G) 1 0))] := hl
  unfold f_X12_roses at h
  refine lv_aload_n hx hb dX12_roses_0 rfl (lv_at hl 0 rfl) ?_
  refine k_get (ci := 10) (v := .ref (adr (gB G) 19 0)) hx hb hts hE inX12 hown hP (hp_sh hP hF 0 1 (by decide)) (by decide) rfl rfl 5 (by decide) w2_89 rfl rfl dX12_roses_1 ?_
  refine k_get (ci := 0) (v := .int (gI w 19 0 3)) hx hb hts hE inX1 hown hP (hp_sh hP hF 0 19 (by decide)) (by decide) rfl rfl 3 (by decide) w1_224 rfl rfl dX12_roses_4 ?_
  exact e_i hx hb hr rfl hlocks hP hS (Nat.le_of_ble_eq_true rfl) (Nat.le_of_ble_eq_true rfl) (Prod.mk.inj (so_el h)) dX12_roses_7

def f_X12_day (w : Mm) : Option (Int32 × Mm) := some (gI w 19 0 4, w)

theorem miX12_day : MI RX12 yX12_day cX12_day 1 (some .int) 0 := ⟨w3_184, w3_185, w1_1, w3_186, rfl, by decide +kernel, by decide +kernel, by decide +kernel⟩
set_option maxHeartbeats 4000000 in
set_option maxRecDepth 100000 in
theorem c_X12_day (l : Launch) (G : GG) (hF : gF G = true)  (w : Mm) (r : Int32) (w' : Mm) (h : f_X12_day  w = some (r, w')) : Ki l G yX12_day cX12_day 1 (some .int) { frames := 0, cells := 0, slots := 0, locals := 0 } [.ref (adr (gB G) 1 0)] w r w' := by
  refine k_of (by decide +kernel) (Nat.le_of_ble_eq_true rfl) ?_
  intro p e s m args below meth c ls hx hb hml hr hown hlocks hts hin hP hE hl
  have hC : CX p s m args c meth G cX12_day 1 (some .int) RX12 := ⟨hx, hb, hml, hr, hown, hlocks, hts, hE⟩
  have hS : va_S (Ab G) s.heap s.heap [] := va_S.rf
  have hcs : 0 ≤ 0 ∧ 0 ≤ 0 := ⟨Nat.zero_le _, Nat.zero_le _⟩
  have hl : lv_has ls 1 [(0, .ref (adr (gB G) 1 0))] := hl
  unfold f_X12_day at h
  refine lv_aload_n hx hb dX12_day_0 rfl (lv_at hl 0 rfl) ?_
  refine k_get (ci := 10) (v := .ref (adr (gB G) 19 0)) hx hb hts hE inX12 hown hP (hp_sh hP hF 0 1 (by decide)) (by decide) rfl rfl 5 (by decide) w2_89 rfl rfl dX12_day_1 ?_
  refine k_get (ci := 0) (v := .int (gI w 19 0 4)) hx hb hts hE inX1 hown hP (hp_sh hP hF 0 19 (by decide)) (by decide) rfl rfl 4 (by decide) w1_227 rfl rfl dX12_day_4 ?_
  exact e_i hx hb hr rfl hlocks hP hS (Nat.le_of_ble_eq_true rfl) (Nat.le_of_ble_eq_true rfl) (Prod.mk.inj (so_el h)) dX12_day_7

def f_X12_ordersCarriedOut (w : Mm) : Option (Int32 × Mm) := some (gI w 19 0 5, w)

theorem miX12_ordersCarriedOut : MI RX12 yX12_ordersCarriedOut cX12_ordersCarriedOut 1 (some .int) 0 := ⟨w3_188, w3_189, w1_1, w3_190, rfl, by decide +kernel, by decide +kernel, by decide +kernel⟩
set_option maxHeartbeats 4000000 in
set_option maxRecDepth 100000 in
theorem c_X12_ordersCarriedOut (l : Launch) (G : GG) (hF : gF G = true)  (w : Mm) (r : Int32) (w' : Mm) (h : f_X12_ordersCarriedOut  w = some (r, w')) : Ki l G yX12_ordersCarriedOut cX12_ordersCarriedOut 1 (some .int) { frames := 0, cells := 0, slots := 0, locals := 0 } [.ref (adr (gB G) 1 0)] w r w' := by
  refine k_of (by decide +kernel) (Nat.le_of_ble_eq_true rfl) ?_
  intro p e s m args below meth c ls hx hb hml hr hown hlocks hts hin hP hE hl
  have hC : CX p s m args c meth G cX12_ordersCarriedOut 1 (some .int) RX12 := ⟨hx, hb, hml, hr, hown, hlocks, hts, hE⟩
  have hS : va_S (Ab G) s.heap s.heap [] := va_S.rf
  have hcs : 0 ≤ 0 ∧ 0 ≤ 0 := ⟨Nat.zero_le _, Nat.zero_le _⟩
  have hl : lv_has ls 1 [(0, .ref (adr (gB G) 1 0))] := hl
  unfold f_X12_ordersCarriedOut at h
  refine lv_aload_n hx hb dX12_ordersCarriedOut_0 rfl (lv_at hl 0 rfl) ?_
  refine k_get (ci := 10) (v := .ref (adr (gB G) 19 0)) hx hb hts hE inX12 hown hP (hp_sh hP hF 0 1 (by decide)) (by decide) rfl rfl 5 (by decide) w2_89 rfl rfl dX12_ordersCarriedOut_1 ?_
  refine k_get (ci := 0) (v := .int (gI w 19 0 5)) hx hb hts hE inX1 hown hP (hp_sh hP hF 0 19 (by decide)) (by decide) rfl rfl 5 (by decide) w1_230 rfl rfl dX12_ordersCarriedOut_4 ?_
  exact e_i hx hb hr rfl hlocks hP hS (Nat.le_of_ble_eq_true rfl) (Nat.le_of_ble_eq_true rfl) (Prod.mk.inj (so_el h)) dX12_ordersCarriedOut_7

def f_X12_whispers (w : Mm) : Option (Int32 × Mm) := some (gI w 19 0 6, w)

theorem miX12_whispers : MI RX12 yX12_whispers cX12_whispers 1 (some .int) 0 := ⟨w3_192, w3_193, w1_1, w3_194, rfl, by decide +kernel, by decide +kernel, by decide +kernel⟩
set_option maxHeartbeats 4000000 in
set_option maxRecDepth 100000 in
theorem c_X12_whispers (l : Launch) (G : GG) (hF : gF G = true)  (w : Mm) (r : Int32) (w' : Mm) (h : f_X12_whispers  w = some (r, w')) : Ki l G yX12_whispers cX12_whispers 1 (some .int) { frames := 0, cells := 0, slots := 0, locals := 0 } [.ref (adr (gB G) 1 0)] w r w' := by
  refine k_of (by decide +kernel) (Nat.le_of_ble_eq_true rfl) ?_
  intro p e s m args below meth c ls hx hb hml hr hown hlocks hts hin hP hE hl
  have hC : CX p s m args c meth G cX12_whispers 1 (some .int) RX12 := ⟨hx, hb, hml, hr, hown, hlocks, hts, hE⟩
  have hS : va_S (Ab G) s.heap s.heap [] := va_S.rf
  have hcs : 0 ≤ 0 ∧ 0 ≤ 0 := ⟨Nat.zero_le _, Nat.zero_le _⟩
  have hl : lv_has ls 1 [(0, .ref (adr (gB G) 1 0))] := hl
  unfold f_X12_whispers at h
  refine lv_aload_n hx hb dX12_whispers_0 rfl (lv_at hl 0 rfl) ?_
  refine k_get (ci := 10) (v := .ref (adr (gB G) 19 0)) hx hb hts hE inX12 hown hP (hp_sh hP hF 0 1 (by decide)) (by decide) rfl rfl 5 (by decide) w2_89 rfl rfl dX12_whispers_1 ?_
  refine k_get (ci := 0) (v := .int (gI w 19 0 6)) hx hb hts hE inX1 hown hP (hp_sh hP hF 0 19 (by decide)) (by decide) rfl rfl 6 (by decide) w1_234 rfl rfl dX12_whispers_4 ?_
  exact e_i hx hb hr rfl hlocks hP hS (Nat.le_of_ble_eq_true rfl) (Nat.le_of_ble_eq_true rfl) (Prod.mk.inj (so_el h)) dX12_whispers_7

def f_X12_cycles (w : Mm) : Option (Int32 × Mm) := some (gI w 19 0 7, w)

theorem miX12_cycles : MI RX12 yX12_cycles cX12_cycles 1 (some .int) 0 := ⟨w3_196, w3_197, w1_1, w3_198, rfl, by decide +kernel, by decide +kernel, by decide +kernel⟩
set_option maxHeartbeats 4000000 in
set_option maxRecDepth 100000 in
theorem c_X12_cycles (l : Launch) (G : GG) (hF : gF G = true)  (w : Mm) (r : Int32) (w' : Mm) (h : f_X12_cycles  w = some (r, w')) : Ki l G yX12_cycles cX12_cycles 1 (some .int) { frames := 0, cells := 0, slots := 0, locals := 0 } [.ref (adr (gB G) 1 0)] w r w' := by
  refine k_of (by decide +kernel) (Nat.le_of_ble_eq_true rfl) ?_
  intro p e s m args below meth c ls hx hb hml hr hown hlocks hts hin hP hE hl
  have hC : CX p s m args c meth G cX12_cycles 1 (some .int) RX12 := ⟨hx, hb, hml, hr, hown, hlocks, hts, hE⟩
  have hS : va_S (Ab G) s.heap s.heap [] := va_S.rf
  have hcs : 0 ≤ 0 ∧ 0 ≤ 0 := ⟨Nat.zero_le _, Nat.zero_le _⟩
  have hl : lv_has ls 1 [(0, .ref (adr (gB G) 1 0))] := hl
  unfold f_X12_cycles at h
  refine lv_aload_n hx hb dX12_cycles_0 rfl (lv_at hl 0 rfl) ?_
  refine k_get (ci := 10) (v := .ref (adr (gB G) 19 0)) hx hb hts hE inX12 hown hP (hp_sh hP hF 0 1 (by decide)) (by decide) rfl rfl 5 (by decide) w2_89 rfl rfl dX12_cycles_1 ?_
  refine k_get (ci := 0) (v := .int (gI w 19 0 7)) hx hb hts hE inX1 hown hP (hp_sh hP hF 0 19 (by decide)) (by decide) rfl rfl 7 (by decide) w1_238 rfl rfl dX12_cycles_4 ?_
  exact e_i hx hb hr rfl hlocks hP hS (Nat.le_of_ble_eq_true rfl) (Nat.le_of_ble_eq_true rfl) (Prod.mk.inj (so_el h)) dX12_cycles_7

def f_X12_departures (w : Mm) : Option (Int32 × Mm) := some (gI w 19 0 8, w)

theorem miX12_departures : MI RX12 yX12_departures cX12_departures 1 (some .int) 0 := ⟨w3_200, w3_201, w1_1, w3_202, rfl, by decide +kernel, by decide +kernel, by decide +kernel⟩
set_option maxHeartbeats 4000000 in
set_option maxRecDepth 100000 in
theorem c_X12_departures (l : Launch) (G : GG) (hF : gF G = true)  (w : Mm) (r : Int32) (w' : Mm) (h : f_X12_departures  w = some (r, w')) : Ki l G yX12_departures cX12_departures 1 (some .int) { frames := 0, cells := 0, slots := 0, locals := 0 } [.ref (adr (gB G) 1 0)] w r w' := by
  refine k_of (by decide +kernel) (Nat.le_of_ble_eq_true rfl) ?_
  intro p e s m args below meth c ls hx hb hml hr hown hlocks hts hin hP hE hl
  have hC : CX p s m args c meth G cX12_departures 1 (some .int) RX12 := ⟨hx, hb, hml, hr, hown, hlocks, hts, hE⟩
  have hS : va_S (Ab G) s.heap s.heap [] := va_S.rf
  have hcs : 0 ≤ 0 ∧ 0 ≤ 0 := ⟨Nat.zero_le _, Nat.zero_le _⟩
  have hl : lv_has ls 1 [(0, .ref (adr (gB G) 1 0))] := hl
  unfold f_X12_departures at h
  refine lv_aload_n hx hb dX12_departures_0 rfl (lv_at hl 0 rfl) ?_
  refine k_get (ci := 10) (v := .ref (adr (gB G) 19 0)) hx hb hts hE inX12 hown hP (hp_sh hP hF 0 1 (by decide)) (by decide) rfl rfl 5 (by decide) w2_89 rfl rfl dX12_departures_1 ?_
  refine k_get (ci := 0) (v := .int (gI w 19 0 8)) hx hb hts hE inX1 hown hP (hp_sh hP hF 0 19 (by decide)) (by decide) rfl rfl 8 (by decide) w2_0 rfl rfl dX12_departures_4 ?_
  exact e_i hx hb hr rfl hlocks hP hS (Nat.le_of_ble_eq_true rfl) (Nat.le_of_ble_eq_true rfl) (Prod.mk.inj (so_el h)) dX12_departures_7

def f_X1_hedge (a0 : Nat) (a1 : Int32) (w : Mm) : Option (Option Nat × Mm) := br (a1 < 0) (some (none, w)) (br ((gI w 19 a0 2) ≤ a1) (some (none, w)) (br (a1 < 8) (gd (vB a1 8) (some (some (8 * a0 + a1.toNatClampNeg), w))) (some (none, w))))

theorem miX1_hedge : MI RX1 yX1_hedge cX1_hedge 2 (some (.object "HedgeNews$Hedge")) 1 := ⟨w4_96, w4_97, w1_9, w4_98, rfl, by decide +kernel, by decide +kernel, by decide +kernel⟩
set_option maxHeartbeats 4000000 in
set_option maxRecDepth 100000 in
theorem c_X1_hedge (l : Launch) (G : GG) (hF : gF G = true) (a0 : Nat) (ha0 : a0 < cnt 19) (a1 : Int32) (w : Mm) (r : Option Nat) (w' : Mm) (h : f_X1_hedge a0 a1 w = some (r, w')) : Kq l G yX1_hedge cX1_hedge 2 (some (.object "HedgeNews$Hedge")) { frames := 0, cells := 0, slots := 0, locals := 0 } [.ref (adr (gB G) 19 a0), .int a1] w (r.map (adr (gB G) 22)) w' := by
  refine k_of (by decide +kernel) (Nat.le_of_ble_eq_true rfl) ?_
  intro p e s m args below meth c ls hx hb hml hr hown hlocks hts hin hP hE hl
  have hC : CX p s m args c meth G cX1_hedge 2 (some (.object "HedgeNews$Hedge")) RX1 := ⟨hx, hb, hml, hr, hown, hlocks, hts, hE⟩
  have hS : va_S (Ab G) s.heap s.heap [] := va_S.rf
  have hcs : 0 ≤ 0 ∧ 0 ≤ 0 := ⟨Nat.zero_le _, Nat.zero_le _⟩
  have hl : lv_has ls 2 [(0, .ref (adr (gB G) 19 a0)), (1, .int a1)] := hl
  unfold f_X1_hedge at h
  refine lv_iload_n hx hb dX1_hedge_0 rfl (lv_at hl 1 rfl) ?_
  refine lv_if_lt (tgt := 21) hx hb dX1_hedge_1 (by decide) (fun cc => ?_) (fun cc => ?_)
  · have h := br_el h cc
    refine lv_null hx hb dX1_hedge_21 ?_
    refine lv_goto (tgt := 31) hx hb dX1_hedge_22 (by decide) ?_
    exact e_q (v := Option.map (adr (gB G) 22) none) hx hb hr (Or.inl ⟨_, rfl⟩) hlocks hP hS (Nat.le_of_ble_eq_true rfl) (Nat.le_of_ble_eq_true rfl) ((Prod.mk.inj (so_el h)).imp (congrArg (Option.map (adr (gB G) 22))) id) dX1_hedge_31
  · have h := br_er h cc
    refine lv_iload_n hx hb dX1_hedge_4 rfl (lv_at hl 1 rfl) ?_
    refine lv_aload_n hx hb dX1_hedge_5 rfl (lv_at hl 0 rfl) ?_
    refine k_get (ci := 0) (v := .int (gI w 19 a0 2)) hx hb hts hE inX1 hown hP (hp_sh hP hF a0 19 ha0) (by decide) rfl rfl 2 (by decide) w1_221 rfl rfl dX1_hedge_6 ?_
    refine lv_icmp_ge (tgt := 21) hx hb dX1_hedge_9 (by decide) (fun cc => ?_) (fun cc => ?_)
    · have h := br_el h cc
      refine lv_null hx hb dX1_hedge_21 ?_
      refine lv_goto (tgt := 31) hx hb dX1_hedge_22 (by decide) ?_
      exact e_q (v := Option.map (adr (gB G) 22) none) hx hb hr (Or.inl ⟨_, rfl⟩) hlocks hP hS (Nat.le_of_ble_eq_true rfl) (Nat.le_of_ble_eq_true rfl) ((Prod.mk.inj (so_el h)).imp (congrArg (Option.map (adr (gB G) 22))) id) dX1_hedge_31
    · have h := br_er h cc
      refine lv_iload_n hx hb dX1_hedge_12 rfl (lv_at hl 1 rfl) ?_
      refine lv_aload_n hx hb dX1_hedge_13 rfl (lv_at hl 0 rfl) ?_
      refine k_get (ci := 0) (v := .ref (adr (gB G) 20 a0)) hx hb hts hE inX1 hown hP (hp_sh hP hF a0 19 ha0) (by decide) rfl rfl 0 (by decide) w1_219 rfl rfl dX1_hedge_14 ?_
      refine k_alen (v := 8) hx hb hE hP (hp_sh hP hF a0 20 ha0) (by decide) rfl 4 rfl rfl dX1_hedge_17 ?_
      refine lv_icmp_lt (tgt := 25) hx hb dX1_hedge_18 (by decide) (fun cc => ?_) (fun cc => ?_)
      · have h := br_el h cc
        refine lv_aload_n hx hb dX1_hedge_25 rfl (lv_at hl 0 rfl) ?_
        refine k_get (ci := 0) (v := .ref (adr (gB G) 20 a0)) hx hb hts hE inX1 hown hP (hp_sh hP hF a0 19 ha0) (by decide) rfl rfl 0 (by decide) w1_219 rfl rfl dX1_hedge_26 ?_
        refine lv_iload_n hx hb dX1_hedge_29 rfl (lv_at hl 1 rfl) ?_
        obtain ⟨g1, h⟩ := gd_el h
        refine k_aald (t0 := 4) hx hb hE hP (hp_sh hP hF a0 20 ha0) (by decide) rfl rfl g1 dX1_hedge_30 ?_
        refine k_aref (b0 := gB G) (c0 := 22) (k0 := a0) g1 (by decide) ?_
        exact e_q (v := Option.map (adr (gB G) 22) (some (8 * a0 + a1.toNatClampNeg))) hx hb hr (Or.inl ⟨_, rfl⟩) hlocks hP hS (Nat.le_of_ble_eq_true rfl) (Nat.le_of_ble_eq_true rfl) ((Prod.mk.inj (so_el h)).imp (congrArg (Option.map (adr (gB G) 22))) id) dX1_hedge_31
      · have h := br_er h cc
        refine lv_null hx hb dX1_hedge_21 ?_
        refine lv_goto (tgt := 31) hx hb dX1_hedge_22 (by decide) ?_
        exact e_q (v := Option.map (adr (gB G) 22) none) hx hb hr (Or.inl ⟨_, rfl⟩) hlocks hP hS (Nat.le_of_ble_eq_true rfl) (Nat.le_of_ble_eq_true rfl) ((Prod.mk.inj (so_el h)).imp (congrArg (Option.map (adr (gB G) 22))) id) dX1_hedge_31

def f_X3_placeOf_L2 (z0 : Nat) (z1 : Int32) : Nat → Int32 → Mm → Option (Nat × Int32 × Mm)
  | 0, _, _ => none
  | n + 1, u2, w => br ((gI w 22 z0 3) ≤ u2) (some ((1 : Nat), u2, w)) (br (16 ≤ u2) (some ((1 : Nat), u2, w)) (gd (vB u2 16) (br ((gI w 23 z0 u2.toNatClampNeg) = z1) (some ((0 : Nat), u2, w)) (sq (u2 + 1) (fun x2 => f_X3_placeOf_L2 z0 z1 n x2 w)))))

def f_X3_placeOf (a0 : Nat) (a1 : Int32) (w : Mm) : Option (Int32 × Mm) := bd2 (f_X3_placeOf_L2 a0 a1 LF 0 w) (fun t5 y3 w4 => br (t5 = 0) (some (y3, w4)) (some ((-1), w4)))

theorem miX3_placeOf : MI RX3 yX3_placeOf cX3_placeOf 3 (some .int) 1 := ⟨w4_117, w4_118, w1_10, w4_119, rfl, by decide +kernel, by decide +kernel, by decide +kernel⟩
set_option maxHeartbeats 4000000 in
set_option maxRecDepth 100000 in
theorem l_X3_placeOf_2 {p : Program} {l : Launch} {e : Env} {R : Room} {s : State} {m : MethodId} {args : Array Value} {below : List Frame} {meth : Method} {c : Code} {cells slots : Nat} {Q : State → Prop} {G : GG} (hC : CX p s m args c meth G cX3_placeOf 3 (some .int) RX3) (hR : R = { frames := 0, cells := 0, slots := 0, locals := 0 }) (hcs : cells ≤ R.cells ∧ slots ≤ R.slots) (hF : gF G = true) (z0 : Nat) (hz0 : z0 < cnt 22) (z1 : Int32) : ∀ (n : Nat) (u2 : Int32) (w : Mm) (t : Nat) (v2 : Int32) (w' : Mm), f_X3_placeOf_L2 z0 z1 n u2 w = some (t, v2, w') → ∀ (H : Heap) (locs : List Loc) (ls : Array Slot), HP G w H → va_S (Ab G) s.heap H locs → lv_has ls 3 [(0, .ref (adr (gB G) 22 z0)), (1, .int z1), (2, .int u2)] → (t = 0 → ∀ (H : Heap) (locs : List Loc) (ls : Array Slot), HP G w' H → va_S (Ab G) s.heap H locs → lv_has ls 3 [(2, .int v2)] → W p l e R s m args below meth c H locs cells slots Q (F0 m 29 ls [])) → (t = 1 → ∀ (H : Heap) (locs : List Loc) (ls : Array Slot), HP G w' H → va_S (Ab G) s.heap H locs → lv_has ls 3 [] → W p l e R s m args below meth c H locs cells slots Q (F0 m 37 ls [])) → W p l e R s m args below meth c H locs cells slots Q (F0 m 2 ls []) := by
  subst hR
  obtain ⟨hx, hb, hml, hr, hown, hlocks, hts, hE⟩ := id hC
  intro n
  induction n with
  | zero =>
    intro u2 w t v2 w' h
    rw [f_X3_placeOf_L2] at h
    cases h
  | succ n ih =>
    intro u2 w t v2 w' h H locs ls hP hS hl k0 k1
    rw [f_X3_placeOf_L2] at h
    refine lv_iload_n hx hb dX3_placeOf_2 rfl (lv_at hl 2 rfl) ?_
    refine lv_aload_n hx hb dX3_placeOf_3 rfl (lv_at hl 0 rfl) ?_
    refine k_get (ci := 2) (v := .int (gI w 22 z0 3)) hx hb hts hE inX3 hown hP (hp_sh hP hF z0 22 hz0) (by decide) rfl rfl 3 (by decide) w1_178 rfl rfl dX3_placeOf_4 ?_
    refine lv_icmp_ge (tgt := 37) hx hb dX3_placeOf_7 (by decide) (fun cc => ?_) (fun cc => ?_)
    · have h := br_el h cc
      cases h
      exact k1 rfl _ _ _ hP hS (lv_sub hl [] rfl)
    · have h := br_er h cc
      refine lv_iload_n hx hb dX3_placeOf_10 rfl (lv_at hl 2 rfl) ?_
      refine lv_aload_n hx hb dX3_placeOf_11 rfl (lv_at hl 0 rfl) ?_
      refine k_get (ci := 2) (v := .ref (adr (gB G) 23 z0)) hx hb hts hE inX3 hown hP (hp_sh hP hF z0 22 hz0) (by decide) rfl rfl 4 (by decide) w1_181 rfl rfl dX3_placeOf_12 ?_
      refine k_alen (v := 16) hx hb hE hP (hp_sh hP hF z0 23 hz0) (by decide) rfl 0 rfl rfl dX3_placeOf_15 ?_
      refine lv_icmp_ge (tgt := 37) hx hb dX3_placeOf_16 (by decide) (fun cc => ?_) (fun cc => ?_)
      · have h := br_el h cc
        cases h
        exact k1 rfl _ _ _ hP hS (lv_sub hl [] rfl)
      · have h := br_er h cc
        refine lv_aload_n hx hb dX3_placeOf_19 rfl (lv_at hl 0 rfl) ?_
        refine k_get (ci := 2) (v := .ref (adr (gB G) 23 z0)) hx hb hts hE inX3 hown hP (hp_sh hP hF z0 22 hz0) (by decide) rfl rfl 4 (by decide) w1_181 rfl rfl dX3_placeOf_20 ?_
        refine lv_iload_n hx hb dX3_placeOf_23 rfl (lv_at hl 2 rfl) ?_
        obtain ⟨g1, h⟩ := gd_el h
        refine k_iald hx hb hE hP (hp_sh hP hF z0 23 hz0) (by decide) rfl g1 dX3_placeOf_24 ?_
        refine lv_iload_n hx hb dX3_placeOf_25 rfl (lv_at hl 1 rfl) ?_
        refine lv_icmp_ne (tgt := 31) hx hb dX3_placeOf_26 (by decide) (fun cc => ?_) (fun cc => ?_)
        · have h := br_er h cc
          obtain ⟨x2, e⟩ : ∃ z : Int32, z = u2 + 1 := ⟨_, rfl⟩
          have h := sq_at h e
          refine lv_iinc (v := x2) (lv' := [(2, .int x2), (0, .ref (adr (gB G) 22 z0)), (1, .int z1)]) hx hb dX3_placeOf_31 hl (k := 2) rfl (by rw [e]; rfl) (by decide) rfl (fun ls hl => ?_)
          refine lv_goto (tgt := 2) hx hb dX3_placeOf_34 (by decide) ?_
          exact ih x2 w t v2 w' h _ _ _ hP hS (lv_sub hl [1, 2, 0] rfl) k0 k1
        · have h := br_el h cc
          cases h
          exact k0 rfl _ _ _ hP hS (lv_sub hl [2] rfl)

set_option maxHeartbeats 4000000 in
set_option maxRecDepth 100000 in
theorem c_X3_placeOf (l : Launch) (G : GG) (hF : gF G = true) (a0 : Nat) (ha0 : a0 < cnt 22) (a1 : Int32) (w : Mm) (r : Int32) (w' : Mm) (h : f_X3_placeOf a0 a1 w = some (r, w')) : Ki l G yX3_placeOf cX3_placeOf 3 (some .int) { frames := 0, cells := 0, slots := 0, locals := 0 } [.ref (adr (gB G) 22 a0), .int a1] w r w' := by
  refine k_of (by decide +kernel) (Nat.le_of_ble_eq_true rfl) ?_
  intro p e s m args below meth c ls hx hb hml hr hown hlocks hts hin hP hE hl
  have hC : CX p s m args c meth G cX3_placeOf 3 (some .int) RX3 := ⟨hx, hb, hml, hr, hown, hlocks, hts, hE⟩
  have hS : va_S (Ab G) s.heap s.heap [] := va_S.rf
  have hcs : 0 ≤ 0 ∧ 0 ≤ 0 := ⟨Nat.zero_le _, Nat.zero_le _⟩
  have hl : lv_has ls 3 [(0, .ref (adr (gB G) 22 a0)), (1, .int a1)] := hl
  unfold f_X3_placeOf at h
  refine lv_iconst (v := 0) hx hb dX3_placeOf_0 (by decide) ?_
  refine lv_istore_n (i := 2) (lv' := [(2, .int 0), (0, .ref (adr (gB G) 22 a0)), (1, .int a1)]) hx hb dX3_placeOf_1 rfl hl (by decide) rfl (fun ls hl => ?_)
  obtain ⟨t5, y3, w4, hf, h⟩ := bd2_el h
  refine l_X3_placeOf_2 hC rfl hcs hF a0 ha0 a1 LF 0 w t5 y3 w4 hf _ _ _ hP hS (lv_sub hl [1, 2, 0] rfl) (fun ht H locs ls hP hS hl => ?_) (fun ht H locs ls hP hS hl => ?_)
  · have h := br_el h ht
    refine lv_iload_n hx hb dX3_placeOf_29 rfl (lv_at hl 0 rfl) ?_
    exact e_i hx hb hr rfl hlocks hP hS (Nat.le_of_ble_eq_true rfl) (Nat.le_of_ble_eq_true rfl) (Prod.mk.inj (so_el h)) dX3_placeOf_30
  · have h := br_er h (by rw [ht]; decide)
    refine lv_iconst (v := (-1)) hx hb dX3_placeOf_37 (by decide) ?_
    exact e_i hx hb hr rfl hlocks hP hS (Nat.le_of_ble_eq_true rfl) (Nat.le_of_ble_eq_true rfl) (Prod.mk.inj (so_el h)) dX3_placeOf_38

def f_X1_rose (a0 : Nat) (a1 : Int32) (w : Mm) : Option (Option Nat × Mm) := br (a1 < 0) (some (none, w)) (br ((gI w 19 a0 3) ≤ a1) (some (none, w)) (br (a1 < 8) (gd (vB a1 8) (some (some (8 * a0 + a1.toNatClampNeg), w))) (some (none, w))))

theorem miX1_rose : MI RX1 yX1_rose cX1_rose 2 (some (.object "HedgeNews$Rose")) 1 := ⟨w3_216, w3_217, w1_9, w3_218, rfl, by decide +kernel, by decide +kernel, by decide +kernel⟩
set_option maxHeartbeats 4000000 in
set_option maxRecDepth 100000 in
theorem c_X1_rose (l : Launch) (G : GG) (hF : gF G = true) (a0 : Nat) (ha0 : a0 < cnt 19) (a1 : Int32) (w : Mm) (r : Option Nat) (w' : Mm) (h : f_X1_rose a0 a1 w = some (r, w')) : Kq l G yX1_rose cX1_rose 2 (some (.object "HedgeNews$Rose")) { frames := 0, cells := 0, slots := 0, locals := 0 } [.ref (adr (gB G) 19 a0), .int a1] w (r.map (adr (gB G) 24)) w' := by
  refine k_of (by decide +kernel) (Nat.le_of_ble_eq_true rfl) ?_
  intro p e s m args below meth c ls hx hb hml hr hown hlocks hts hin hP hE hl
  have hC : CX p s m args c meth G cX1_rose 2 (some (.object "HedgeNews$Rose")) RX1 := ⟨hx, hb, hml, hr, hown, hlocks, hts, hE⟩
  have hS : va_S (Ab G) s.heap s.heap [] := va_S.rf
  have hcs : 0 ≤ 0 ∧ 0 ≤ 0 := ⟨Nat.zero_le _, Nat.zero_le _⟩
  have hl : lv_has ls 2 [(0, .ref (adr (gB G) 19 a0)), (1, .int a1)] := hl
  unfold f_X1_rose at h
  refine lv_iload_n hx hb dX1_rose_0 rfl (lv_at hl 1 rfl) ?_
  refine lv_if_lt (tgt := 21) hx hb dX1_rose_1 (by decide) (fun cc => ?_) (fun cc => ?_)
  · have h := br_el h cc
    refine lv_null hx hb dX1_rose_21 ?_
    refine lv_goto (tgt := 31) hx hb dX1_rose_22 (by decide) ?_
    exact e_q (v := Option.map (adr (gB G) 24) none) hx hb hr (Or.inl ⟨_, rfl⟩) hlocks hP hS (Nat.le_of_ble_eq_true rfl) (Nat.le_of_ble_eq_true rfl) ((Prod.mk.inj (so_el h)).imp (congrArg (Option.map (adr (gB G) 24))) id) dX1_rose_31
  · have h := br_er h cc
    refine lv_iload_n hx hb dX1_rose_4 rfl (lv_at hl 1 rfl) ?_
    refine lv_aload_n hx hb dX1_rose_5 rfl (lv_at hl 0 rfl) ?_
    refine k_get (ci := 0) (v := .int (gI w 19 a0 3)) hx hb hts hE inX1 hown hP (hp_sh hP hF a0 19 ha0) (by decide) rfl rfl 3 (by decide) w1_223 rfl rfl dX1_rose_6 ?_
    refine lv_icmp_ge (tgt := 21) hx hb dX1_rose_9 (by decide) (fun cc => ?_) (fun cc => ?_)
    · have h := br_el h cc
      refine lv_null hx hb dX1_rose_21 ?_
      refine lv_goto (tgt := 31) hx hb dX1_rose_22 (by decide) ?_
      exact e_q (v := Option.map (adr (gB G) 24) none) hx hb hr (Or.inl ⟨_, rfl⟩) hlocks hP hS (Nat.le_of_ble_eq_true rfl) (Nat.le_of_ble_eq_true rfl) ((Prod.mk.inj (so_el h)).imp (congrArg (Option.map (adr (gB G) 24))) id) dX1_rose_31
    · have h := br_er h cc
      refine lv_iload_n hx hb dX1_rose_12 rfl (lv_at hl 1 rfl) ?_
      refine lv_aload_n hx hb dX1_rose_13 rfl (lv_at hl 0 rfl) ?_
      refine k_get (ci := 0) (v := .ref (adr (gB G) 21 a0)) hx hb hts hE inX1 hown hP (hp_sh hP hF a0 19 ha0) (by decide) rfl rfl 1 (by decide) w1_220 rfl rfl dX1_rose_14 ?_
      refine k_alen (v := 8) hx hb hE hP (hp_sh hP hF a0 21 ha0) (by decide) rfl 5 rfl rfl dX1_rose_17 ?_
      refine lv_icmp_lt (tgt := 25) hx hb dX1_rose_18 (by decide) (fun cc => ?_) (fun cc => ?_)
      · have h := br_el h cc
        refine lv_aload_n hx hb dX1_rose_25 rfl (lv_at hl 0 rfl) ?_
        refine k_get (ci := 0) (v := .ref (adr (gB G) 21 a0)) hx hb hts hE inX1 hown hP (hp_sh hP hF a0 19 ha0) (by decide) rfl rfl 1 (by decide) w1_220 rfl rfl dX1_rose_26 ?_
        refine lv_iload_n hx hb dX1_rose_29 rfl (lv_at hl 1 rfl) ?_
        obtain ⟨g1, h⟩ := gd_el h
        refine k_aald (t0 := 5) hx hb hE hP (hp_sh hP hF a0 21 ha0) (by decide) rfl rfl g1 dX1_rose_30 ?_
        refine k_aref (b0 := gB G) (c0 := 24) (k0 := a0) g1 (by decide) ?_
        exact e_q (v := Option.map (adr (gB G) 24) (some (8 * a0 + a1.toNatClampNeg))) hx hb hr (Or.inl ⟨_, rfl⟩) hlocks hP hS (Nat.le_of_ble_eq_true rfl) (Nat.le_of_ble_eq_true rfl) ((Prod.mk.inj (so_el h)).imp (congrArg (Option.map (adr (gB G) 24))) id) dX1_rose_31
      · have h := br_er h cc
        refine lv_null hx hb dX1_rose_21 ?_
        refine lv_goto (tgt := 31) hx hb dX1_rose_22 (by decide) ?_
        exact e_q (v := Option.map (adr (gB G) 24) none) hx hb hr (Or.inl ⟨_, rfl⟩) hlocks hP hS (Nat.le_of_ble_eq_true rfl) (Nat.le_of_ble_eq_true rfl) ((Prod.mk.inj (so_el h)).imp (congrArg (Option.map (adr (gB G) 24))) id) dX1_rose_31

def f_X1_isInRow (a0 : Nat) (a1 : Int32) (a2 : Int32) (w : Mm) : Option (Int32 × Mm) := bd1 (f_X1_hedge a0 a2 w) (fun r1 w2 => on (r1) (some (0, w2)) (fun k3 => gd (decide (k3 < 16)) (bd1 (f_X3_placeOf k3 a1 w2) (fun r5 w6 => br (r5 < 0) (some (0, w6)) (some (1, w6))))))

theorem miX1_isInRow : MI RX1 yX1_isInRow cX1_isInRow 4 (some .boolean) 2 := ⟨w4_193, w4_194, w1_9, w4_195, rfl, by decide +kernel, by decide +kernel, by decide +kernel⟩
set_option maxHeartbeats 4000000 in
set_option maxRecDepth 100000 in
theorem c_X1_isInRow (l : Launch) (G : GG) (hF : gF G = true) (a0 : Nat) (ha0 : a0 < cnt 19) (a1 : Int32) (a2 : Int32) (w : Mm) (r : Int32) (w' : Mm) (h : f_X1_isInRow a0 a1 a2 w = some (r, w')) : Ki l G yX1_isInRow cX1_isInRow 4 (some .boolean) { frames := 1, cells := 0, slots := 0, locals := 22 } [.ref (adr (gB G) 19 a0), .int a1, .int a2] w r w' := by
  refine k_of (by decide +kernel) (Nat.le_of_ble_eq_true rfl) ?_
  intro p e s m args below meth c ls hx hb hml hr hown hlocks hts hin hP hE hl
  have hC : CX p s m args c meth G cX1_isInRow 4 (some .boolean) RX1 := ⟨hx, hb, hml, hr, hown, hlocks, hts, hE⟩
  have hS : va_S (Ab G) s.heap s.heap [] := va_S.rf
  have hcs : 0 ≤ 0 ∧ 0 ≤ 0 := ⟨Nat.zero_le _, Nat.zero_le _⟩
  have hl : lv_has ls 4 [(0, .ref (adr (gB G) 19 a0)), (1, .int a1), (2, .int a2)] := hl
  unfold f_X1_isInRow at h
  refine lv_aload_n hx hb dX1_isInRow_0 rfl (lv_at hl 0 rfl) ?_
  refine lv_iload_n hx hb dX1_isInRow_1 rfl (lv_at hl 2 rfl) ?_
  obtain ⟨r1, w2, hf, h⟩ := bd1_el h
  refine c_onq (c_runV (b := adr (gB G) 19 a0) (As := [.int a2]) (rest := []) hx hb hml hown hts hE hP hS (c_X1_hedge l G hF a0 ha0 a2 w r1 w2 hf) (c_rec hE hP (hp_sh hP hF a0 19 ha0) (by decide) rfl rfl) w4_115 miX1_hedge ⟨Nat.le_of_ble_eq_true rfl, Nat.le_of_ble_eq_true rfl⟩ rfl hl.1 rfl (Nat.le_of_ble_eq_true rfl) dX1_isInRow_2 hcs) hS (fun H locs hP hS => ?_)
  refine k_astore_n (i := 3) (lv' := [(3, va_rf (r1.map (adr (gB G) 22))), (0, .ref (adr (gB G) 19 a0)), (1, .int a1), (2, .int a2)]) hx hb dX1_isInRow_5 rfl hl (by decide) (by simp [kR, cat_rf, cat_ref, cat_int, cat_long, cat_null]) (fun ls hl => ?_)
  refine k_aload_n hx hb dX1_isInRow_6 rfl (lv_at hl 0 rfl) ?_
  rcases ho : r1 with _ | k3
  · have h := on_n h ho
    refine k_ifnull_n (tgt := 22) hx hb rfl dX1_isInRow_7 (by decide) ?_
    rw [ho] at hl
    have hl : lv_has ls 4 [(3, .null), (0, .ref (adr (gB G) 19 a0)), (1, .int a1), (2, .int a2)] := hl
    refine lv_iconst (v := 0) hx hb dX1_isInRow_22 (by decide) ?_
    exact e_i hx hb hr rfl hlocks hP hS (Nat.le_of_ble_eq_true rfl) (Nat.le_of_ble_eq_true rfl) (Prod.mk.inj (so_el h)) dX1_isInRow_23
  · have h := on_s h ho
    obtain ⟨g4, h⟩ := gd_el h
    refine k_ifnull_s hx hb rfl dX1_isInRow_7 ?_
    rw [ho] at hl
    have hl : lv_has ls 4 [(3, .ref (adr (gB G) 22 k3)), (0, .ref (adr (gB G) 19 a0)), (1, .int a1), (2, .int a2)] := hl
    refine lv_aload_n hx hb dX1_isInRow_10 rfl (lv_at hl 0 rfl) ?_
    refine lv_iload_n hx hb dX1_isInRow_11 rfl (lv_at hl 2 rfl) ?_
    obtain ⟨r5, w6, hf, h⟩ := bd1_el h
    refine c_oni (c_runV (b := adr (gB G) 22 k3) (As := [.int a1]) (rest := []) hx hb hml hown hts hE hP hS (c_X3_placeOf l G hF k3 (of_decide_eq_true g4) a1 w2 r5 w6 hf) (c_rec hE hP (hp_sh hP hF k3 22 (of_decide_eq_true g4)) (by decide) rfl rfl) w4_116 miX3_placeOf ⟨Nat.le_of_ble_eq_true rfl, Nat.le_of_ble_eq_true rfl⟩ rfl hl.1 rfl (Nat.le_of_ble_eq_true rfl) dX1_isInRow_12 hcs) hS (fun H locs hP hS => ?_)
    refine lv_if_lt (tgt := 22) hx hb dX1_isInRow_15 (by decide) (fun cc => ?_) (fun cc => ?_)
    · have h := br_el h cc
      refine lv_iconst (v := 0) hx hb dX1_isInRow_22 (by decide) ?_
      exact e_i hx hb hr rfl hlocks hP hS (Nat.le_of_ble_eq_true rfl) (Nat.le_of_ble_eq_true rfl) (Prod.mk.inj (so_el h)) dX1_isInRow_23
    · have h := br_er h cc
      refine lv_iconst (v := 1) hx hb dX1_isInRow_18 (by decide) ?_
      refine lv_goto (tgt := 23) hx hb dX1_isInRow_19 (by decide) ?_
      exact e_i hx hb hr rfl hlocks hP hS (Nat.le_of_ble_eq_true rfl) (Nat.le_of_ble_eq_true rfl) (Prod.mk.inj (so_el h)) dX1_isInRow_23

def f_X1_rowsWith_L4 (z0 : Nat) (z1 : Int32) : Nat → Int32 → Int32 → Mm → Option (Int32 × Mm)
  | 0, _, _, _ => none
  | n + 1, u3, u2, w => br ((gI w 19 z0 2) ≤ u3) (some (u2, w)) (bd1 (f_X1_isInRow z0 z1 u3 w) (fun r1 w2 => br (r1 = 0) (sq (u3 + 1) (fun x3 => f_X1_rowsWith_L4 z0 z1 n x3 u2 w2)) (sq (u2 + 1) (fun x4 => sq (u3 + 1) (fun x5 => f_X1_rowsWith_L4 z0 z1 n x5 x4 w2)))))

def f_X1_rowsWith (a0 : Nat) (a1 : Int32) (w : Mm) : Option (Int32 × Mm) := bd1 (f_X1_rowsWith_L4 a0 a1 LF 0 0 w) (fun y6 w7 => some (y6, w7))

theorem miX1_rowsWith : MI RX1 yX1_rowsWith cX1_rowsWith 4 (some .int) 1 := ⟨w4_189, w4_190, w1_9, w4_191, rfl, by decide +kernel, by decide +kernel, by decide +kernel⟩
set_option maxHeartbeats 4000000 in
set_option maxRecDepth 100000 in
theorem l_X1_rowsWith_4 {p : Program} {l : Launch} {e : Env} {R : Room} {s : State} {m : MethodId} {args : Array Value} {below : List Frame} {meth : Method} {c : Code} {cells slots : Nat} {Q : State → Prop} {G : GG} (hC : CX p s m args c meth G cX1_rowsWith 4 (some .int) RX1) (hR : R = { frames := 2, cells := 0, slots := 0, locals := 45 }) (hcs : cells ≤ R.cells ∧ slots ≤ R.slots) (hF : gF G = true) (z0 : Nat) (hz0 : z0 < cnt 19) (z1 : Int32) : ∀ (n : Nat) (u3 : Int32) (u2 : Int32) (w : Mm) (v2 : Int32) (w' : Mm), f_X1_rowsWith_L4 z0 z1 n u3 u2 w = some (v2, w') → ∀ (H : Heap) (locs : List Loc) (ls : Array Slot), HP G w H → va_S (Ab G) s.heap H locs → lv_has ls 4 [(0, .ref (adr (gB G) 19 z0)), (1, .int z1), (3, .int u3), (2, .int u2)] → (∀ (H : Heap) (locs : List Loc) (ls : Array Slot), HP G w' H → va_S (Ab G) s.heap H locs → lv_has ls 4 [(2, .int v2)] → W p l e R s m args below meth c H locs cells slots Q (F0 m 30 ls [])) → W p l e R s m args below meth c H locs cells slots Q (F0 m 4 ls []) := by
  subst hR
  obtain ⟨hx, hb, hml, hr, hown, hlocks, hts, hE⟩ := id hC
  intro n
  induction n with
  | zero =>
    intro u3 u2 w v2 w' h
    rw [f_X1_rowsWith_L4] at h
    cases h
  | succ n ih =>
    intro u3 u2 w v2 w' h H locs ls hP hS hl k0
    rw [f_X1_rowsWith_L4] at h
    refine lv_iload_n hx hb dX1_rowsWith_4 rfl (lv_at hl 2 rfl) ?_
    refine lv_aload_n hx hb dX1_rowsWith_5 rfl (lv_at hl 0 rfl) ?_
    refine k_get (ci := 0) (v := .int (gI w 19 z0 2)) hx hb hts hE inX1 hown hP (hp_sh hP hF z0 19 hz0) (by decide) rfl rfl 2 (by decide) w1_221 rfl rfl dX1_rowsWith_6 ?_
    refine lv_icmp_ge (tgt := 30) hx hb dX1_rowsWith_9 (by decide) (fun cc => ?_) (fun cc => ?_)
    · have h := br_el h cc
      cases h
      exact k0 _ _ _ hP hS (lv_sub hl [3] rfl)
    · have h := br_er h cc
      refine lv_aload_n hx hb dX1_rowsWith_12 rfl (lv_at hl 0 rfl) ?_
      refine lv_iload_n hx hb dX1_rowsWith_13 rfl (lv_at hl 1 rfl) ?_
      refine lv_iload_n hx hb dX1_rowsWith_14 rfl (lv_at hl 2 rfl) ?_
      obtain ⟨r1, w2, hf, h⟩ := bd1_el h
      refine c_oni (c_runV (b := adr (gB G) 19 z0) (As := [.int z1, .int u3]) (rest := []) hx hb hml hown hts hE hP hS (c_X1_isInRow l G hF z0 hz0 z1 u3 w r1 w2 hf) (c_rec hE hP (hp_sh hP hF z0 19 hz0) (by decide) rfl rfl) w4_192 miX1_isInRow ⟨Nat.le_of_ble_eq_true rfl, Nat.le_of_ble_eq_true rfl⟩ rfl hl.1 rfl (Nat.le_of_ble_eq_true rfl) dX1_rowsWith_15 hcs) hS (fun H locs hP hS => ?_)
      refine lv_if_eq (tgt := 24) hx hb dX1_rowsWith_18 (by decide) (fun cc => ?_) (fun cc => ?_)
      · have h := br_el h cc
        obtain ⟨x3, e⟩ : ∃ z : Int32, z = u3 + 1 := ⟨_, rfl⟩
        have h := sq_at h e
        refine lv_iinc (v := x3) (lv' := [(3, .int x3), (0, .ref (adr (gB G) 19 z0)), (1, .int z1), (2, .int u2)]) hx hb dX1_rowsWith_24 hl (k := 2) rfl (by rw [e]; rfl) (by decide) rfl (fun ls hl => ?_)
        refine lv_goto (tgt := 4) hx hb dX1_rowsWith_27 (by decide) ?_
        exact ih x3 u2 w2 v2 w' h _ _ _ hP hS (lv_sub hl [1, 2, 0, 3] rfl) k0
      · have h := br_er h cc
        obtain ⟨x4, e⟩ : ∃ z : Int32, z = u2 + 1 := ⟨_, rfl⟩
        have h := sq_at h e
        refine lv_iinc (v := x4) (lv' := [(2, .int x4), (0, .ref (adr (gB G) 19 z0)), (1, .int z1), (3, .int u3)]) hx hb dX1_rowsWith_21 hl (k := 3) rfl (by rw [e]; rfl) (by decide) rfl (fun ls hl => ?_)
        obtain ⟨x5, e⟩ : ∃ z : Int32, z = u3 + 1 := ⟨_, rfl⟩
        have h := sq_at h e
        refine lv_iinc (v := x5) (lv' := [(3, .int x5), (2, .int x4), (0, .ref (adr (gB G) 19 z0)), (1, .int z1)]) hx hb dX1_rowsWith_24 hl (k := 3) rfl (by rw [e]; rfl) (by decide) rfl (fun ls hl => ?_)
        refine lv_goto (tgt := 4) hx hb dX1_rowsWith_27 (by decide) ?_
        exact ih x5 x4 w2 v2 w' h _ _ _ hP hS (lv_sub hl [2, 3, 0, 1] rfl) k0

set_option maxHeartbeats 4000000 in
set_option maxRecDepth 100000 in
theorem c_X1_rowsWith (l : Launch) (G : GG) (hF : gF G = true) (a0 : Nat) (ha0 : a0 < cnt 19) (a1 : Int32) (w : Mm) (r : Int32) (w' : Mm) (h : f_X1_rowsWith a0 a1 w = some (r, w')) : Ki l G yX1_rowsWith cX1_rowsWith 4 (some .int) { frames := 2, cells := 0, slots := 0, locals := 45 } [.ref (adr (gB G) 19 a0), .int a1] w r w' := by
  refine k_of (by decide +kernel) (Nat.le_of_ble_eq_true rfl) ?_
  intro p e s m args below meth c ls hx hb hml hr hown hlocks hts hin hP hE hl
  have hC : CX p s m args c meth G cX1_rowsWith 4 (some .int) RX1 := ⟨hx, hb, hml, hr, hown, hlocks, hts, hE⟩
  have hS : va_S (Ab G) s.heap s.heap [] := va_S.rf
  have hcs : 0 ≤ 0 ∧ 0 ≤ 0 := ⟨Nat.zero_le _, Nat.zero_le _⟩
  have hl : lv_has ls 4 [(0, .ref (adr (gB G) 19 a0)), (1, .int a1)] := hl
  unfold f_X1_rowsWith at h
  refine lv_iconst (v := 0) hx hb dX1_rowsWith_0 (by decide) ?_
  refine lv_istore_n (i := 2) (lv' := [(2, .int 0), (0, .ref (adr (gB G) 19 a0)), (1, .int a1)]) hx hb dX1_rowsWith_1 rfl hl (by decide) rfl (fun ls hl => ?_)
  refine lv_iconst (v := 0) hx hb dX1_rowsWith_2 (by decide) ?_
  refine lv_istore_n (i := 3) (lv' := [(3, .int 0), (2, .int 0), (0, .ref (adr (gB G) 19 a0)), (1, .int a1)]) hx hb dX1_rowsWith_3 rfl hl (by decide) rfl (fun ls hl => ?_)
  obtain ⟨y6, w7, hf, h⟩ := bd1_el h
  refine l_X1_rowsWith_4 hC rfl hcs hF a0 ha0 a1 LF 0 0 w y6 w7 hf _ _ _ hP hS (lv_sub hl [2, 3, 0, 1] rfl) (fun H locs ls hP hS hl => ?_)
  refine lv_iload_n hx hb dX1_rowsWith_30 rfl (lv_at hl 0 rfl) ?_
  exact e_i hx hb hr rfl hlocks hP hS (Nat.le_of_ble_eq_true rfl) (Nat.le_of_ble_eq_true rfl) (Prod.mk.inj (so_el h)) dX1_rowsWith_31

def f_X1_petalsAt (a0 : Nat) (a1 : Int32) (w : Mm) : Option (Int32 × Mm) := bd1 (f_X1_rose a0 a1 w) (fun r1 w2 => on (r1) (some (0, w2)) (fun k3 => gd (decide (k3 < 16)) (some (gI w2 24 k3 1, w2))))

theorem miX1_petalsAt : MI RX1 yX1_petalsAt cX1_petalsAt 3 (some .int) 1 := ⟨w3_212, w3_213, w1_9, w3_214, rfl, by decide +kernel, by decide +kernel, by decide +kernel⟩
set_option maxHeartbeats 4000000 in
set_option maxRecDepth 100000 in
theorem c_X1_petalsAt (l : Launch) (G : GG) (hF : gF G = true) (a0 : Nat) (ha0 : a0 < cnt 19) (a1 : Int32) (w : Mm) (r : Int32) (w' : Mm) (h : f_X1_petalsAt a0 a1 w = some (r, w')) : Ki l G yX1_petalsAt cX1_petalsAt 3 (some .int) { frames := 1, cells := 0, slots := 0, locals := 21 } [.ref (adr (gB G) 19 a0), .int a1] w r w' := by
  refine k_of (by decide +kernel) (Nat.le_of_ble_eq_true rfl) ?_
  intro p e s m args below meth c ls hx hb hml hr hown hlocks hts hin hP hE hl
  have hC : CX p s m args c meth G cX1_petalsAt 3 (some .int) RX1 := ⟨hx, hb, hml, hr, hown, hlocks, hts, hE⟩
  have hS : va_S (Ab G) s.heap s.heap [] := va_S.rf
  have hcs : 0 ≤ 0 ∧ 0 ≤ 0 := ⟨Nat.zero_le _, Nat.zero_le _⟩
  have hl : lv_has ls 3 [(0, .ref (adr (gB G) 19 a0)), (1, .int a1)] := hl
  unfold f_X1_petalsAt at h
  refine lv_aload_n hx hb dX1_petalsAt_0 rfl (lv_at hl 0 rfl) ?_
  refine lv_iload_n hx hb dX1_petalsAt_1 rfl (lv_at hl 1 rfl) ?_
  obtain ⟨r1, w2, hf, h⟩ := bd1_el h
  refine c_onq (c_runV (b := adr (gB G) 19 a0) (As := [.int a1]) (rest := []) hx hb hml hown hts hE hP hS (c_X1_rose l G hF a0 ha0 a1 w r1 w2 hf) (c_rec hE hP (hp_sh hP hF a0 19 ha0) (by decide) rfl rfl) w3_215 miX1_rose ⟨Nat.le_of_ble_eq_true rfl, Nat.le_of_ble_eq_true rfl⟩ rfl hl.1 rfl (Nat.le_of_ble_eq_true rfl) dX1_petalsAt_2 hcs) hS (fun H locs hP hS => ?_)
  refine k_astore_n (i := 2) (lv' := [(2, va_rf (r1.map (adr (gB G) 24))), (0, .ref (adr (gB G) 19 a0)), (1, .int a1)]) hx hb dX1_petalsAt_5 rfl hl (by decide) (by simp [kR, cat_rf, cat_ref, cat_int, cat_long, cat_null]) (fun ls hl => ?_)
  refine k_aload_n hx hb dX1_petalsAt_6 rfl (lv_at hl 0 rfl) ?_
  rcases ho : r1 with _ | k3
  · have h := on_n h ho
    refine k_ifnonnull_n hx hb rfl dX1_petalsAt_7 ?_
    rw [ho] at hl
    have hl : lv_has ls 3 [(2, .null), (0, .ref (adr (gB G) 19 a0)), (1, .int a1)] := hl
    refine lv_iconst (v := 0) hx hb dX1_petalsAt_10 (by decide) ?_
    refine lv_goto (tgt := 18) hx hb dX1_petalsAt_11 (by decide) ?_
    exact e_i hx hb hr rfl hlocks hP hS (Nat.le_of_ble_eq_true rfl) (Nat.le_of_ble_eq_true rfl) (Prod.mk.inj (so_el h)) dX1_petalsAt_18
  · have h := on_s h ho
    obtain ⟨g4, h⟩ := gd_el h
    refine k_ifnonnull_s (tgt := 14) hx hb rfl dX1_petalsAt_7 (by decide) ?_
    rw [ho] at hl
    have hl : lv_has ls 3 [(2, .ref (adr (gB G) 24 k3)), (0, .ref (adr (gB G) 19 a0)), (1, .int a1)] := hl
    refine lv_aload_n hx hb dX1_petalsAt_14 rfl (lv_at hl 0 rfl) ?_
    refine k_get (ci := 7) (v := .int (gI w2 24 k3 1)) hx hb hts hE inX9 hown hP (hp_sh hP hF k3 24 (of_decide_eq_true g4)) (by decide) rfl rfl 1 (by decide) w1_202 rfl rfl dX1_petalsAt_15 ?_
    exact e_i hx hb hr rfl hlocks hP hS (Nat.le_of_ble_eq_true rfl) (Nat.le_of_ble_eq_true rfl) (Prod.mk.inj (so_el h)) dX1_petalsAt_18

def f_X1_fullestRose_L6 (z0 : Nat) : Nat → Int32 → Int32 → Int32 → Mm → Option (Int32 × Mm)
  | 0, _, _, _, _ => none
  | n + 1, u3, u2, u1, w => br ((gI w 19 z0 3) ≤ u3) (some (u1, w)) (bd1 (f_X1_petalsAt z0 u3 w) (fun r1 w2 => br (r1 ≤ u2) (sq (u3 + 1) (fun x3 => f_X1_fullestRose_L6 z0 n x3 u2 u1 w2)) (bd1 (f_X1_petalsAt z0 u3 w2) (fun r4 w5 => sq (u3 + 1) (fun x6 => f_X1_fullestRose_L6 z0 n x6 r4 u3 w5)))))

def f_X1_fullestRose (a0 : Nat) (w : Mm) : Option (Int32 × Mm) := bd1 (f_X1_fullestRose_L6 a0 LF 0 (-1) (-1) w) (fun y7 w8 => some (y7, w8))

theorem miX1_fullestRose : MI RX1 yX1_fullestRose cX1_fullestRose 4 (some .int) 0 := ⟨w3_208, w3_209, w1_9, w3_210, rfl, by decide +kernel, by decide +kernel, by decide +kernel⟩
set_option maxHeartbeats 4000000 in
set_option maxRecDepth 100000 in
theorem l_X1_fullestRose_6 {p : Program} {l : Launch} {e : Env} {R : Room} {s : State} {m : MethodId} {args : Array Value} {below : List Frame} {meth : Method} {c : Code} {cells slots : Nat} {Q : State → Prop} {G : GG} (hC : CX p s m args c meth G cX1_fullestRose 4 (some .int) RX1) (hR : R = { frames := 2, cells := 0, slots := 0, locals := 43 }) (hcs : cells ≤ R.cells ∧ slots ≤ R.slots) (hF : gF G = true) (z0 : Nat) (hz0 : z0 < cnt 19) : ∀ (n : Nat) (u3 : Int32) (u2 : Int32) (u1 : Int32) (w : Mm) (v1 : Int32) (w' : Mm), f_X1_fullestRose_L6 z0 n u3 u2 u1 w = some (v1, w') → ∀ (H : Heap) (locs : List Loc) (ls : Array Slot), HP G w H → va_S (Ab G) s.heap H locs → lv_has ls 4 [(0, .ref (adr (gB G) 19 z0)), (3, .int u3), (2, .int u2), (1, .int u1)] → (∀ (H : Heap) (locs : List Loc) (ls : Array Slot), HP G w' H → va_S (Ab G) s.heap H locs → lv_has ls 4 [(1, .int v1)] → W p l e R s m args below meth c H locs cells slots Q (F0 m 37 ls [])) → W p l e R s m args below meth c H locs cells slots Q (F0 m 6 ls []) := by
  subst hR
  obtain ⟨hx, hb, hml, hr, hown, hlocks, hts, hE⟩ := id hC
  intro n
  induction n with
  | zero =>
    intro u3 u2 u1 w v1 w' h
    rw [f_X1_fullestRose_L6] at h
    cases h
  | succ n ih =>
    intro u3 u2 u1 w v1 w' h H locs ls hP hS hl k0
    rw [f_X1_fullestRose_L6] at h
    refine lv_iload_n hx hb dX1_fullestRose_6 rfl (lv_at hl 1 rfl) ?_
    refine lv_aload_n hx hb dX1_fullestRose_7 rfl (lv_at hl 0 rfl) ?_
    refine k_get (ci := 0) (v := .int (gI w 19 z0 3)) hx hb hts hE inX1 hown hP (hp_sh hP hF z0 19 hz0) (by decide) rfl rfl 3 (by decide) w1_223 rfl rfl dX1_fullestRose_8 ?_
    refine lv_icmp_ge (tgt := 37) hx hb dX1_fullestRose_11 (by decide) (fun cc => ?_) (fun cc => ?_)
    · have h := br_el h cc
      cases h
      exact k0 _ _ _ hP hS (lv_sub hl [3] rfl)
    · have h := br_er h cc
      refine lv_aload_n hx hb dX1_fullestRose_14 rfl (lv_at hl 0 rfl) ?_
      refine lv_iload_n hx hb dX1_fullestRose_15 rfl (lv_at hl 1 rfl) ?_
      obtain ⟨r1, w2, hf, h⟩ := bd1_el h
      refine c_oni (c_runV (b := adr (gB G) 19 z0) (As := [.int u3]) (rest := []) hx hb hml hown hts hE hP hS (c_X1_petalsAt l G hF z0 hz0 u3 w r1 w2 hf) (c_rec hE hP (hp_sh hP hF z0 19 hz0) (by decide) rfl rfl) w3_211 miX1_petalsAt ⟨Nat.le_of_ble_eq_true rfl, Nat.le_of_ble_eq_true rfl⟩ rfl hl.1 rfl (Nat.le_of_ble_eq_true rfl) dX1_fullestRose_16 hcs) hS (fun H locs hP hS => ?_)
      refine lv_iload_n hx hb dX1_fullestRose_19 rfl (lv_at hl 2 rfl) ?_
      refine lv_icmp_le (tgt := 31) hx hb dX1_fullestRose_20 (by decide) (fun cc => ?_) (fun cc => ?_)
      · have h := br_el h cc
        obtain ⟨x3, e⟩ : ∃ z : Int32, z = u3 + 1 := ⟨_, rfl⟩
        have h := sq_at h e
        refine lv_iinc (v := x3) (lv' := [(3, .int x3), (0, .ref (adr (gB G) 19 z0)), (2, .int u2), (1, .int u1)]) hx hb dX1_fullestRose_31 hl (k := 1) rfl (by rw [e]; rfl) (by decide) rfl (fun ls hl => ?_)
        refine lv_goto (tgt := 6) hx hb dX1_fullestRose_34 (by decide) ?_
        exact ih x3 u2 u1 w2 v1 w' h _ _ _ hP hS (lv_sub hl [1, 0, 2, 3] rfl) k0
      · have h := br_er h cc
        refine lv_iload_n hx hb dX1_fullestRose_23 rfl (lv_at hl 1 rfl) ?_
        refine lv_istore_n (i := 1) (lv' := [(1, .int u3), (0, .ref (adr (gB G) 19 z0)), (3, .int u3), (2, .int u2)]) hx hb dX1_fullestRose_24 rfl hl (by decide) rfl (fun ls hl => ?_)
        refine lv_aload_n hx hb dX1_fullestRose_25 rfl (lv_at hl 1 rfl) ?_
        refine lv_iload_n hx hb dX1_fullestRose_26 rfl (lv_at hl 2 rfl) ?_
        obtain ⟨r4, w5, hf, h⟩ := bd1_el h
        refine c_oni (c_runV (b := adr (gB G) 19 z0) (As := [.int u3]) (rest := []) hx hb hml hown hts hE hP hS (c_X1_petalsAt l G hF z0 hz0 u3 w2 r4 w5 hf) (c_rec hE hP (hp_sh hP hF z0 19 hz0) (by decide) rfl rfl) w3_211 miX1_petalsAt ⟨Nat.le_of_ble_eq_true rfl, Nat.le_of_ble_eq_true rfl⟩ rfl hl.1 rfl (Nat.le_of_ble_eq_true rfl) dX1_fullestRose_27 hcs) hS (fun H locs hP hS => ?_)
        refine lv_istore_n (i := 2) (lv' := [(2, .int r4), (1, .int u3), (0, .ref (adr (gB G) 19 z0)), (3, .int u3)]) hx hb dX1_fullestRose_30 rfl hl (by decide) rfl (fun ls hl => ?_)
        obtain ⟨x6, e⟩ : ∃ z : Int32, z = u3 + 1 := ⟨_, rfl⟩
        have h := sq_at h e
        refine lv_iinc (v := x6) (lv' := [(3, .int x6), (2, .int r4), (1, .int u3), (0, .ref (adr (gB G) 19 z0))]) hx hb dX1_fullestRose_31 hl (k := 3) rfl (by rw [e]; rfl) (by decide) rfl (fun ls hl => ?_)
        refine lv_goto (tgt := 6) hx hb dX1_fullestRose_34 (by decide) ?_
        exact ih x6 r4 u3 w5 v1 w' h _ _ _ hP hS (lv_sub hl [3, 0, 1, 2] rfl) k0

set_option maxHeartbeats 4000000 in
set_option maxRecDepth 100000 in
theorem c_X1_fullestRose (l : Launch) (G : GG) (hF : gF G = true) (a0 : Nat) (ha0 : a0 < cnt 19) (w : Mm) (r : Int32) (w' : Mm) (h : f_X1_fullestRose a0 w = some (r, w')) : Ki l G yX1_fullestRose cX1_fullestRose 4 (some .int) { frames := 2, cells := 0, slots := 0, locals := 43 } [.ref (adr (gB G) 19 a0)] w r w' := by
  refine k_of (by decide +kernel) (Nat.le_of_ble_eq_true rfl) ?_
  intro p e s m args below meth c ls hx hb hml hr hown hlocks hts hin hP hE hl
  have hC : CX p s m args c meth G cX1_fullestRose 4 (some .int) RX1 := ⟨hx, hb, hml, hr, hown, hlocks, hts, hE⟩
  have hS : va_S (Ab G) s.heap s.heap [] := va_S.rf
  have hcs : 0 ≤ 0 ∧ 0 ≤ 0 := ⟨Nat.zero_le _, Nat.zero_le _⟩
  have hl : lv_has ls 4 [(0, .ref (adr (gB G) 19 a0))] := hl
  unfold f_X1_fullestRose at h
  refine lv_iconst (v := (-1)) hx hb dX1_fullestRose_0 (by decide) ?_
  refine lv_istore_n (i := 1) (lv' := [(1, .int (-1)), (0, .ref (adr (gB G) 19 a0))]) hx hb dX1_fullestRose_1 rfl hl (by decide) rfl (fun ls hl => ?_)
  refine lv_iconst (v := (-1)) hx hb dX1_fullestRose_2 (by decide) ?_
  refine lv_istore_n (i := 2) (lv' := [(2, .int (-1)), (1, .int (-1)), (0, .ref (adr (gB G) 19 a0))]) hx hb dX1_fullestRose_3 rfl hl (by decide) rfl (fun ls hl => ?_)
  refine lv_iconst (v := 0) hx hb dX1_fullestRose_4 (by decide) ?_
  refine lv_istore_n (i := 3) (lv' := [(3, .int 0), (2, .int (-1)), (1, .int (-1)), (0, .ref (adr (gB G) 19 a0))]) hx hb dX1_fullestRose_5 rfl hl (by decide) rfl (fun ls hl => ?_)
  obtain ⟨y7, w8, hf, h⟩ := bd1_el h
  refine l_X1_fullestRose_6 hC rfl hcs hF a0 ha0 LF 0 (-1) (-1) w y7 w8 hf _ _ _ hP hS (lv_sub hl [3, 0, 1, 2] rfl) (fun H locs ls hP hS hl => ?_)
  refine lv_iload_n hx hb dX1_fullestRose_37 rfl (lv_at hl 0 rfl) ?_
  exact e_i hx hb hr rfl hlocks hP hS (Nat.le_of_ble_eq_true rfl) (Nat.le_of_ble_eq_true rfl) (Prod.mk.inj (so_el h)) dX1_fullestRose_38

def f_X12_fullest (w : Mm) : Option (Int32 × Mm) := bd1 (f_X1_fullestRose 0 w) (fun r1 w2 => some (r1, w2))

theorem miX12_fullest : MI RX12 yX12_fullest cX12_fullest 1 (some .int) 0 := ⟨w3_204, w3_205, w1_1, w3_206, rfl, by decide +kernel, by decide +kernel, by decide +kernel⟩
set_option maxHeartbeats 4000000 in
set_option maxRecDepth 100000 in
theorem c_X12_fullest (l : Launch) (G : GG) (hF : gF G = true)  (w : Mm) (r : Int32) (w' : Mm) (h : f_X12_fullest  w = some (r, w')) : Ki l G yX12_fullest cX12_fullest 1 (some .int) { frames := 3, cells := 0, slots := 0, locals := 66 } [.ref (adr (gB G) 1 0)] w r w' := by
  refine k_of (by decide +kernel) (Nat.le_of_ble_eq_true rfl) ?_
  intro p e s m args below meth c ls hx hb hml hr hown hlocks hts hin hP hE hl
  have hC : CX p s m args c meth G cX12_fullest 1 (some .int) RX12 := ⟨hx, hb, hml, hr, hown, hlocks, hts, hE⟩
  have hS : va_S (Ab G) s.heap s.heap [] := va_S.rf
  have hcs : 0 ≤ 0 ∧ 0 ≤ 0 := ⟨Nat.zero_le _, Nat.zero_le _⟩
  have hl : lv_has ls 1 [(0, .ref (adr (gB G) 1 0))] := hl
  unfold f_X12_fullest at h
  refine lv_aload_n hx hb dX12_fullest_0 rfl (lv_at hl 0 rfl) ?_
  refine k_get (ci := 10) (v := .ref (adr (gB G) 19 0)) hx hb hts hE inX12 hown hP (hp_sh hP hF 0 1 (by decide)) (by decide) rfl rfl 5 (by decide) w2_89 rfl rfl dX12_fullest_1 ?_
  obtain ⟨r1, w2, hf, h⟩ := bd1_el h
  refine c_oni (c_runV (b := adr (gB G) 19 0) (As := []) (rest := []) hx hb hml hown hts hE hP hS (c_X1_fullestRose l G hF 0 (by decide) w r1 w2 hf) (c_rec hE hP (hp_sh hP hF 0 19 (by decide)) (by decide) rfl rfl) w3_207 miX1_fullestRose ⟨Nat.le_of_ble_eq_true rfl, Nat.le_of_ble_eq_true rfl⟩ rfl hl.1 rfl (Nat.le_of_ble_eq_true rfl) dX12_fullest_4 hcs) hS (fun H locs hP hS => ?_)
  exact e_i hx hb hr rfl hlocks hP hS (Nat.le_of_ble_eq_true rfl) (Nat.le_of_ble_eq_true rfl) (Prod.mk.inj (so_el h)) dX12_fullest_7

def f_X3_add (a0 : Nat) (a1 : Int32) (w : Mm) : Option (Mm) := br ((gI w 22 a0 3) < 0) (some w) (br (16 ≤ (gI w 22 a0 3)) (some w) (gd (vB (gI w 22 a0 3) 16) (sq (pI w 23 a0 (gI w 22 a0 3).toNatClampNeg a1) (fun w2 => sq (pI w2 22 a0 3 ((gI w2 22 a0 3) + 1)) (fun w3 => some w3)))))

theorem miX3_add : MI RX3 yX3_add cX3_add 2 none 1 := ⟨w5_56, w5_57, w1_10, w5_58, rfl, by decide +kernel, by decide +kernel, by decide +kernel⟩
set_option maxHeartbeats 4000000 in
set_option maxRecDepth 100000 in
theorem c_X3_add (l : Launch) (G : GG) (hF : gF G = true) (a0 : Nat) (ha0 : a0 < cnt 22) (a1 : Int32) (w : Mm) (w' : Mm) (h : f_X3_add a0 a1 w = some w') : Kv l G yX3_add cX3_add 2 none { frames := 0, cells := 0, slots := 0, locals := 0 } [.ref (adr (gB G) 22 a0), .int a1] w w' := by
  refine k_of (by decide +kernel) (Nat.le_of_ble_eq_true rfl) ?_
  intro p e s m args below meth c ls hx hb hml hr hown hlocks hts hin hP hE hl
  have hC : CX p s m args c meth G cX3_add 2 none RX3 := ⟨hx, hb, hml, hr, hown, hlocks, hts, hE⟩
  have hS : va_S (Ab G) s.heap s.heap [] := va_S.rf
  have hcs : 0 ≤ 0 ∧ 0 ≤ 0 := ⟨Nat.zero_le _, Nat.zero_le _⟩
  have hl : lv_has ls 2 [(0, .ref (adr (gB G) 22 a0)), (1, .int a1)] := hl
  unfold f_X3_add at h
  refine lv_aload_n hx hb dX3_add_0 rfl (lv_at hl 0 rfl) ?_
  refine k_get (ci := 2) (v := .int (gI w 22 a0 3)) hx hb hts hE inX3 hown hP (hp_sh hP hF a0 22 ha0) (by decide) rfl rfl 3 (by decide) w1_178 rfl rfl dX3_add_1 ?_
  refine lv_if_lt (tgt := 39) hx hb dX3_add_4 (by decide) (fun cc => ?_) (fun cc => ?_)
  · have h := br_el h cc
    exact e_v hx hb hr hlocks hP hS (Nat.le_of_ble_eq_true rfl) (Nat.le_of_ble_eq_true rfl) (so_el h) dX3_add_39
  · have h := br_er h cc
    refine lv_aload_n hx hb dX3_add_7 rfl (lv_at hl 0 rfl) ?_
    refine k_get (ci := 2) (v := .int (gI w 22 a0 3)) hx hb hts hE inX3 hown hP (hp_sh hP hF a0 22 ha0) (by decide) rfl rfl 3 (by decide) w1_178 rfl rfl dX3_add_8 ?_
    refine lv_aload_n hx hb dX3_add_11 rfl (lv_at hl 0 rfl) ?_
    refine k_get (ci := 2) (v := .ref (adr (gB G) 23 a0)) hx hb hts hE inX3 hown hP (hp_sh hP hF a0 22 ha0) (by decide) rfl rfl 4 (by decide) w1_181 rfl rfl dX3_add_12 ?_
    refine k_alen (v := 16) hx hb hE hP (hp_sh hP hF a0 23 ha0) (by decide) rfl 0 rfl rfl dX3_add_15 ?_
    refine lv_icmp_ge (tgt := 39) hx hb dX3_add_16 (by decide) (fun cc => ?_) (fun cc => ?_)
    · have h := br_el h cc
      exact e_v hx hb hr hlocks hP hS (Nat.le_of_ble_eq_true rfl) (Nat.le_of_ble_eq_true rfl) (so_el h) dX3_add_39
    · have h := br_er h cc
      refine lv_aload_n hx hb dX3_add_19 rfl (lv_at hl 0 rfl) ?_
      refine k_get (ci := 2) (v := .ref (adr (gB G) 23 a0)) hx hb hts hE inX3 hown hP (hp_sh hP hF a0 22 ha0) (by decide) rfl rfl 4 (by decide) w1_181 rfl rfl dX3_add_20 ?_
      refine lv_aload_n hx hb dX3_add_23 rfl (lv_at hl 0 rfl) ?_
      refine k_get (ci := 2) (v := .int (gI w 22 a0 3)) hx hb hts hE inX3 hown hP (hp_sh hP hF a0 22 ha0) (by decide) rfl rfl 3 (by decide) w1_178 rfl rfl dX3_add_24 ?_
      refine lv_iload_n hx hb dX3_add_27 rfl (lv_at hl 1 rfl) ?_
      obtain ⟨g1, h⟩ := gd_el h
      refine k_iast hx hb hE hP hS (hp_sh hP hF a0 23 ha0) (by decide) rfl rfl g1 dX3_add_28 (fun w2 H locs e hP hS => ?_)
      have h := sq_at h e
      refine lv_aload_n hx hb dX3_add_29 rfl (lv_at hl 0 rfl) ?_
      refine lv_dup hx hb dX3_add_30 rfl ?_
      refine k_get (ci := 2) (v := .int (gI w2 22 a0 3)) hx hb hts hE inX3 hown hP (hp_sh hP hF a0 22 ha0) (by decide) rfl rfl 3 (by decide) w1_178 rfl rfl dX3_add_31 ?_
      refine lv_iconst (v := 1) hx hb dX3_add_34 (by decide) ?_
      refine lv_iadd hx hb dX3_add_35 ?_
      refine k_put (ci := 2) (ty := .int) (v := .int ((gI w2 22 a0 3) + 1)) (w1 := pI w2 22 a0 3 ((gI w2 22 a0 3) + 1)) hx hb hts hE inX3 tyX3 tyX3_ok nmX3 hown hP hS (hp_sh hP hF a0 22 ha0) (by decide) rfl rfl 3 (by decide) w1_178 rfl rfl rfl rfl rfl (Nat.le_of_ble_eq_true rfl) loc_pI (wce_pI.trans rfl) dX3_add_36 (fun w3 H locs e hP hS => ?_)
      have h := sq_at h e
      exact e_v hx hb hr hlocks hP hS (Nat.le_of_ble_eq_true rfl) (Nat.le_of_ble_eq_true rfl) (so_el h) dX3_add_39

def f_X1_startListening (a0 : Nat) (a1 : Int32) (a2 : Int32) (w : Mm) : Option (Int32 × Mm) := bd1 (f_X1_hedge a0 a2 w) (fun r1 w2 => on (r1) (some (0, w2)) (fun k3 => gd (decide (k3 < 16)) (br (a1 = a2) (some (0, w2)) (bd1 (f_X3_placeOf k3 a1 w2) (fun r5 w6 => br (r5 < 0) (bd0 (f_X3_add k3 a1 w6) (fun w7 => bd1 (f_X1_rose a0 (a1 - 8) w7) (fun r8 w9 => on (r8) (some (1, w9)) (fun k10 => gd (decide (k10 < 16)) (sq (pI w9 24 k10 2 0) (fun w12 => some (1, w12))))))) (some (0, w6)))))))

theorem miX1_startListening : MI RX1 yX1_startListening cX1_startListening 5 (some .boolean) 2 := ⟨w5_52, w5_53, w1_9, w5_54, rfl, by decide +kernel, by decide +kernel, by decide +kernel⟩
set_option maxHeartbeats 4000000 in
set_option maxRecDepth 100000 in
theorem c_X1_startListening (l : Launch) (G : GG) (hF : gF G = true) (a0 : Nat) (ha0 : a0 < cnt 19) (a1 : Int32) (a2 : Int32) (w : Mm) (r : Int32) (w' : Mm) (h : f_X1_startListening a0 a1 a2 w = some (r, w')) : Ki l G yX1_startListening cX1_startListening 5 (some .boolean) { frames := 1, cells := 0, slots := 0, locals := 22 } [.ref (adr (gB G) 19 a0), .int a1, .int a2] w r w' := by
  refine k_of (by decide +kernel) (Nat.le_of_ble_eq_true rfl) ?_
  intro p e s m args below meth c ls hx hb hml hr hown hlocks hts hin hP hE hl
  have hC : CX p s m args c meth G cX1_startListening 5 (some .boolean) RX1 := ⟨hx, hb, hml, hr, hown, hlocks, hts, hE⟩
  have hS : va_S (Ab G) s.heap s.heap [] := va_S.rf
  have hcs : 0 ≤ 0 ∧ 0 ≤ 0 := ⟨Nat.zero_le _, Nat.zero_le _⟩
  have hl : lv_has ls 5 [(0, .ref (adr (gB G) 19 a0)), (1, .int a1), (2, .int a2)] := hl
  unfold f_X1_startListening at h
  refine lv_aload_n hx hb dX1_startListening_0 rfl (lv_at hl 0 rfl) ?_
  refine lv_iload_n hx hb dX1_startListening_1 rfl (lv_at hl 2 rfl) ?_
  obtain ⟨r1, w2, hf, h⟩ := bd1_el h
  refine c_onq (c_runV (b := adr (gB G) 19 a0) (As := [.int a2]) (rest := []) hx hb hml hown hts hE hP hS (c_X1_hedge l G hF a0 ha0 a2 w r1 w2 hf) (c_rec hE hP (hp_sh hP hF a0 19 ha0) (by decide) rfl rfl) w4_115 miX1_hedge ⟨Nat.le_of_ble_eq_true rfl, Nat.le_of_ble_eq_true rfl⟩ rfl hl.1 rfl (Nat.le_of_ble_eq_true rfl) dX1_startListening_2 hcs) hS (fun H locs hP hS => ?_)
  refine k_astore_n (i := 3) (lv' := [(3, va_rf (r1.map (adr (gB G) 22))), (0, .ref (adr (gB G) 19 a0)), (1, .int a1), (2, .int a2)]) hx hb dX1_startListening_5 rfl hl (by decide) (by simp [kR, cat_rf, cat_ref, cat_int, cat_long, cat_null]) (fun ls hl => ?_)
  refine k_aload_n hx hb dX1_startListening_6 rfl (lv_at hl 0 rfl) ?_
  rcases ho : r1 with _ | k3
  · have h := on_n h ho
    refine k_ifnull_n (tgt := 23) hx hb rfl dX1_startListening_7 (by decide) ?_
    rw [ho] at hl
    have hl : lv_has ls 5 [(3, .null), (0, .ref (adr (gB G) 19 a0)), (1, .int a1), (2, .int a2)] := hl
    refine lv_iconst (v := 0) hx hb dX1_startListening_23 (by decide) ?_
    exact e_i hx hb hr rfl hlocks hP hS (Nat.le_of_ble_eq_true rfl) (Nat.le_of_ble_eq_true rfl) (Prod.mk.inj (so_el h)) dX1_startListening_24
  · have h := on_s h ho
    obtain ⟨g4, h⟩ := gd_el h
    refine k_ifnull_s hx hb rfl dX1_startListening_7 ?_
    rw [ho] at hl
    have hl : lv_has ls 5 [(3, .ref (adr (gB G) 22 k3)), (0, .ref (adr (gB G) 19 a0)), (1, .int a1), (2, .int a2)] := hl
    refine lv_iload_n hx hb dX1_startListening_10 rfl (lv_at hl 2 rfl) ?_
    refine lv_iload_n hx hb dX1_startListening_11 rfl (lv_at hl 3 rfl) ?_
    refine lv_icmp_eq (tgt := 23) hx hb dX1_startListening_12 (by decide) (fun cc => ?_) (fun cc => ?_)
    · have h := br_el h cc
      refine lv_iconst (v := 0) hx hb dX1_startListening_23 (by decide) ?_
      exact e_i hx hb hr rfl hlocks hP hS (Nat.le_of_ble_eq_true rfl) (Nat.le_of_ble_eq_true rfl) (Prod.mk.inj (so_el h)) dX1_startListening_24
    · have h := br_er h cc
      refine lv_aload_n hx hb dX1_startListening_15 rfl (lv_at hl 0 rfl) ?_
      refine lv_iload_n hx hb dX1_startListening_16 rfl (lv_at hl 2 rfl) ?_
      obtain ⟨r5, w6, hf, h⟩ := bd1_el h
      refine c_oni (c_runV (b := adr (gB G) 22 k3) (As := [.int a1]) (rest := []) hx hb hml hown hts hE hP hS (c_X3_placeOf l G hF k3 (of_decide_eq_true g4) a1 w2 r5 w6 hf) (c_rec hE hP (hp_sh hP hF k3 22 (of_decide_eq_true g4)) (by decide) rfl rfl) w4_116 miX3_placeOf ⟨Nat.le_of_ble_eq_true rfl, Nat.le_of_ble_eq_true rfl⟩ rfl hl.1 rfl (Nat.le_of_ble_eq_true rfl) dX1_startListening_17 hcs) hS (fun H locs hP hS => ?_)
      refine lv_if_lt (tgt := 25) hx hb dX1_startListening_20 (by decide) (fun cc => ?_) (fun cc => ?_)
      · have h := br_el h cc
        refine lv_aload_n hx hb dX1_startListening_25 rfl (lv_at hl 0 rfl) ?_
        refine lv_iload_n hx hb dX1_startListening_26 rfl (lv_at hl 2 rfl) ?_
        obtain ⟨w7, hf, h⟩ := bd0_el h
        refine c_onv (c_runV (b := adr (gB G) 22 k3) (As := [.int a1]) (rest := []) hx hb hml hown hts hE hP hS (c_X3_add l G hF k3 (of_decide_eq_true g4) a1 w6 w7 hf) (c_rec hE hP (hp_sh hP hF k3 22 (of_decide_eq_true g4)) (by decide) rfl rfl) w5_55 miX3_add ⟨Nat.le_of_ble_eq_true rfl, Nat.le_of_ble_eq_true rfl⟩ rfl hl.1 rfl (Nat.le_of_ble_eq_true rfl) dX1_startListening_27 hcs) hS (fun H locs hP hS => ?_)
        refine lv_aload_n hx hb dX1_startListening_30 rfl (lv_at hl 1 rfl) ?_
        refine lv_iload_n hx hb dX1_startListening_31 rfl (lv_at hl 2 rfl) ?_
        refine lv_bipush (v := 8) hx hb dX1_startListening_32 (by decide) ?_
        refine lv_isub hx hb dX1_startListening_34 ?_
        obtain ⟨r8, w9, hf, h⟩ := bd1_el h
        refine c_onq (c_runV (b := adr (gB G) 19 a0) (As := [.int (a1 - 8)]) (rest := []) hx hb hml hown hts hE hP hS (c_X1_rose l G hF a0 ha0 (a1 - 8) w7 r8 w9 hf) (c_rec hE hP (hp_sh hP hF a0 19 ha0) (by decide) rfl rfl) w3_215 miX1_rose ⟨Nat.le_of_ble_eq_true rfl, Nat.le_of_ble_eq_true rfl⟩ rfl hl.1 rfl (Nat.le_of_ble_eq_true rfl) dX1_startListening_35 hcs) hS (fun H locs hP hS => ?_)
        refine k_astore (i := 4) (lv' := [(4, va_rf (r8.map (adr (gB G) 24))), (3, .ref (adr (gB G) 22 k3)), (0, .ref (adr (gB G) 19 a0)), (1, .int a1), (2, .int a2)]) hx hb dX1_startListening_38 hl (by decide) (by simp [kR, cat_rf, cat_ref, cat_int, cat_long, cat_null]) (fun ls hl => ?_)
        refine k_aload hx hb dX1_startListening_40 (lv_at hl 0 rfl) ?_
        rcases ho : r8 with _ | k10
        · have h := on_n h ho
          refine k_ifnull_n (tgt := 51) hx hb rfl dX1_startListening_42 (by decide) ?_
          rw [ho] at hl
          have hl : lv_has ls 5 [(4, .null), (3, .ref (adr (gB G) 22 k3)), (0, .ref (adr (gB G) 19 a0)), (1, .int a1), (2, .int a2)] := hl
          refine lv_iconst (v := 1) hx hb dX1_startListening_51 (by decide) ?_
          exact e_i hx hb hr rfl hlocks hP hS (Nat.le_of_ble_eq_true rfl) (Nat.le_of_ble_eq_true rfl) (Prod.mk.inj (so_el h)) dX1_startListening_52
        · have h := on_s h ho
          obtain ⟨g11, h⟩ := gd_el h
          refine k_ifnull_s hx hb rfl dX1_startListening_42 ?_
          rw [ho] at hl
          have hl : lv_has ls 5 [(4, .ref (adr (gB G) 24 k10)), (3, .ref (adr (gB G) 22 k3)), (0, .ref (adr (gB G) 19 a0)), (1, .int a1), (2, .int a2)] := hl
          refine lv_aload hx hb dX1_startListening_45 (lv_at hl 0 rfl) ?_
          refine lv_iconst (v := 0) hx hb dX1_startListening_47 (by decide) ?_
          refine k_put (ci := 7) (ty := .int) (v := .int 0) (w1 := pI w9 24 k10 2 0) hx hb hts hE inX9 tyX9 tyX9_ok nmX9 hown hP hS (hp_sh hP hF k10 24 (of_decide_eq_true g11)) (by decide) rfl rfl 2 (by decide) w1_205 rfl rfl rfl rfl rfl (Nat.le_of_ble_eq_true rfl) loc_pI (wce_pI.trans rfl) dX1_startListening_48 (fun w12 H locs e hP hS => ?_)
          have h := sq_at h e
          refine lv_iconst (v := 1) hx hb dX1_startListening_51 (by decide) ?_
          exact e_i hx hb hr rfl hlocks hP hS (Nat.le_of_ble_eq_true rfl) (Nat.le_of_ble_eq_true rfl) (Prod.mk.inj (so_el h)) dX1_startListening_52
      · have h := br_er h cc
        refine lv_iconst (v := 0) hx hb dX1_startListening_23 (by decide) ?_
        exact e_i hx hb hr rfl hlocks hP hS (Nat.le_of_ble_eq_true rfl) (Nat.le_of_ble_eq_true rfl) (Prod.mk.inj (so_el h)) dX1_startListening_24

def f_X3_removeAt_L15 (z0 : Nat) : Nat → Int32 → Mm → Option (Mm)
  | 0, _, _ => none
  | n + 1, u2, w => br (((gI w 22 z0 3) - 1) ≤ u2) (some w) (br ((16 - 1) ≤ u2) (some w) (gd (vB (u2 + 1) 16) (gd (vB u2 16) (sq (pI w 23 z0 u2.toNatClampNeg (gI w 23 z0 (u2 + 1).toNatClampNeg)) (fun w3 => sq (u2 + 1) (fun x4 => f_X3_removeAt_L15 z0 n x4 w3))))))

def f_X3_removeAt (a0 : Nat) (a1 : Int32) (w : Mm) : Option (Mm) := br (a1 < 0) (some w) (br (a1 < (gI w 22 a0 3)) (bd0 (f_X3_removeAt_L15 a0 LF a1 w) (fun w5 => sq (pI w5 22 a0 3 ((gI w5 22 a0 3) - 1)) (fun w6 => some w6))) (some w))

theorem miX3_removeAt : MI RX3 yX3_removeAt cX3_removeAt 3 none 1 := ⟨w4_121, w4_122, w1_10, w4_123, rfl, by decide +kernel, by decide +kernel, by decide +kernel⟩
set_option maxHeartbeats 4000000 in
set_option maxRecDepth 100000 in
theorem l_X3_removeAt_15 {p : Program} {l : Launch} {e : Env} {R : Room} {s : State} {m : MethodId} {args : Array Value} {below : List Frame} {meth : Method} {c : Code} {cells slots : Nat} {Q : State → Prop} {G : GG} (hC : CX p s m args c meth G cX3_removeAt 3 none RX3) (hR : R = { frames := 0, cells := 0, slots := 0, locals := 0 }) (hcs : cells ≤ R.cells ∧ slots ≤ R.slots) (hF : gF G = true) (z0 : Nat) (hz0 : z0 < cnt 22) : ∀ (n : Nat) (u2 : Int32) (w : Mm) (w' : Mm), f_X3_removeAt_L15 z0 n u2 w = some w' → ∀ (H : Heap) (locs : List Loc) (ls : Array Slot), HP G w H → va_S (Ab G) s.heap H locs → lv_has ls 3 [(0, .ref (adr (gB G) 22 z0)), (2, .int u2)] → (∀ (H : Heap) (locs : List Loc) (ls : Array Slot), HP G w' H → va_S (Ab G) s.heap H locs → lv_has ls 3 [(0, .ref (adr (gB G) 22 z0))] → W p l e R s m args below meth c H locs cells slots Q (F0 m 56 ls [])) → W p l e R s m args below meth c H locs cells slots Q (F0 m 15 ls []) := by
  subst hR
  obtain ⟨hx, hb, hml, hr, hown, hlocks, hts, hE⟩ := id hC
  intro n
  induction n with
  | zero =>
    intro u2 w w' h
    rw [f_X3_removeAt_L15] at h
    cases h
  | succ n ih =>
    intro u2 w w' h H locs ls hP hS hl k0
    rw [f_X3_removeAt_L15] at h
    refine lv_iload_n hx hb dX3_removeAt_15 rfl (lv_at hl 1 rfl) ?_
    refine lv_aload_n hx hb dX3_removeAt_16 rfl (lv_at hl 0 rfl) ?_
    refine k_get (ci := 2) (v := .int (gI w 22 z0 3)) hx hb hts hE inX3 hown hP (hp_sh hP hF z0 22 hz0) (by decide) rfl rfl 3 (by decide) w1_178 rfl rfl dX3_removeAt_17 ?_
    refine lv_iconst (v := 1) hx hb dX3_removeAt_20 (by decide) ?_
    refine lv_isub hx hb dX3_removeAt_21 ?_
    refine lv_icmp_ge (tgt := 56) hx hb dX3_removeAt_22 (by decide) (fun cc => ?_) (fun cc => ?_)
    · have h := br_el h cc
      cases h
      exact k0 _ _ _ hP hS (lv_sub hl [0] rfl)
    · have h := br_er h cc
      refine lv_iload_n hx hb dX3_removeAt_25 rfl (lv_at hl 1 rfl) ?_
      refine lv_aload_n hx hb dX3_removeAt_26 rfl (lv_at hl 0 rfl) ?_
      refine k_get (ci := 2) (v := .ref (adr (gB G) 23 z0)) hx hb hts hE inX3 hown hP (hp_sh hP hF z0 22 hz0) (by decide) rfl rfl 4 (by decide) w1_181 rfl rfl dX3_removeAt_27 ?_
      refine k_alen (v := 16) hx hb hE hP (hp_sh hP hF z0 23 hz0) (by decide) rfl 0 rfl rfl dX3_removeAt_30 ?_
      refine lv_iconst (v := 1) hx hb dX3_removeAt_31 (by decide) ?_
      refine lv_isub hx hb dX3_removeAt_32 ?_
      refine lv_icmp_ge (tgt := 56) hx hb dX3_removeAt_33 (by decide) (fun cc => ?_) (fun cc => ?_)
      · have h := br_el h cc
        cases h
        exact k0 _ _ _ hP hS (lv_sub hl [0] rfl)
      · have h := br_er h cc
        refine lv_aload_n hx hb dX3_removeAt_36 rfl (lv_at hl 0 rfl) ?_
        refine k_get (ci := 2) (v := .ref (adr (gB G) 23 z0)) hx hb hts hE inX3 hown hP (hp_sh hP hF z0 22 hz0) (by decide) rfl rfl 4 (by decide) w1_181 rfl rfl dX3_removeAt_37 ?_
        refine lv_iload_n hx hb dX3_removeAt_40 rfl (lv_at hl 1 rfl) ?_
        refine lv_aload_n hx hb dX3_removeAt_41 rfl (lv_at hl 0 rfl) ?_
        refine k_get (ci := 2) (v := .ref (adr (gB G) 23 z0)) hx hb hts hE inX3 hown hP (hp_sh hP hF z0 22 hz0) (by decide) rfl rfl 4 (by decide) w1_181 rfl rfl dX3_removeAt_42 ?_
        refine lv_iload_n hx hb dX3_removeAt_45 rfl (lv_at hl 1 rfl) ?_
        refine lv_iconst (v := 1) hx hb dX3_removeAt_46 (by decide) ?_
        refine lv_iadd hx hb dX3_removeAt_47 ?_
        obtain ⟨g1, h⟩ := gd_el h
        refine k_iald hx hb hE hP (hp_sh hP hF z0 23 hz0) (by decide) rfl g1 dX3_removeAt_48 ?_
        obtain ⟨g2, h⟩ := gd_el h
        refine k_iast hx hb hE hP hS (hp_sh hP hF z0 23 hz0) (by decide) rfl rfl g2 dX3_removeAt_49 (fun w3 H locs e hP hS => ?_)
        have h := sq_at h e
        obtain ⟨x4, e⟩ : ∃ z : Int32, z = u2 + 1 := ⟨_, rfl⟩
        have h := sq_at h e
        refine lv_iinc (v := x4) (lv' := [(2, .int x4), (0, .ref (adr (gB G) 22 z0))]) hx hb dX3_removeAt_50 hl (k := 1) rfl (by rw [e]; rfl) (by decide) rfl (fun ls hl => ?_)
        refine lv_goto (tgt := 15) hx hb dX3_removeAt_53 (by decide) ?_
        exact ih x4 w3 w' h _ _ _ hP hS (lv_sub hl [1, 0] rfl) k0

set_option maxHeartbeats 4000000 in
set_option maxRecDepth 100000 in
theorem c_X3_removeAt (l : Launch) (G : GG) (hF : gF G = true) (a0 : Nat) (ha0 : a0 < cnt 22) (a1 : Int32) (w : Mm) (w' : Mm) (h : f_X3_removeAt a0 a1 w = some w') : Kv l G yX3_removeAt cX3_removeAt 3 none { frames := 0, cells := 0, slots := 0, locals := 0 } [.ref (adr (gB G) 22 a0), .int a1] w w' := by
  refine k_of (by decide +kernel) (Nat.le_of_ble_eq_true rfl) ?_
  intro p e s m args below meth c ls hx hb hml hr hown hlocks hts hin hP hE hl
  have hC : CX p s m args c meth G cX3_removeAt 3 none RX3 := ⟨hx, hb, hml, hr, hown, hlocks, hts, hE⟩
  have hS : va_S (Ab G) s.heap s.heap [] := va_S.rf
  have hcs : 0 ≤ 0 ∧ 0 ≤ 0 := ⟨Nat.zero_le _, Nat.zero_le _⟩
  have hl : lv_has ls 3 [(0, .ref (adr (gB G) 22 a0)), (1, .int a1)] := hl
  unfold f_X3_removeAt at h
  refine lv_iload_n hx hb dX3_removeAt_0 rfl (lv_at hl 1 rfl) ?_
  refine lv_if_lt (tgt := 12) hx hb dX3_removeAt_1 (by decide) (fun cc => ?_) (fun cc => ?_)
  · have h := br_el h cc
    exact e_v hx hb hr hlocks hP hS (Nat.le_of_ble_eq_true rfl) (Nat.le_of_ble_eq_true rfl) (so_el h) dX3_removeAt_12
  · have h := br_er h cc
    refine lv_iload_n hx hb dX3_removeAt_4 rfl (lv_at hl 1 rfl) ?_
    refine lv_aload_n hx hb dX3_removeAt_5 rfl (lv_at hl 0 rfl) ?_
    refine k_get (ci := 2) (v := .int (gI w 22 a0 3)) hx hb hts hE inX3 hown hP (hp_sh hP hF a0 22 ha0) (by decide) rfl rfl 3 (by decide) w1_178 rfl rfl dX3_removeAt_6 ?_
    refine lv_icmp_lt (tgt := 13) hx hb dX3_removeAt_9 (by decide) (fun cc => ?_) (fun cc => ?_)
    · have h := br_el h cc
      refine lv_iload_n hx hb dX3_removeAt_13 rfl (lv_at hl 1 rfl) ?_
      refine lv_istore_n (i := 2) (lv' := [(2, .int a1), (0, .ref (adr (gB G) 22 a0)), (1, .int a1)]) hx hb dX3_removeAt_14 rfl hl (by decide) rfl (fun ls hl => ?_)
      obtain ⟨w5, hf, h⟩ := bd0_el h
      refine l_X3_removeAt_15 hC rfl hcs hF a0 ha0 LF a1 w w5 hf _ _ _ hP hS (lv_sub hl [1, 0] rfl) (fun H locs ls hP hS hl => ?_)
      refine lv_aload_n hx hb dX3_removeAt_56 rfl (lv_at hl 0 rfl) ?_
      refine lv_dup hx hb dX3_removeAt_57 rfl ?_
      refine k_get (ci := 2) (v := .int (gI w5 22 a0 3)) hx hb hts hE inX3 hown hP (hp_sh hP hF a0 22 ha0) (by decide) rfl rfl 3 (by decide) w1_178 rfl rfl dX3_removeAt_58 ?_
      refine lv_iconst (v := 1) hx hb dX3_removeAt_61 (by decide) ?_
      refine lv_isub hx hb dX3_removeAt_62 ?_
      refine k_put (ci := 2) (ty := .int) (v := .int ((gI w5 22 a0 3) - 1)) (w1 := pI w5 22 a0 3 ((gI w5 22 a0 3) - 1)) hx hb hts hE inX3 tyX3 tyX3_ok nmX3 hown hP hS (hp_sh hP hF a0 22 ha0) (by decide) rfl rfl 3 (by decide) w1_178 rfl rfl rfl rfl rfl (Nat.le_of_ble_eq_true rfl) loc_pI (wce_pI.trans rfl) dX3_removeAt_63 (fun w6 H locs e hP hS => ?_)
      have h := sq_at h e
      exact e_v hx hb hr hlocks hP hS (Nat.le_of_ble_eq_true rfl) (Nat.le_of_ble_eq_true rfl) (so_el h) dX3_removeAt_66
    · have h := br_er h cc
      exact e_v hx hb hr hlocks hP hS (Nat.le_of_ble_eq_true rfl) (Nat.le_of_ble_eq_true rfl) (so_el h) dX3_removeAt_12

def f_X1_stopListening (a0 : Nat) (a1 : Int32) (a2 : Int32) (w : Mm) : Option (Int32 × Mm) := bd1 (f_X1_hedge a0 a2 w) (fun r1 w2 => on (r1) (some (0, w2)) (fun k3 => gd (decide (k3 < 16)) (bd1 (f_X3_placeOf k3 a1 w2) (fun r5 w6 => br (0 ≤ r5) (bd1 (f_X3_placeOf k3 a1 w6) (fun r7 w8 => bd0 (f_X3_removeAt k3 r7 w8) (fun w9 => some (1, w9)))) (some (0, w6))))))

theorem miX1_stopListening : MI RX1 yX1_stopListening cX1_stopListening 4 (some .boolean) 2 := ⟨w4_112, w4_113, w1_9, w4_114, rfl, by decide +kernel, by decide +kernel, by decide +kernel⟩
set_option maxHeartbeats 4000000 in
set_option maxRecDepth 100000 in
theorem c_X1_stopListening (l : Launch) (G : GG) (hF : gF G = true) (a0 : Nat) (ha0 : a0 < cnt 19) (a1 : Int32) (a2 : Int32) (w : Mm) (r : Int32) (w' : Mm) (h : f_X1_stopListening a0 a1 a2 w = some (r, w')) : Ki l G yX1_stopListening cX1_stopListening 4 (some .boolean) { frames := 1, cells := 0, slots := 0, locals := 22 } [.ref (adr (gB G) 19 a0), .int a1, .int a2] w r w' := by
  refine k_of (by decide +kernel) (Nat.le_of_ble_eq_true rfl) ?_
  intro p e s m args below meth c ls hx hb hml hr hown hlocks hts hin hP hE hl
  have hC : CX p s m args c meth G cX1_stopListening 4 (some .boolean) RX1 := ⟨hx, hb, hml, hr, hown, hlocks, hts, hE⟩
  have hS : va_S (Ab G) s.heap s.heap [] := va_S.rf
  have hcs : 0 ≤ 0 ∧ 0 ≤ 0 := ⟨Nat.zero_le _, Nat.zero_le _⟩
  have hl : lv_has ls 4 [(0, .ref (adr (gB G) 19 a0)), (1, .int a1), (2, .int a2)] := hl
  unfold f_X1_stopListening at h
  refine lv_aload_n hx hb dX1_stopListening_0 rfl (lv_at hl 0 rfl) ?_
  refine lv_iload_n hx hb dX1_stopListening_1 rfl (lv_at hl 2 rfl) ?_
  obtain ⟨r1, w2, hf, h⟩ := bd1_el h
  refine c_onq (c_runV (b := adr (gB G) 19 a0) (As := [.int a2]) (rest := []) hx hb hml hown hts hE hP hS (c_X1_hedge l G hF a0 ha0 a2 w r1 w2 hf) (c_rec hE hP (hp_sh hP hF a0 19 ha0) (by decide) rfl rfl) w4_115 miX1_hedge ⟨Nat.le_of_ble_eq_true rfl, Nat.le_of_ble_eq_true rfl⟩ rfl hl.1 rfl (Nat.le_of_ble_eq_true rfl) dX1_stopListening_2 hcs) hS (fun H locs hP hS => ?_)
  refine k_astore_n (i := 3) (lv' := [(3, va_rf (r1.map (adr (gB G) 22))), (0, .ref (adr (gB G) 19 a0)), (1, .int a1), (2, .int a2)]) hx hb dX1_stopListening_5 rfl hl (by decide) (by simp [kR, cat_rf, cat_ref, cat_int, cat_long, cat_null]) (fun ls hl => ?_)
  refine k_aload_n hx hb dX1_stopListening_6 rfl (lv_at hl 0 rfl) ?_
  rcases ho : r1 with _ | k3
  · have h := on_n h ho
    refine k_ifnull_n (tgt := 18) hx hb rfl dX1_stopListening_7 (by decide) ?_
    rw [ho] at hl
    have hl : lv_has ls 4 [(3, .null), (0, .ref (adr (gB G) 19 a0)), (1, .int a1), (2, .int a2)] := hl
    refine lv_iconst (v := 0) hx hb dX1_stopListening_18 (by decide) ?_
    exact e_i hx hb hr rfl hlocks hP hS (Nat.le_of_ble_eq_true rfl) (Nat.le_of_ble_eq_true rfl) (Prod.mk.inj (so_el h)) dX1_stopListening_19
  · have h := on_s h ho
    obtain ⟨g4, h⟩ := gd_el h
    refine k_ifnull_s hx hb rfl dX1_stopListening_7 ?_
    rw [ho] at hl
    have hl : lv_has ls 4 [(3, .ref (adr (gB G) 22 k3)), (0, .ref (adr (gB G) 19 a0)), (1, .int a1), (2, .int a2)] := hl
    refine lv_aload_n hx hb dX1_stopListening_10 rfl (lv_at hl 0 rfl) ?_
    refine lv_iload_n hx hb dX1_stopListening_11 rfl (lv_at hl 2 rfl) ?_
    obtain ⟨r5, w6, hf, h⟩ := bd1_el h
    refine c_oni (c_runV (b := adr (gB G) 22 k3) (As := [.int a1]) (rest := []) hx hb hml hown hts hE hP hS (c_X3_placeOf l G hF k3 (of_decide_eq_true g4) a1 w2 r5 w6 hf) (c_rec hE hP (hp_sh hP hF k3 22 (of_decide_eq_true g4)) (by decide) rfl rfl) w4_116 miX3_placeOf ⟨Nat.le_of_ble_eq_true rfl, Nat.le_of_ble_eq_true rfl⟩ rfl hl.1 rfl (Nat.le_of_ble_eq_true rfl) dX1_stopListening_12 hcs) hS (fun H locs hP hS => ?_)
    refine lv_if_ge (tgt := 20) hx hb dX1_stopListening_15 (by decide) (fun cc => ?_) (fun cc => ?_)
    · have h := br_el h cc
      refine lv_aload_n hx hb dX1_stopListening_20 rfl (lv_at hl 0 rfl) ?_
      refine lv_aload_n hx hb dX1_stopListening_21 rfl (lv_at hl 0 rfl) ?_
      refine lv_iload_n hx hb dX1_stopListening_22 rfl (lv_at hl 2 rfl) ?_
      obtain ⟨r7, w8, hf, h⟩ := bd1_el h
      refine c_oni (c_runV (b := adr (gB G) 22 k3) (As := [.int a1]) (rest := [.ref (adr (gB G) 22 k3)]) hx hb hml hown hts hE hP hS (c_X3_placeOf l G hF k3 (of_decide_eq_true g4) a1 w6 r7 w8 hf) (c_rec hE hP (hp_sh hP hF k3 22 (of_decide_eq_true g4)) (by decide) rfl rfl) w4_116 miX3_placeOf ⟨Nat.le_of_ble_eq_true rfl, Nat.le_of_ble_eq_true rfl⟩ rfl hl.1 rfl (Nat.le_of_ble_eq_true rfl) dX1_stopListening_23 hcs) hS (fun H locs hP hS => ?_)
      obtain ⟨w9, hf, h⟩ := bd0_el h
      refine c_onv (c_runV (b := adr (gB G) 22 k3) (As := [.int r7]) (rest := []) hx hb hml hown hts hE hP hS (c_X3_removeAt l G hF k3 (of_decide_eq_true g4) r7 w8 w9 hf) (c_rec hE hP (hp_sh hP hF k3 22 (of_decide_eq_true g4)) (by decide) rfl rfl) w4_120 miX3_removeAt ⟨Nat.le_of_ble_eq_true rfl, Nat.le_of_ble_eq_true rfl⟩ rfl hl.1 rfl (Nat.le_of_ble_eq_true rfl) dX1_stopListening_26 hcs) hS (fun H locs hP hS => ?_)
      refine lv_iconst (v := 1) hx hb dX1_stopListening_29 (by decide) ?_
      exact e_i hx hb hr rfl hlocks hP hS (Nat.le_of_ble_eq_true rfl) (Nat.le_of_ble_eq_true rfl) (Prod.mk.inj (so_el h)) dX1_stopListening_30
    · have h := br_er h cc
      refine lv_iconst (v := 0) hx hb dX1_stopListening_18 (by decide) ?_
      exact e_i hx hb hr rfl hlocks hP hS (Nat.le_of_ble_eq_true rfl) (Nat.le_of_ble_eq_true rfl) (Prod.mk.inj (so_el h)) dX1_stopListening_19

def f_X1_roseHears (a0 : Nat) (a1 : Int32) (a2 : Int32) (a3 : Int32) (w : Mm) : Option (Mm) := bd1 (f_X1_rose a0 (a1 - 8) w) (fun r1 w2 => on (r1) (some w2) (fun k3 => gd (decide (k3 < 16)) (sq (pI w2 24 k3 1 ((gI w2 24 k3 1) + a3)) (fun w5 => sq (pI w5 24 k3 2 ((gI w5 24 k3 2) + 1)) (fun w6 => br ((gI w6 24 k3 2) = (gI w6 24 k3 0)) (bd1 (f_X1_stopListening a0 a1 a2 w6) (fun r7 w8 => sq (pI w8 24 k3 2 0) (fun w9 => sq (pI w9 24 k3 3 ((gI w9 24 k3 3) + 1)) (fun w10 => sq (pI w10 19 a0 8 ((gI w10 19 a0 8) + 1)) (fun w11 => some w11))))) (some w6))))))

theorem miX1_roseHears : MI RX1 yX1_roseHears cX1_roseHears 5 none 3 := ⟨w4_108, w4_109, w1_9, w4_110, rfl, by decide +kernel, by decide +kernel, by decide +kernel⟩
set_option maxHeartbeats 4000000 in
set_option maxRecDepth 100000 in
theorem c_X1_roseHears (l : Launch) (G : GG) (hF : gF G = true) (a0 : Nat) (ha0 : a0 < cnt 19) (a1 : Int32) (a2 : Int32) (a3 : Int32) (w : Mm) (w' : Mm) (h : f_X1_roseHears a0 a1 a2 a3 w = some w') : Kv l G yX1_roseHears cX1_roseHears 5 none { frames := 2, cells := 0, slots := 0, locals := 45 } [.ref (adr (gB G) 19 a0), .int a1, .int a2, .int a3] w w' := by
  refine k_of (by decide +kernel) (Nat.le_of_ble_eq_true rfl) ?_
  intro p e s m args below meth c ls hx hb hml hr hown hlocks hts hin hP hE hl
  have hC : CX p s m args c meth G cX1_roseHears 5 none RX1 := ⟨hx, hb, hml, hr, hown, hlocks, hts, hE⟩
  have hS : va_S (Ab G) s.heap s.heap [] := va_S.rf
  have hcs : 0 ≤ 0 ∧ 0 ≤ 0 := ⟨Nat.zero_le _, Nat.zero_le _⟩
  have hl : lv_has ls 5 [(0, .ref (adr (gB G) 19 a0)), (1, .int a1), (2, .int a2), (3, .int a3)] := hl
  unfold f_X1_roseHears at h
  refine lv_aload_n hx hb dX1_roseHears_0 rfl (lv_at hl 0 rfl) ?_
  refine lv_iload_n hx hb dX1_roseHears_1 rfl (lv_at hl 1 rfl) ?_
  refine lv_bipush (v := 8) hx hb dX1_roseHears_2 (by decide) ?_
  refine lv_isub hx hb dX1_roseHears_4 ?_
  obtain ⟨r1, w2, hf, h⟩ := bd1_el h
  refine c_onq (c_runV (b := adr (gB G) 19 a0) (As := [.int (a1 - 8)]) (rest := []) hx hb hml hown hts hE hP hS (c_X1_rose l G hF a0 ha0 (a1 - 8) w r1 w2 hf) (c_rec hE hP (hp_sh hP hF a0 19 ha0) (by decide) rfl rfl) w3_215 miX1_rose ⟨Nat.le_of_ble_eq_true rfl, Nat.le_of_ble_eq_true rfl⟩ rfl hl.1 rfl (Nat.le_of_ble_eq_true rfl) dX1_roseHears_5 hcs) hS (fun H locs hP hS => ?_)
  refine k_astore (i := 4) (lv' := [(4, va_rf (r1.map (adr (gB G) 24))), (0, .ref (adr (gB G) 19 a0)), (1, .int a1), (2, .int a2), (3, .int a3)]) hx hb dX1_roseHears_8 hl (by decide) (by simp [kR, cat_rf, cat_ref, cat_int, cat_long, cat_null]) (fun ls hl => ?_)
  refine k_aload hx hb dX1_roseHears_10 (lv_at hl 0 rfl) ?_
  rcases ho : r1 with _ | k3
  · have h := on_n h ho
    refine k_ifnonnull_n hx hb rfl dX1_roseHears_12 ?_
    rw [ho] at hl
    have hl : lv_has ls 5 [(4, .null), (0, .ref (adr (gB G) 19 a0)), (1, .int a1), (2, .int a2), (3, .int a3)] := hl
    exact e_v hx hb hr hlocks hP hS (Nat.le_of_ble_eq_true rfl) (Nat.le_of_ble_eq_true rfl) (so_el h) dX1_roseHears_15
  · have h := on_s h ho
    obtain ⟨g4, h⟩ := gd_el h
    refine k_ifnonnull_s (tgt := 16) hx hb rfl dX1_roseHears_12 (by decide) ?_
    rw [ho] at hl
    have hl : lv_has ls 5 [(4, .ref (adr (gB G) 24 k3)), (0, .ref (adr (gB G) 19 a0)), (1, .int a1), (2, .int a2), (3, .int a3)] := hl
    refine lv_aload hx hb dX1_roseHears_16 (lv_at hl 0 rfl) ?_
    refine lv_dup hx hb dX1_roseHears_18 rfl ?_
    refine k_get (ci := 7) (v := .int (gI w2 24 k3 1)) hx hb hts hE inX9 hown hP (hp_sh hP hF k3 24 (of_decide_eq_true g4)) (by decide) rfl rfl 1 (by decide) w1_202 rfl rfl dX1_roseHears_19 ?_
    refine lv_iload_n hx hb dX1_roseHears_22 rfl (lv_at hl 4 rfl) ?_
    refine lv_iadd hx hb dX1_roseHears_23 ?_
    refine k_put (ci := 7) (ty := .int) (v := .int ((gI w2 24 k3 1) + a3)) (w1 := pI w2 24 k3 1 ((gI w2 24 k3 1) + a3)) hx hb hts hE inX9 tyX9 tyX9_ok nmX9 hown hP hS (hp_sh hP hF k3 24 (of_decide_eq_true g4)) (by decide) rfl rfl 1 (by decide) w1_202 rfl rfl rfl rfl rfl (Nat.le_of_ble_eq_true rfl) loc_pI (wce_pI.trans rfl) dX1_roseHears_24 (fun w5 H locs e hP hS => ?_)
    have h := sq_at h e
    refine lv_aload hx hb dX1_roseHears_27 (lv_at hl 0 rfl) ?_
    refine lv_dup hx hb dX1_roseHears_29 rfl ?_
    refine k_get (ci := 7) (v := .int (gI w5 24 k3 2)) hx hb hts hE inX9 hown hP (hp_sh hP hF k3 24 (of_decide_eq_true g4)) (by decide) rfl rfl 2 (by decide) w1_205 rfl rfl dX1_roseHears_30 ?_
    refine lv_iconst (v := 1) hx hb dX1_roseHears_33 (by decide) ?_
    refine lv_iadd hx hb dX1_roseHears_34 ?_
    refine k_put (ci := 7) (ty := .int) (v := .int ((gI w5 24 k3 2) + 1)) (w1 := pI w5 24 k3 2 ((gI w5 24 k3 2) + 1)) hx hb hts hE inX9 tyX9 tyX9_ok nmX9 hown hP hS (hp_sh hP hF k3 24 (of_decide_eq_true g4)) (by decide) rfl rfl 2 (by decide) w1_205 rfl rfl rfl rfl rfl (Nat.le_of_ble_eq_true rfl) loc_pI (wce_pI.trans rfl) dX1_roseHears_35 (fun w6 H locs e hP hS => ?_)
    have h := sq_at h e
    refine lv_aload hx hb dX1_roseHears_38 (lv_at hl 0 rfl) ?_
    refine k_get (ci := 7) (v := .int (gI w6 24 k3 2)) hx hb hts hE inX9 hown hP (hp_sh hP hF k3 24 (of_decide_eq_true g4)) (by decide) rfl rfl 2 (by decide) w1_205 rfl rfl dX1_roseHears_40 ?_
    refine lv_aload hx hb dX1_roseHears_43 (lv_at hl 0 rfl) ?_
    refine k_get (ci := 7) (v := .int (gI w6 24 k3 0)) hx hb hts hE inX9 hown hP (hp_sh hP hF k3 24 (of_decide_eq_true g4)) (by decide) rfl rfl 0 (by decide) w1_199 rfl rfl dX1_roseHears_45 ?_
    refine lv_icmp_ne (tgt := 85) hx hb dX1_roseHears_48 (by decide) (fun cc => ?_) (fun cc => ?_)
    · have h := br_er h cc
      exact e_v hx hb hr hlocks hP hS (Nat.le_of_ble_eq_true rfl) (Nat.le_of_ble_eq_true rfl) (so_el h) dX1_roseHears_85
    · have h := br_el h cc
      refine lv_aload_n hx hb dX1_roseHears_51 rfl (lv_at hl 1 rfl) ?_
      refine lv_iload_n hx hb dX1_roseHears_52 rfl (lv_at hl 2 rfl) ?_
      refine lv_iload_n hx hb dX1_roseHears_53 rfl (lv_at hl 3 rfl) ?_
      obtain ⟨r7, w8, hf, h⟩ := bd1_el h
      refine c_oni (c_runV (b := adr (gB G) 19 a0) (As := [.int a1, .int a2]) (rest := []) hx hb hml hown hts hE hP hS (c_X1_stopListening l G hF a0 ha0 a1 a2 w6 r7 w8 hf) (c_rec hE hP (hp_sh hP hF a0 19 ha0) (by decide) rfl rfl) w4_111 miX1_stopListening ⟨Nat.le_of_ble_eq_true rfl, Nat.le_of_ble_eq_true rfl⟩ rfl hl.1 rfl (Nat.le_of_ble_eq_true rfl) dX1_roseHears_54 hcs) hS (fun H locs hP hS => ?_)
      refine lv_pop hx hb dX1_roseHears_57 rfl ?_
      refine lv_aload hx hb dX1_roseHears_58 (lv_at hl 0 rfl) ?_
      refine lv_iconst (v := 0) hx hb dX1_roseHears_60 (by decide) ?_
      refine k_put (ci := 7) (ty := .int) (v := .int 0) (w1 := pI w8 24 k3 2 0) hx hb hts hE inX9 tyX9 tyX9_ok nmX9 hown hP hS (hp_sh hP hF k3 24 (of_decide_eq_true g4)) (by decide) rfl rfl 2 (by decide) w1_205 rfl rfl rfl rfl rfl (Nat.le_of_ble_eq_true rfl) loc_pI (wce_pI.trans rfl) dX1_roseHears_61 (fun w9 H locs e hP hS => ?_)
      have h := sq_at h e
      refine lv_aload hx hb dX1_roseHears_64 (lv_at hl 0 rfl) ?_
      refine lv_dup hx hb dX1_roseHears_66 rfl ?_
      refine k_get (ci := 7) (v := .int (gI w9 24 k3 3)) hx hb hts hE inX9 hown hP (hp_sh hP hF k3 24 (of_decide_eq_true g4)) (by decide) rfl rfl 3 (by decide) w1_208 rfl rfl dX1_roseHears_67 ?_
      refine lv_iconst (v := 1) hx hb dX1_roseHears_70 (by decide) ?_
      refine lv_iadd hx hb dX1_roseHears_71 ?_
      refine k_put (ci := 7) (ty := .int) (v := .int ((gI w9 24 k3 3) + 1)) (w1 := pI w9 24 k3 3 ((gI w9 24 k3 3) + 1)) hx hb hts hE inX9 tyX9 tyX9_ok nmX9 hown hP hS (hp_sh hP hF k3 24 (of_decide_eq_true g4)) (by decide) rfl rfl 3 (by decide) w1_208 rfl rfl rfl rfl rfl (Nat.le_of_ble_eq_true rfl) loc_pI (wce_pI.trans rfl) dX1_roseHears_72 (fun w10 H locs e hP hS => ?_)
      have h := sq_at h e
      refine lv_aload_n hx hb dX1_roseHears_75 rfl (lv_at hl 1 rfl) ?_
      refine lv_dup hx hb dX1_roseHears_76 rfl ?_
      refine k_get (ci := 0) (v := .int (gI w10 19 a0 8)) hx hb hts hE inX1 hown hP (hp_sh hP hF a0 19 ha0) (by decide) rfl rfl 8 (by decide) w1_239 rfl rfl dX1_roseHears_77 ?_
      refine lv_iconst (v := 1) hx hb dX1_roseHears_80 (by decide) ?_
      refine lv_iadd hx hb dX1_roseHears_81 ?_
      refine k_put (ci := 0) (ty := .int) (v := .int ((gI w10 19 a0 8) + 1)) (w1 := pI w10 19 a0 8 ((gI w10 19 a0 8) + 1)) hx hb hts hE inX1 tyX1 tyX1_ok nmX1 hown hP hS (hp_sh hP hF a0 19 ha0) (by decide) rfl rfl 8 (by decide) w1_239 rfl rfl rfl rfl rfl (Nat.le_of_ble_eq_true rfl) loc_pI (wce_pI.trans rfl) dX1_roseHears_82 (fun w11 H locs e hP hS => ?_)
      have h := sq_at h e
      exact e_v hx hb hr hlocks hP hS (Nat.le_of_ble_eq_true rfl) (Nat.le_of_ble_eq_true rfl) (so_el h) dX1_roseHears_85

def f_X3_listenerAt (a0 : Nat) (a1 : Int32) (w : Mm) : Option (Int32 × Mm) := br (a1 < 0) (some ((-1), w)) (br (a1 < 16) (gd (vB a1 16) (some (gI w 23 a0 a1.toNatClampNeg, w))) (some ((-1), w)))

theorem miX3_listenerAt : MI RX3 yX3_listenerAt cX3_listenerAt 2 (some .int) 1 := ⟨w4_100, w4_101, w1_10, w4_102, rfl, by decide +kernel, by decide +kernel, by decide +kernel⟩
set_option maxHeartbeats 4000000 in
set_option maxRecDepth 100000 in
theorem c_X3_listenerAt (l : Launch) (G : GG) (hF : gF G = true) (a0 : Nat) (ha0 : a0 < cnt 22) (a1 : Int32) (w : Mm) (r : Int32) (w' : Mm) (h : f_X3_listenerAt a0 a1 w = some (r, w')) : Ki l G yX3_listenerAt cX3_listenerAt 2 (some .int) { frames := 0, cells := 0, slots := 0, locals := 0 } [.ref (adr (gB G) 22 a0), .int a1] w r w' := by
  refine k_of (by decide +kernel) (Nat.le_of_ble_eq_true rfl) ?_
  intro p e s m args below meth c ls hx hb hml hr hown hlocks hts hin hP hE hl
  have hC : CX p s m args c meth G cX3_listenerAt 2 (some .int) RX3 := ⟨hx, hb, hml, hr, hown, hlocks, hts, hE⟩
  have hS : va_S (Ab G) s.heap s.heap [] := va_S.rf
  have hcs : 0 ≤ 0 ∧ 0 ≤ 0 := ⟨Nat.zero_le _, Nat.zero_le _⟩
  have hl : lv_has ls 2 [(0, .ref (adr (gB G) 22 a0)), (1, .int a1)] := hl
  unfold f_X3_listenerAt at h
  refine lv_iload_n hx hb dX3_listenerAt_0 rfl (lv_at hl 1 rfl) ?_
  refine lv_if_lt (tgt := 13) hx hb dX3_listenerAt_1 (by decide) (fun cc => ?_) (fun cc => ?_)
  · have h := br_el h cc
    refine lv_iconst (v := (-1)) hx hb dX3_listenerAt_13 (by decide) ?_
    refine lv_goto (tgt := 23) hx hb dX3_listenerAt_14 (by decide) ?_
    exact e_i hx hb hr rfl hlocks hP hS (Nat.le_of_ble_eq_true rfl) (Nat.le_of_ble_eq_true rfl) (Prod.mk.inj (so_el h)) dX3_listenerAt_23
  · have h := br_er h cc
    refine lv_iload_n hx hb dX3_listenerAt_4 rfl (lv_at hl 1 rfl) ?_
    refine lv_aload_n hx hb dX3_listenerAt_5 rfl (lv_at hl 0 rfl) ?_
    refine k_get (ci := 2) (v := .ref (adr (gB G) 23 a0)) hx hb hts hE inX3 hown hP (hp_sh hP hF a0 22 ha0) (by decide) rfl rfl 4 (by decide) w1_181 rfl rfl dX3_listenerAt_6 ?_
    refine k_alen (v := 16) hx hb hE hP (hp_sh hP hF a0 23 ha0) (by decide) rfl 0 rfl rfl dX3_listenerAt_9 ?_
    refine lv_icmp_lt (tgt := 17) hx hb dX3_listenerAt_10 (by decide) (fun cc => ?_) (fun cc => ?_)
    · have h := br_el h cc
      refine lv_aload_n hx hb dX3_listenerAt_17 rfl (lv_at hl 0 rfl) ?_
      refine k_get (ci := 2) (v := .ref (adr (gB G) 23 a0)) hx hb hts hE inX3 hown hP (hp_sh hP hF a0 22 ha0) (by decide) rfl rfl 4 (by decide) w1_181 rfl rfl dX3_listenerAt_18 ?_
      refine lv_iload_n hx hb dX3_listenerAt_21 rfl (lv_at hl 1 rfl) ?_
      obtain ⟨g1, h⟩ := gd_el h
      refine k_iald hx hb hE hP (hp_sh hP hF a0 23 ha0) (by decide) rfl g1 dX3_listenerAt_22 ?_
      exact e_i hx hb hr rfl hlocks hP hS (Nat.le_of_ble_eq_true rfl) (Nat.le_of_ble_eq_true rfl) (Prod.mk.inj (so_el h)) dX3_listenerAt_23
    · have h := br_er h cc
      refine lv_iconst (v := (-1)) hx hb dX3_listenerAt_13 (by decide) ?_
      refine lv_goto (tgt := 23) hx hb dX3_listenerAt_14 (by decide) ?_
      exact e_i hx hb hr rfl hlocks hP hS (Nat.le_of_ble_eq_true rfl) (Nat.le_of_ble_eq_true rfl) (Prod.mk.inj (so_el h)) dX3_listenerAt_23

def f_X6_whisper (a1 : Int32) (a2 : Int32) (a3 : Int32) (w : Mm) : Option (Mm) := br ((gI w 11 0 3) < 0) (some w) (br (128 ≤ (gI w 11 0 3)) (some w) (gd (vB (gI w 11 0 3) 128) (sq (pI w 12 0 (gI w 11 0 3).toNatClampNeg a1) (fun w2 => gd (vB (gI w2 11 0 3) 128) (sq (pI w2 13 0 (gI w2 11 0 3).toNatClampNeg a2) (fun w4 => gd (vB (gI w4 11 0 3) 128) (sq (pI w4 14 0 (gI w4 11 0 3).toNatClampNeg a3) (fun w6 => sq (pI w6 11 0 3 ((gI w6 11 0 3) + 1)) (fun w7 => some w7)))))))))

theorem miX6_whisper : MI RX6 yX6_whisper cX6_whisper 4 none 3 := ⟨w4_105, (tb_sel 23 rfl rfl), w1_7, w4_106, rfl, by decide +kernel, by decide +kernel, by decide +kernel⟩
set_option maxHeartbeats 4000000 in
set_option maxRecDepth 100000 in
theorem c_X6_whisper (l : Launch) (G : GG) (hF : gF G = true) (a1 : Int32) (a2 : Int32) (a3 : Int32) (w : Mm) (w' : Mm) (h : f_X6_whisper a1 a2 a3 w = some w') : Kv l G yX6_whisper cX6_whisper 4 none { frames := 0, cells := 0, slots := 0, locals := 0 } [.ref (adr (gB G) 11 0), .int a1, .int a2, .int a3] w w' := by
  refine k_of (by decide +kernel) (Nat.le_of_ble_eq_true rfl) ?_
  intro p e s m args below meth c ls hx hb hml hr hown hlocks hts hin hP hE hl
  have hC : CX p s m args c meth G cX6_whisper 4 none RX6 := ⟨hx, hb, hml, hr, hown, hlocks, hts, hE⟩
  have hS : va_S (Ab G) s.heap s.heap [] := va_S.rf
  have hcs : 0 ≤ 0 ∧ 0 ≤ 0 := ⟨Nat.zero_le _, Nat.zero_le _⟩
  have hl : lv_has ls 4 [(0, .ref (adr (gB G) 11 0)), (1, .int a1), (2, .int a2), (3, .int a3)] := hl
  unfold f_X6_whisper at h
  refine lv_aload_n hx hb dX6_whisper_0 rfl (lv_at hl 0 rfl) ?_
  refine k_get (ci := 4) (v := .int (gI w 11 0 3)) hx hb hts hE inX6 hown hP (hp_sh hP hF 0 11 (by decide)) (by decide) rfl rfl 3 (by decide) w1_119 rfl rfl dX6_whisper_1 ?_
  refine lv_if_lt (tgt := 57) hx hb dX6_whisper_4 (by decide) (fun cc => ?_) (fun cc => ?_)
  · have h := br_el h cc
    exact e_v hx hb hr hlocks hP hS (Nat.le_of_ble_eq_true rfl) (Nat.le_of_ble_eq_true rfl) (so_el h) dX6_whisper_57
  · have h := br_er h cc
    refine lv_aload_n hx hb dX6_whisper_7 rfl (lv_at hl 0 rfl) ?_
    refine k_get (ci := 4) (v := .int (gI w 11 0 3)) hx hb hts hE inX6 hown hP (hp_sh hP hF 0 11 (by decide)) (by decide) rfl rfl 3 (by decide) w1_119 rfl rfl dX6_whisper_8 ?_
    refine lv_sipush (v := 128) hx hb dX6_whisper_11 (by decide) ?_
    refine lv_icmp_ge (tgt := 57) hx hb dX6_whisper_14 (by decide) (fun cc => ?_) (fun cc => ?_)
    · have h := br_el h cc
      exact e_v hx hb hr hlocks hP hS (Nat.le_of_ble_eq_true rfl) (Nat.le_of_ble_eq_true rfl) (so_el h) dX6_whisper_57
    · have h := br_er h cc
      refine lv_aload_n hx hb dX6_whisper_17 rfl (lv_at hl 0 rfl) ?_
      refine k_get (ci := 4) (v := .ref (adr (gB G) 12 0)) hx hb hts hE inX6 hown hP (hp_sh hP hF 0 11 (by decide)) (by decide) rfl rfl 0 (by decide) w1_116 rfl rfl dX6_whisper_18 ?_
      refine lv_aload_n hx hb dX6_whisper_21 rfl (lv_at hl 0 rfl) ?_
      refine k_get (ci := 4) (v := .int (gI w 11 0 3)) hx hb hts hE inX6 hown hP (hp_sh hP hF 0 11 (by decide)) (by decide) rfl rfl 3 (by decide) w1_119 rfl rfl dX6_whisper_22 ?_
      refine lv_iload_n hx hb dX6_whisper_25 rfl (lv_at hl 1 rfl) ?_
      obtain ⟨g1, h⟩ := gd_el h
      refine k_iast hx hb hE hP hS (hp_sh hP hF 0 12 (by decide)) (by decide) rfl rfl g1 dX6_whisper_26 (fun w2 H locs e hP hS => ?_)
      have h := sq_at h e
      refine lv_aload_n hx hb dX6_whisper_27 rfl (lv_at hl 0 rfl) ?_
      refine k_get (ci := 4) (v := .ref (adr (gB G) 13 0)) hx hb hts hE inX6 hown hP (hp_sh hP hF 0 11 (by decide)) (by decide) rfl rfl 1 (by decide) w1_117 rfl rfl dX6_whisper_28 ?_
      refine lv_aload_n hx hb dX6_whisper_31 rfl (lv_at hl 0 rfl) ?_
      refine k_get (ci := 4) (v := .int (gI w2 11 0 3)) hx hb hts hE inX6 hown hP (hp_sh hP hF 0 11 (by decide)) (by decide) rfl rfl 3 (by decide) w1_119 rfl rfl dX6_whisper_32 ?_
      refine lv_iload_n hx hb dX6_whisper_35 rfl (lv_at hl 2 rfl) ?_
      obtain ⟨g3, h⟩ := gd_el h
      refine k_iast hx hb hE hP hS (hp_sh hP hF 0 13 (by decide)) (by decide) rfl rfl g3 dX6_whisper_36 (fun w4 H locs e hP hS => ?_)
      have h := sq_at h e
      refine lv_aload_n hx hb dX6_whisper_37 rfl (lv_at hl 0 rfl) ?_
      refine k_get (ci := 4) (v := .ref (adr (gB G) 14 0)) hx hb hts hE inX6 hown hP (hp_sh hP hF 0 11 (by decide)) (by decide) rfl rfl 2 (by decide) w1_118 rfl rfl dX6_whisper_38 ?_
      refine lv_aload_n hx hb dX6_whisper_41 rfl (lv_at hl 0 rfl) ?_
      refine k_get (ci := 4) (v := .int (gI w4 11 0 3)) hx hb hts hE inX6 hown hP (hp_sh hP hF 0 11 (by decide)) (by decide) rfl rfl 3 (by decide) w1_119 rfl rfl dX6_whisper_42 ?_
      refine lv_iload_n hx hb dX6_whisper_45 rfl (lv_at hl 3 rfl) ?_
      obtain ⟨g5, h⟩ := gd_el h
      refine k_iast hx hb hE hP hS (hp_sh hP hF 0 14 (by decide)) (by decide) rfl rfl g5 dX6_whisper_46 (fun w6 H locs e hP hS => ?_)
      have h := sq_at h e
      refine lv_aload_n hx hb dX6_whisper_47 rfl (lv_at hl 0 rfl) ?_
      refine lv_dup hx hb dX6_whisper_48 rfl ?_
      refine k_get (ci := 4) (v := .int (gI w6 11 0 3)) hx hb hts hE inX6 hown hP (hp_sh hP hF 0 11 (by decide)) (by decide) rfl rfl 3 (by decide) w1_119 rfl rfl dX6_whisper_49 ?_
      refine lv_iconst (v := 1) hx hb dX6_whisper_52 (by decide) ?_
      refine lv_iadd hx hb dX6_whisper_53 ?_
      refine k_put (ci := 4) (ty := .int) (v := .int ((gI w6 11 0 3) + 1)) (w1 := pI w6 11 0 3 ((gI w6 11 0 3) + 1)) hx hb hts hE inX6 tyX6 tyX6_ok nmX6 hown hP hS (hp_sh hP hF 0 11 (by decide)) (by decide) rfl rfl 3 (by decide) w1_119 rfl rfl rfl rfl rfl (Nat.le_of_ble_eq_true rfl) loc_pI (wce_pI.trans rfl) dX6_whisper_54 (fun w7 H locs e hP hS => ?_)
      have h := sq_at h e
      exact e_v hx hb hr hlocks hP hS (Nat.le_of_ble_eq_true rfl) (Nat.le_of_ble_eq_true rfl) (so_el h) dX6_whisper_57

def f_X6_hedgeHears_L89 (z4 : Nat) (z2 : Int32) (z3 : Int32) : Nat → Int32 → Mm → Option (Mm)
  | 0, _, _ => none
  | n + 1, u5, w => br ((gI w 22 z4 3) ≤ u5) (some w) (bd1 (f_X3_listenerAt z4 u5 w) (fun r10 w11 => bd0 (f_X6_whisper z2 r10 (z3 - (gI w11 22 z4 0)) w11) (fun w12 => sq (u5 + 1) (fun x13 => f_X6_hedgeHears_L89 z4 z2 z3 n x13 w12))))

def f_X6_hedgeHears (a1 : Nat) (a2 : Int32) (a3 : Int32) (w : Mm) : Option (Mm) := bd1 (f_X1_hedge a1 a2 w) (fun r1 w2 => on (r1) (some w2) (fun k3 => gd (decide (k3 < 16)) (br (a2 < 0) (some w2) (br (a2 < 8) (gd (vB a2 8) (br ((gI w2 15 0 a2.toNatClampNeg) ≤ 0) (gd (vB a2 8) (sq (pI w2 15 0 a2.toNatClampNeg a3) (fun w7 => sq (pI w7 22 k3 1 ((gI w7 22 k3 1) + 1)) (fun w8 => sq (pI w8 22 k3 2 a3) (fun w9 => br (1 ≤ (a3 - (gI w9 22 k3 0))) (bd0 (f_X6_hedgeHears_L89 k3 a2 a3 LF 0 w9) (fun w14 => some w14)) (some w9)))))) (gd (vB a2 8) (sq (pI w2 16 0 a2.toNatClampNeg (vp_nar .boolean 1)) (fun w16 => sq (pI w16 19 a1 7 ((gI w16 19 a1 7) + 1)) (fun w17 => some w17)))))) (some w2)))))

theorem miX6_hedgeHears : MI RX6 yX6_hedgeHears cX6_hedgeHears 6 none 3 := ⟨w4_93, (tb_sel 22 rfl rfl), w1_7, w4_94, rfl, by decide +kernel, by decide +kernel, by decide +kernel⟩
set_option maxHeartbeats 4000000 in
set_option maxRecDepth 100000 in
theorem l_X6_hedgeHears_89 {p : Program} {l : Launch} {e : Env} {R : Room} {s : State} {m : MethodId} {args : Array Value} {below : List Frame} {meth : Method} {c : Code} {cells slots : Nat} {Q : State → Prop} {G : GG} (hC : CX p s m args c meth G cX6_hedgeHears 6 none RX6) (hR : R = { frames := 1, cells := 0, slots := 0, locals := 23 }) (hcs : cells ≤ R.cells ∧ slots ≤ R.slots) (hF : gF G = true) (z4 : Nat) (hz4 : z4 < cnt 22) (z2 : Int32) (z3 : Int32) : ∀ (n : Nat) (u5 : Int32) (w : Mm) (w' : Mm), f_X6_hedgeHears_L89 z4 z2 z3 n u5 w = some w' → ∀ (H : Heap) (locs : List Loc) (ls : Array Slot), HP G w H → va_S (Ab G) s.heap H locs → lv_has ls 6 [(4, .ref (adr (gB G) 22 z4)), (0, .ref (adr (gB G) 11 0)), (2, .int z2), (3, .int z3), (5, .int u5)] → (∀ (H : Heap) (locs : List Loc) (ls : Array Slot), HP G w' H → va_S (Ab G) s.heap H locs → lv_has ls 6 [] → W p l e R s m args below meth c H locs cells slots Q (F0 m 124 ls [])) → W p l e R s m args below meth c H locs cells slots Q (F0 m 89 ls []) := by
  subst hR
  obtain ⟨hx, hb, hml, hr, hown, hlocks, hts, hE⟩ := id hC
  intro n
  induction n with
  | zero =>
    intro u5 w w' h
    rw [f_X6_hedgeHears_L89] at h
    cases h
  | succ n ih =>
    intro u5 w w' h H locs ls hP hS hl k0
    rw [f_X6_hedgeHears_L89] at h
    refine lv_iload hx hb dX6_hedgeHears_89 (lv_at hl 4 rfl) ?_
    refine lv_aload hx hb dX6_hedgeHears_91 (lv_at hl 0 rfl) ?_
    refine k_get (ci := 2) (v := .int (gI w 22 z4 3)) hx hb hts hE inX3 hown hP (hp_sh hP hF z4 22 hz4) (by decide) rfl rfl 3 (by decide) w1_179 rfl rfl dX6_hedgeHears_93 ?_
    refine lv_icmp_ge (tgt := 124) hx hb dX6_hedgeHears_96 (by decide) (fun cc => ?_) (fun cc => ?_)
    · have h := br_el h cc
      cases h
      exact k0 _ _ _ hP hS (lv_sub hl [] rfl)
    · have h := br_er h cc
      refine lv_aload_n hx hb dX6_hedgeHears_99 rfl (lv_at hl 1 rfl) ?_
      refine lv_iload_n hx hb dX6_hedgeHears_100 rfl (lv_at hl 2 rfl) ?_
      refine lv_aload hx hb dX6_hedgeHears_101 (lv_at hl 0 rfl) ?_
      refine lv_iload hx hb dX6_hedgeHears_103 (lv_at hl 4 rfl) ?_
      obtain ⟨r10, w11, hf, h⟩ := bd1_el h
      refine c_oni (c_runV (b := adr (gB G) 22 z4) (As := [.int u5]) (rest := [.int z2, .ref (adr (gB G) 11 0)]) hx hb hml hown hts hE hP hS (c_X3_listenerAt l G hF z4 hz4 u5 w r10 w11 hf) (c_rec hE hP (hp_sh hP hF z4 22 hz4) (by decide) rfl rfl) w4_99 miX3_listenerAt ⟨Nat.le_of_ble_eq_true rfl, Nat.le_of_ble_eq_true rfl⟩ rfl hl.1 rfl (Nat.le_of_ble_eq_true rfl) dX6_hedgeHears_105 hcs) hS (fun H locs hP hS => ?_)
      refine lv_iload_n hx hb dX6_hedgeHears_108 rfl (lv_at hl 3 rfl) ?_
      refine lv_aload hx hb dX6_hedgeHears_109 (lv_at hl 0 rfl) ?_
      refine k_get (ci := 2) (v := .int (gI w11 22 z4 0)) hx hb hts hE inX3 hown hP (hp_sh hP hF z4 22 hz4) (by decide) rfl rfl 0 (by decide) w1_168 rfl rfl dX6_hedgeHears_111 ?_
      refine lv_isub hx hb dX6_hedgeHears_114 ?_
      obtain ⟨w12, hf, h⟩ := bd0_el h
      refine c_onv (c_runV (b := adr (gB G) 11 0) (As := [.int z2, .int r10, .int (z3 - (gI w11 22 z4 0))]) (rest := []) hx hb hml hown hts hE hP hS (c_X6_whisper l G hF z2 r10 (z3 - (gI w11 22 z4 0)) w11 w12 hf) (c_rec hE hP (hp_sh hP hF 0 11 (by decide)) (by decide) rfl rfl) w4_103 miX6_whisper ⟨Nat.le_of_ble_eq_true rfl, Nat.le_of_ble_eq_true rfl⟩ rfl hl.1 rfl (Nat.le_of_ble_eq_true rfl) dX6_hedgeHears_115 hcs) hS (fun H locs hP hS => ?_)
      obtain ⟨x13, e⟩ : ∃ z : Int32, z = u5 + 1 := ⟨_, rfl⟩
      have h := sq_at h e
      refine lv_iinc (v := x13) (lv' := [(5, .int x13), (4, .ref (adr (gB G) 22 z4)), (0, .ref (adr (gB G) 11 0)), (2, .int z2), (3, .int z3)]) hx hb dX6_hedgeHears_118 hl (k := 4) rfl (by rw [e]; rfl) (by decide) rfl (fun ls hl => ?_)
      refine lv_goto (tgt := 89) hx hb dX6_hedgeHears_121 (by decide) ?_
      exact ih x13 w12 w' h _ _ _ hP hS (lv_sub hl [1, 2, 3, 4, 0] rfl) k0

set_option maxHeartbeats 4000000 in
set_option maxRecDepth 100000 in
theorem c_X6_hedgeHears (l : Launch) (G : GG) (hF : gF G = true) (a1 : Nat) (ha1 : a1 < cnt 19) (a2 : Int32) (a3 : Int32) (w : Mm) (w' : Mm) (h : f_X6_hedgeHears a1 a2 a3 w = some w') : Kv l G yX6_hedgeHears cX6_hedgeHears 6 none { frames := 1, cells := 0, slots := 0, locals := 23 } [.ref (adr (gB G) 11 0), .ref (adr (gB G) 19 a1), .int a2, .int a3] w w' := by
  refine k_of (by decide +kernel) (Nat.le_of_ble_eq_true rfl) ?_
  intro p e s m args below meth c ls hx hb hml hr hown hlocks hts hin hP hE hl
  have hC : CX p s m args c meth G cX6_hedgeHears 6 none RX6 := ⟨hx, hb, hml, hr, hown, hlocks, hts, hE⟩
  have hS : va_S (Ab G) s.heap s.heap [] := va_S.rf
  have hcs : 0 ≤ 0 ∧ 0 ≤ 0 := ⟨Nat.zero_le _, Nat.zero_le _⟩
  have hl : lv_has ls 6 [(0, .ref (adr (gB G) 11 0)), (1, .ref (adr (gB G) 19 a1)), (2, .int a2), (3, .int a3)] := hl
  unfold f_X6_hedgeHears at h
  refine lv_aload_n hx hb dX6_hedgeHears_0 rfl (lv_at hl 1 rfl) ?_
  refine lv_iload_n hx hb dX6_hedgeHears_1 rfl (lv_at hl 2 rfl) ?_
  obtain ⟨r1, w2, hf, h⟩ := bd1_el h
  refine c_onq (c_runV (b := adr (gB G) 19 a1) (As := [.int a2]) (rest := []) hx hb hml hown hts hE hP hS (c_X1_hedge l G hF a1 ha1 a2 w r1 w2 hf) (c_rec hE hP (hp_sh hP hF a1 19 ha1) (by decide) rfl rfl) w4_95 miX1_hedge ⟨Nat.le_of_ble_eq_true rfl, Nat.le_of_ble_eq_true rfl⟩ rfl hl.1 rfl (Nat.le_of_ble_eq_true rfl) dX6_hedgeHears_2 hcs) hS (fun H locs hP hS => ?_)
  refine k_astore (i := 4) (lv' := [(4, va_rf (r1.map (adr (gB G) 22))), (0, .ref (adr (gB G) 11 0)), (1, .ref (adr (gB G) 19 a1)), (2, .int a2), (3, .int a3)]) hx hb dX6_hedgeHears_5 hl (by decide) (by simp [kR, cat_rf, cat_ref, cat_int, cat_long, cat_null]) (fun ls hl => ?_)
  refine k_aload hx hb dX6_hedgeHears_7 (lv_at hl 0 rfl) ?_
  rcases ho : r1 with _ | k3
  · have h := on_n h ho
    refine k_ifnull_n (tgt := 22) hx hb rfl dX6_hedgeHears_9 (by decide) ?_
    rw [ho] at hl
    have hl : lv_has ls 6 [(4, .null), (0, .ref (adr (gB G) 11 0)), (1, .ref (adr (gB G) 19 a1)), (2, .int a2), (3, .int a3)] := hl
    exact e_v hx hb hr hlocks hP hS (Nat.le_of_ble_eq_true rfl) (Nat.le_of_ble_eq_true rfl) (so_el h) dX6_hedgeHears_22
  · have h := on_s h ho
    obtain ⟨g4, h⟩ := gd_el h
    refine k_ifnull_s hx hb rfl dX6_hedgeHears_9 ?_
    rw [ho] at hl
    have hl : lv_has ls 6 [(4, .ref (adr (gB G) 22 k3)), (0, .ref (adr (gB G) 11 0)), (1, .ref (adr (gB G) 19 a1)), (2, .int a2), (3, .int a3)] := hl
    refine lv_iload_n hx hb dX6_hedgeHears_12 rfl (lv_at hl 3 rfl) ?_
    refine lv_if_lt (tgt := 22) hx hb dX6_hedgeHears_13 (by decide) (fun cc => ?_) (fun cc => ?_)
    · have h := br_el h cc
      exact e_v hx hb hr hlocks hP hS (Nat.le_of_ble_eq_true rfl) (Nat.le_of_ble_eq_true rfl) (so_el h) dX6_hedgeHears_22
    · have h := br_er h cc
      refine lv_iload_n hx hb dX6_hedgeHears_16 rfl (lv_at hl 3 rfl) ?_
      refine lv_bipush (v := 8) hx hb dX6_hedgeHears_17 (by decide) ?_
      refine lv_icmp_lt (tgt := 23) hx hb dX6_hedgeHears_19 (by decide) (fun cc => ?_) (fun cc => ?_)
      · have h := br_el h cc
        refine lv_aload_n hx hb dX6_hedgeHears_23 rfl (lv_at hl 1 rfl) ?_
        refine k_get (ci := 4) (v := .ref (adr (gB G) 15 0)) hx hb hts hE inX6 hown hP (hp_sh hP hF 0 11 (by decide)) (by decide) rfl rfl 4 (by decide) w1_120 rfl rfl dX6_hedgeHears_24 ?_
        refine lv_iload_n hx hb dX6_hedgeHears_27 rfl (lv_at hl 3 rfl) ?_
        obtain ⟨g5, h⟩ := gd_el h
        refine k_iald hx hb hE hP (hp_sh hP hF 0 15 (by decide)) (by decide) rfl g5 dX6_hedgeHears_28 ?_
        refine lv_if_le (tgt := 50) hx hb dX6_hedgeHears_29 (by decide) (fun cc => ?_) (fun cc => ?_)
        · have h := br_el h cc
          refine lv_aload_n hx hb dX6_hedgeHears_50 rfl (lv_at hl 1 rfl) ?_
          refine k_get (ci := 4) (v := .ref (adr (gB G) 15 0)) hx hb hts hE inX6 hown hP (hp_sh hP hF 0 11 (by decide)) (by decide) rfl rfl 4 (by decide) w1_120 rfl rfl dX6_hedgeHears_51 ?_
          refine lv_iload_n hx hb dX6_hedgeHears_54 rfl (lv_at hl 3 rfl) ?_
          refine lv_iload_n hx hb dX6_hedgeHears_55 rfl (lv_at hl 4 rfl) ?_
          obtain ⟨g6, h⟩ := gd_el h
          refine k_iast hx hb hE hP hS (hp_sh hP hF 0 15 (by decide)) (by decide) rfl rfl g6 dX6_hedgeHears_56 (fun w7 H locs e hP hS => ?_)
          have h := sq_at h e
          refine lv_aload hx hb dX6_hedgeHears_57 (lv_at hl 0 rfl) ?_
          refine lv_dup hx hb dX6_hedgeHears_59 rfl ?_
          refine k_get (ci := 2) (v := .int (gI w7 22 k3 1)) hx hb hts hE inX3 hown hP (hp_sh hP hF k3 22 (of_decide_eq_true g4)) (by decide) rfl rfl 1 (by decide) w1_171 rfl rfl dX6_hedgeHears_60 ?_
          refine lv_iconst (v := 1) hx hb dX6_hedgeHears_63 (by decide) ?_
          refine lv_iadd hx hb dX6_hedgeHears_64 ?_
          refine k_put (ci := 2) (ty := .int) (v := .int ((gI w7 22 k3 1) + 1)) (w1 := pI w7 22 k3 1 ((gI w7 22 k3 1) + 1)) hx hb hts hE inX3 tyX3 tyX3_ok nmX3 hown hP hS (hp_sh hP hF k3 22 (of_decide_eq_true g4)) (by decide) rfl rfl 1 (by decide) w1_171 rfl rfl rfl rfl rfl (Nat.le_of_ble_eq_true rfl) loc_pI (wce_pI.trans rfl) dX6_hedgeHears_65 (fun w8 H locs e hP hS => ?_)
          have h := sq_at h e
          refine lv_aload hx hb dX6_hedgeHears_68 (lv_at hl 0 rfl) ?_
          refine lv_iload_n hx hb dX6_hedgeHears_70 rfl (lv_at hl 4 rfl) ?_
          refine k_put (ci := 2) (ty := .int) (v := .int a3) (w1 := pI w8 22 k3 2 a3) hx hb hts hE inX3 tyX3 tyX3_ok nmX3 hown hP hS (hp_sh hP hF k3 22 (of_decide_eq_true g4)) (by decide) rfl rfl 2 (by decide) w1_175 rfl rfl rfl rfl rfl (Nat.le_of_ble_eq_true rfl) loc_pI (wce_pI.trans rfl) dX6_hedgeHears_71 (fun w9 H locs e hP hS => ?_)
          have h := sq_at h e
          refine lv_iload_n hx hb dX6_hedgeHears_74 rfl (lv_at hl 4 rfl) ?_
          refine lv_aload hx hb dX6_hedgeHears_75 (lv_at hl 0 rfl) ?_
          refine k_get (ci := 2) (v := .int (gI w9 22 k3 0)) hx hb hts hE inX3 hown hP (hp_sh hP hF k3 22 (of_decide_eq_true g4)) (by decide) rfl rfl 0 (by decide) w1_168 rfl rfl dX6_hedgeHears_77 ?_
          refine lv_isub hx hb dX6_hedgeHears_80 ?_
          refine lv_iconst (v := 1) hx hb dX6_hedgeHears_81 (by decide) ?_
          refine lv_icmp_ge (tgt := 86) hx hb dX6_hedgeHears_82 (by decide) (fun cc => ?_) (fun cc => ?_)
          · have h := br_el h cc
            refine lv_iconst (v := 0) hx hb dX6_hedgeHears_86 (by decide) ?_
            refine lv_istore (i := 5) (lv' := [(5, .int 0), (4, .ref (adr (gB G) 22 k3)), (0, .ref (adr (gB G) 11 0)), (1, .ref (adr (gB G) 19 a1)), (2, .int a2), (3, .int a3)]) hx hb dX6_hedgeHears_87 hl (by decide) rfl (fun ls hl => ?_)
            obtain ⟨w14, hf, h⟩ := bd0_el h
            refine l_X6_hedgeHears_89 hC rfl hcs hF k3 (of_decide_eq_true g4) a2 a3 LF 0 w9 w14 hf _ _ _ hP hS (lv_sub hl [1, 2, 4, 5, 0] rfl) (fun H locs ls hP hS hl => ?_)
            exact e_v hx hb hr hlocks hP hS (Nat.le_of_ble_eq_true rfl) (Nat.le_of_ble_eq_true rfl) (so_el h) dX6_hedgeHears_124
          · have h := br_er h cc
            exact e_v hx hb hr hlocks hP hS (Nat.le_of_ble_eq_true rfl) (Nat.le_of_ble_eq_true rfl) (so_el h) dX6_hedgeHears_85
        · have h := br_er h cc
          refine lv_aload_n hx hb dX6_hedgeHears_32 rfl (lv_at hl 1 rfl) ?_
          refine k_get (ci := 4) (v := .ref (adr (gB G) 16 0)) hx hb hts hE inX6 hown hP (hp_sh hP hF 0 11 (by decide)) (by decide) rfl rfl 5 (by decide) w1_121 rfl rfl dX6_hedgeHears_33 ?_
          refine lv_iload_n hx hb dX6_hedgeHears_36 rfl (lv_at hl 3 rfl) ?_
          refine lv_iconst (v := 1) hx hb dX6_hedgeHears_37 (by decide) ?_
          obtain ⟨g15, h⟩ := gd_el h
          refine k_zast hx hb hE hP hS (hp_sh hP hF 0 16 (by decide)) (by decide) rfl rfl g15 dX6_hedgeHears_38 (fun w16 H locs e hP hS => ?_)
          have h := sq_at h e
          refine lv_aload_n hx hb dX6_hedgeHears_39 rfl (lv_at hl 2 rfl) ?_
          refine lv_dup hx hb dX6_hedgeHears_40 rfl ?_
          refine k_get (ci := 0) (v := .int (gI w16 19 a1 7)) hx hb hts hE inX1 hown hP (hp_sh hP hF a1 19 ha1) (by decide) rfl rfl 7 (by decide) w1_235 rfl rfl dX6_hedgeHears_41 ?_
          refine lv_iconst (v := 1) hx hb dX6_hedgeHears_44 (by decide) ?_
          refine lv_iadd hx hb dX6_hedgeHears_45 ?_
          refine k_put (ci := 0) (ty := .int) (v := .int ((gI w16 19 a1 7) + 1)) (w1 := pI w16 19 a1 7 ((gI w16 19 a1 7) + 1)) hx hb hts hE inX1 tyX1 tyX1_ok nmX1 hown hP hS (hp_sh hP hF a1 19 ha1) (by decide) rfl rfl 7 (by decide) w1_235 rfl rfl rfl rfl rfl (Nat.le_of_ble_eq_true rfl) loc_pI (wce_pI.trans rfl) dX6_hedgeHears_46 (fun w17 H locs e hP hS => ?_)
          have h := sq_at h e
          exact e_v hx hb hr hlocks hP hS (Nat.le_of_ble_eq_true rfl) (Nat.le_of_ble_eq_true rfl) (so_el h) dX6_hedgeHears_49
      · have h := br_er h cc
        exact e_v hx hb hr hlocks hP hS (Nat.le_of_ble_eq_true rfl) (Nat.le_of_ble_eq_true rfl) (so_el h) dX6_hedgeHears_22

def f_X6_carry_L3 (z1 : Nat) (z2 : Int32) (z3 : Int32) : Nat → Int32 → Mm → Option (Mm)
  | 0, _, _ => none
  | n + 1, u4, w => br (8 ≤ u4) (some w) (gd (vB u4 8) (sq (pI w 15 0 u4.toNatClampNeg 0) (fun w2 => gd (vB u4 8) (sq (pI w2 16 0 u4.toNatClampNeg (vp_nar .boolean 0)) (fun w4 => sq (u4 + 1) (fun x5 => f_X6_carry_L3 z1 z2 z3 n x5 w4))))))

def f_X6_carry_L47 (z1 : Nat) : Nat → Int32 → Mm → Option (Mm)
  | 0, _, _ => none
  | n + 1, u4, w => br (128 ≤ u4) (some w) (br ((gI w 11 0 3) ≤ u4) (some w) (gd (vB u4 128) (br (8 ≤ (gI w 13 0 u4.toNatClampNeg)) (gd (vB u4 128) (gd (vB u4 128) (gd (vB u4 128) (bd0 (f_X1_roseHears z1 (gI w 13 0 u4.toNatClampNeg) (gI w 12 0 u4.toNatClampNeg) (gI w 14 0 u4.toNatClampNeg) w) (fun w13 => sq (u4 + 1) (fun x14 => f_X6_carry_L47 z1 n x14 w13)))))) (gd (vB u4 128) (gd (vB u4 128) (bd0 (f_X6_hedgeHears z1 (gI w 13 0 u4.toNatClampNeg) (gI w 14 0 u4.toNatClampNeg) w) (fun w17 => sq (u4 + 1) (fun x18 => f_X6_carry_L47 z1 n x18 w17))))))))

def f_X6_carry (a1 : Nat) (a2 : Int32) (a3 : Int32) (w : Mm) : Option (Int32 × Mm) := bd0 (f_X6_carry_L3 a1 a2 a3 LF 0 w) (fun w6 => sq (pI w6 11 0 3 0) (fun w7 => bd0 (f_X6_hedgeHears a1 a2 a3 w7) (fun w8 => bd0 (f_X6_carry_L47 a1 LF 0 w8) (fun w19 => sq (pI w19 19 a1 6 ((gI w19 19 a1 6) + (gI w19 11 0 3))) (fun w20 => some (gI w20 11 0 3, w20))))))

theorem miX6_carry : MI RX6 yX6_carry cX6_carry 5 (some .int) 3 := ⟨w4_88, w4_89, w1_7, w4_90, rfl, by decide +kernel, by decide +kernel, by decide +kernel⟩
set_option maxHeartbeats 4000000 in
set_option maxRecDepth 100000 in
theorem l_X6_carry_3 {p : Program} {l : Launch} {e : Env} {R : Room} {s : State} {m : MethodId} {args : Array Value} {below : List Frame} {meth : Method} {c : Code} {cells slots : Nat} {Q : State → Prop} {G : GG} (hC : CX p s m args c meth G cX6_carry 5 (some .int) RX6) (hR : R = { frames := 3, cells := 0, slots := 0, locals := 69 }) (hcs : cells ≤ R.cells ∧ slots ≤ R.slots) (hF : gF G = true) (z1 : Nat) (hz1 : z1 < cnt 19) (z2 : Int32) (z3 : Int32) : ∀ (n : Nat) (u4 : Int32) (w : Mm) (w' : Mm), f_X6_carry_L3 z1 z2 z3 n u4 w = some w' → ∀ (H : Heap) (locs : List Loc) (ls : Array Slot), HP G w H → va_S (Ab G) s.heap H locs → lv_has ls 5 [(0, .ref (adr (gB G) 11 0)), (1, .ref (adr (gB G) 19 z1)), (2, .int z2), (3, .int z3), (4, .int u4)] → (∀ (H : Heap) (locs : List Loc) (ls : Array Slot), HP G w' H → va_S (Ab G) s.heap H locs → lv_has ls 5 [(0, .ref (adr (gB G) 11 0)), (1, .ref (adr (gB G) 19 z1)), (2, .int z2), (3, .int z3)] → W p l e R s m args below meth c H locs cells slots Q (F0 m 32 ls [])) → W p l e R s m args below meth c H locs cells slots Q (F0 m 3 ls []) := by
  subst hR
  obtain ⟨hx, hb, hml, hr, hown, hlocks, hts, hE⟩ := id hC
  intro n
  induction n with
  | zero =>
    intro u4 w w' h
    rw [f_X6_carry_L3] at h
    cases h
  | succ n ih =>
    intro u4 w w' h H locs ls hP hS hl k0
    rw [f_X6_carry_L3] at h
    refine lv_iload hx hb dX6_carry_3 (lv_at hl 4 rfl) ?_
    refine lv_bipush (v := 8) hx hb dX6_carry_5 (by decide) ?_
    refine lv_icmp_ge (tgt := 32) hx hb dX6_carry_7 (by decide) (fun cc => ?_) (fun cc => ?_)
    · have h := br_el h cc
      cases h
      exact k0 _ _ _ hP hS (lv_sub hl [0, 1, 2, 3] rfl)
    · have h := br_er h cc
      refine lv_aload_n hx hb dX6_carry_10 rfl (lv_at hl 0 rfl) ?_
      refine k_get (ci := 4) (v := .ref (adr (gB G) 15 0)) hx hb hts hE inX6 hown hP (hp_sh hP hF 0 11 (by decide)) (by decide) rfl rfl 4 (by decide) w1_120 rfl rfl dX6_carry_11 ?_
      refine lv_iload hx hb dX6_carry_14 (lv_at hl 4 rfl) ?_
      refine lv_iconst (v := 0) hx hb dX6_carry_16 (by decide) ?_
      obtain ⟨g1, h⟩ := gd_el h
      refine k_iast hx hb hE hP hS (hp_sh hP hF 0 15 (by decide)) (by decide) rfl rfl g1 dX6_carry_17 (fun w2 H locs e hP hS => ?_)
      have h := sq_at h e
      refine lv_aload_n hx hb dX6_carry_18 rfl (lv_at hl 0 rfl) ?_
      refine k_get (ci := 4) (v := .ref (adr (gB G) 16 0)) hx hb hts hE inX6 hown hP (hp_sh hP hF 0 11 (by decide)) (by decide) rfl rfl 5 (by decide) w1_121 rfl rfl dX6_carry_19 ?_
      refine lv_iload hx hb dX6_carry_22 (lv_at hl 4 rfl) ?_
      refine lv_iconst (v := 0) hx hb dX6_carry_24 (by decide) ?_
      obtain ⟨g3, h⟩ := gd_el h
      refine k_zast hx hb hE hP hS (hp_sh hP hF 0 16 (by decide)) (by decide) rfl rfl g3 dX6_carry_25 (fun w4 H locs e hP hS => ?_)
      have h := sq_at h e
      obtain ⟨x5, e⟩ : ∃ z : Int32, z = u4 + 1 := ⟨_, rfl⟩
      have h := sq_at h e
      refine lv_iinc (v := x5) (lv' := [(4, .int x5), (0, .ref (adr (gB G) 11 0)), (1, .ref (adr (gB G) 19 z1)), (2, .int z2), (3, .int z3)]) hx hb dX6_carry_26 hl (k := 4) rfl (by rw [e]; rfl) (by decide) rfl (fun ls hl => ?_)
      refine lv_goto (tgt := 3) hx hb dX6_carry_29 (by decide) ?_
      exact ih x5 w4 w' h _ _ _ hP hS (lv_sub hl [1, 2, 3, 4, 0] rfl) k0

set_option maxHeartbeats 4000000 in
set_option maxRecDepth 100000 in
theorem l_X6_carry_47 {p : Program} {l : Launch} {e : Env} {R : Room} {s : State} {m : MethodId} {args : Array Value} {below : List Frame} {meth : Method} {c : Code} {cells slots : Nat} {Q : State → Prop} {G : GG} (hC : CX p s m args c meth G cX6_carry 5 (some .int) RX6) (hR : R = { frames := 3, cells := 0, slots := 0, locals := 69 }) (hcs : cells ≤ R.cells ∧ slots ≤ R.slots) (hF : gF G = true) (z1 : Nat) (hz1 : z1 < cnt 19) : ∀ (n : Nat) (u4 : Int32) (w : Mm) (w' : Mm), f_X6_carry_L47 z1 n u4 w = some w' → ∀ (H : Heap) (locs : List Loc) (ls : Array Slot), HP G w H → va_S (Ab G) s.heap H locs → lv_has ls 5 [(0, .ref (adr (gB G) 11 0)), (1, .ref (adr (gB G) 19 z1)), (4, .int u4)] → (∀ (H : Heap) (locs : List Loc) (ls : Array Slot), HP G w' H → va_S (Ab G) s.heap H locs → lv_has ls 5 [(0, .ref (adr (gB G) 11 0)), (1, .ref (adr (gB G) 19 z1))] → W p l e R s m args below meth c H locs cells slots Q (F0 m 129 ls [])) → W p l e R s m args below meth c H locs cells slots Q (F0 m 47 ls []) := by
  subst hR
  obtain ⟨hx, hb, hml, hr, hown, hlocks, hts, hE⟩ := id hC
  intro n
  induction n with
  | zero =>
    intro u4 w w' h
    rw [f_X6_carry_L47] at h
    cases h
  | succ n ih =>
    intro u4 w w' h H locs ls hP hS hl k0
    rw [f_X6_carry_L47] at h
    refine lv_iload hx hb dX6_carry_47 (lv_at hl 2 rfl) ?_
    refine lv_sipush (v := 128) hx hb dX6_carry_49 (by decide) ?_
    refine lv_icmp_ge (tgt := 129) hx hb dX6_carry_52 (by decide) (fun cc => ?_) (fun cc => ?_)
    · have h := br_el h cc
      cases h
      exact k0 _ _ _ hP hS (lv_sub hl [0, 1] rfl)
    · have h := br_er h cc
      refine lv_iload hx hb dX6_carry_55 (lv_at hl 2 rfl) ?_
      refine lv_aload_n hx hb dX6_carry_57 rfl (lv_at hl 0 rfl) ?_
      refine k_get (ci := 4) (v := .int (gI w 11 0 3)) hx hb hts hE inX6 hown hP (hp_sh hP hF 0 11 (by decide)) (by decide) rfl rfl 3 (by decide) w1_119 rfl rfl dX6_carry_58 ?_
      refine lv_icmp_ge (tgt := 129) hx hb dX6_carry_61 (by decide) (fun cc => ?_) (fun cc => ?_)
      · have h := br_el h cc
        cases h
        exact k0 _ _ _ hP hS (lv_sub hl [0, 1] rfl)
      · have h := br_er h cc
        refine lv_aload_n hx hb dX6_carry_64 rfl (lv_at hl 0 rfl) ?_
        refine k_get (ci := 4) (v := .ref (adr (gB G) 13 0)) hx hb hts hE inX6 hown hP (hp_sh hP hF 0 11 (by decide)) (by decide) rfl rfl 1 (by decide) w1_117 rfl rfl dX6_carry_65 ?_
        refine lv_iload hx hb dX6_carry_68 (lv_at hl 2 rfl) ?_
        obtain ⟨g9, h⟩ := gd_el h
        refine k_iald hx hb hE hP (hp_sh hP hF 0 13 (by decide)) (by decide) rfl g9 dX6_carry_70 ?_
        refine lv_bipush (v := 8) hx hb dX6_carry_71 (by decide) ?_
        refine lv_icmp_ge (tgt := 98) hx hb dX6_carry_73 (by decide) (fun cc => ?_) (fun cc => ?_)
        · have h := br_el h cc
          refine lv_aload_n hx hb dX6_carry_98 rfl (lv_at hl 1 rfl) ?_
          refine lv_aload_n hx hb dX6_carry_99 rfl (lv_at hl 0 rfl) ?_
          refine k_get (ci := 4) (v := .ref (adr (gB G) 13 0)) hx hb hts hE inX6 hown hP (hp_sh hP hF 0 11 (by decide)) (by decide) rfl rfl 1 (by decide) w1_117 rfl rfl dX6_carry_100 ?_
          refine lv_iload hx hb dX6_carry_103 (lv_at hl 2 rfl) ?_
          obtain ⟨g10, h⟩ := gd_el h
          refine k_iald hx hb hE hP (hp_sh hP hF 0 13 (by decide)) (by decide) rfl g10 dX6_carry_105 ?_
          refine lv_aload_n hx hb dX6_carry_106 rfl (lv_at hl 0 rfl) ?_
          refine k_get (ci := 4) (v := .ref (adr (gB G) 12 0)) hx hb hts hE inX6 hown hP (hp_sh hP hF 0 11 (by decide)) (by decide) rfl rfl 0 (by decide) w1_116 rfl rfl dX6_carry_107 ?_
          refine lv_iload hx hb dX6_carry_110 (lv_at hl 2 rfl) ?_
          obtain ⟨g11, h⟩ := gd_el h
          refine k_iald hx hb hE hP (hp_sh hP hF 0 12 (by decide)) (by decide) rfl g11 dX6_carry_112 ?_
          refine lv_aload_n hx hb dX6_carry_113 rfl (lv_at hl 0 rfl) ?_
          refine k_get (ci := 4) (v := .ref (adr (gB G) 14 0)) hx hb hts hE inX6 hown hP (hp_sh hP hF 0 11 (by decide)) (by decide) rfl rfl 2 (by decide) w1_118 rfl rfl dX6_carry_114 ?_
          refine lv_iload hx hb dX6_carry_117 (lv_at hl 2 rfl) ?_
          obtain ⟨g12, h⟩ := gd_el h
          refine k_iald hx hb hE hP (hp_sh hP hF 0 14 (by decide)) (by decide) rfl g12 dX6_carry_119 ?_
          obtain ⟨w13, hf, h⟩ := bd0_el h
          refine c_onv (c_runV (b := adr (gB G) 19 z1) (As := [.int (gI w 13 0 u4.toNatClampNeg), .int (gI w 12 0 u4.toNatClampNeg), .int (gI w 14 0 u4.toNatClampNeg)]) (rest := []) hx hb hml hown hts hE hP hS (c_X1_roseHears l G hF z1 hz1 (gI w 13 0 u4.toNatClampNeg) (gI w 12 0 u4.toNatClampNeg) (gI w 14 0 u4.toNatClampNeg) w w13 hf) (c_rec hE hP (hp_sh hP hF z1 19 hz1) (by decide) rfl rfl) w4_107 miX1_roseHears ⟨Nat.le_of_ble_eq_true rfl, Nat.le_of_ble_eq_true rfl⟩ rfl hl.1 rfl (Nat.le_of_ble_eq_true rfl) dX6_carry_120 hcs) hS (fun H locs hP hS => ?_)
          obtain ⟨x14, e⟩ : ∃ z : Int32, z = u4 + 1 := ⟨_, rfl⟩
          have h := sq_at h e
          refine lv_iinc (v := x14) (lv' := [(4, .int x14), (0, .ref (adr (gB G) 11 0)), (1, .ref (adr (gB G) 19 z1))]) hx hb dX6_carry_123 hl (k := 2) rfl (by rw [e]; rfl) (by decide) rfl (fun ls hl => ?_)
          refine lv_goto (tgt := 47) hx hb dX6_carry_126 (by decide) ?_
          exact ih x14 w13 w' h _ _ _ hP hS (lv_sub hl [1, 2, 0] rfl) k0
        · have h := br_er h cc
          refine lv_aload_n hx hb dX6_carry_76 rfl (lv_at hl 0 rfl) ?_
          refine lv_aload_n hx hb dX6_carry_77 rfl (lv_at hl 1 rfl) ?_
          refine lv_aload_n hx hb dX6_carry_78 rfl (lv_at hl 0 rfl) ?_
          refine k_get (ci := 4) (v := .ref (adr (gB G) 13 0)) hx hb hts hE inX6 hown hP (hp_sh hP hF 0 11 (by decide)) (by decide) rfl rfl 1 (by decide) w1_117 rfl rfl dX6_carry_79 ?_
          refine lv_iload hx hb dX6_carry_82 (lv_at hl 2 rfl) ?_
          obtain ⟨g15, h⟩ := gd_el h
          refine k_iald hx hb hE hP (hp_sh hP hF 0 13 (by decide)) (by decide) rfl g15 dX6_carry_84 ?_
          refine lv_aload_n hx hb dX6_carry_85 rfl (lv_at hl 0 rfl) ?_
          refine k_get (ci := 4) (v := .ref (adr (gB G) 14 0)) hx hb hts hE inX6 hown hP (hp_sh hP hF 0 11 (by decide)) (by decide) rfl rfl 2 (by decide) w1_118 rfl rfl dX6_carry_86 ?_
          refine lv_iload hx hb dX6_carry_89 (lv_at hl 2 rfl) ?_
          obtain ⟨g16, h⟩ := gd_el h
          refine k_iald hx hb hE hP (hp_sh hP hF 0 14 (by decide)) (by decide) rfl g16 dX6_carry_91 ?_
          obtain ⟨w17, hf, h⟩ := bd0_el h
          refine c_onv (c_runV (b := adr (gB G) 11 0) (As := [.ref (adr (gB G) 19 z1), .int (gI w 13 0 u4.toNatClampNeg), .int (gI w 14 0 u4.toNatClampNeg)]) (rest := []) hx hb hml hown hts hE hP hS (c_X6_hedgeHears l G hF z1 hz1 (gI w 13 0 u4.toNatClampNeg) (gI w 14 0 u4.toNatClampNeg) w w17 hf) (c_rec hE hP (hp_sh hP hF 0 11 (by decide)) (by decide) rfl rfl) w4_91 miX6_hedgeHears ⟨Nat.le_of_ble_eq_true rfl, Nat.le_of_ble_eq_true rfl⟩ rfl hl.1 rfl (Nat.le_of_ble_eq_true rfl) dX6_carry_92 hcs) hS (fun H locs hP hS => ?_)
          refine lv_goto (tgt := 123) hx hb dX6_carry_95 (by decide) ?_
          obtain ⟨x18, e⟩ : ∃ z : Int32, z = u4 + 1 := ⟨_, rfl⟩
          have h := sq_at h e
          refine lv_iinc (v := x18) (lv' := [(4, .int x18), (0, .ref (adr (gB G) 11 0)), (1, .ref (adr (gB G) 19 z1))]) hx hb dX6_carry_123 hl (k := 2) rfl (by rw [e]; rfl) (by decide) rfl (fun ls hl => ?_)
          refine lv_goto (tgt := 47) hx hb dX6_carry_126 (by decide) ?_
          exact ih x18 w17 w' h _ _ _ hP hS (lv_sub hl [1, 2, 0] rfl) k0

set_option maxHeartbeats 4000000 in
set_option maxRecDepth 100000 in
theorem c_X6_carry (l : Launch) (G : GG) (hF : gF G = true) (a1 : Nat) (ha1 : a1 < cnt 19) (a2 : Int32) (a3 : Int32) (w : Mm) (r : Int32) (w' : Mm) (h : f_X6_carry a1 a2 a3 w = some (r, w')) : Ki l G yX6_carry cX6_carry 5 (some .int) { frames := 3, cells := 0, slots := 0, locals := 69 } [.ref (adr (gB G) 11 0), .ref (adr (gB G) 19 a1), .int a2, .int a3] w r w' := by
  refine k_of (by decide +kernel) (Nat.le_of_ble_eq_true rfl) ?_
  intro p e s m args below meth c ls hx hb hml hr hown hlocks hts hin hP hE hl
  have hC : CX p s m args c meth G cX6_carry 5 (some .int) RX6 := ⟨hx, hb, hml, hr, hown, hlocks, hts, hE⟩
  have hS : va_S (Ab G) s.heap s.heap [] := va_S.rf
  have hcs : 0 ≤ 0 ∧ 0 ≤ 0 := ⟨Nat.zero_le _, Nat.zero_le _⟩
  have hl : lv_has ls 5 [(0, .ref (adr (gB G) 11 0)), (1, .ref (adr (gB G) 19 a1)), (2, .int a2), (3, .int a3)] := hl
  unfold f_X6_carry at h
  refine lv_iconst (v := 0) hx hb dX6_carry_0 (by decide) ?_
  refine lv_istore (i := 4) (lv' := [(4, .int 0), (0, .ref (adr (gB G) 11 0)), (1, .ref (adr (gB G) 19 a1)), (2, .int a2), (3, .int a3)]) hx hb dX6_carry_1 hl (by decide) rfl (fun ls hl => ?_)
  obtain ⟨w6, hf, h⟩ := bd0_el h
  refine l_X6_carry_3 hC rfl hcs hF a1 ha1 a2 a3 LF 0 w w6 hf _ _ _ hP hS (lv_sub hl [1, 2, 3, 4, 0] rfl) (fun H locs ls hP hS hl => ?_)
  refine lv_aload_n hx hb dX6_carry_32 rfl (lv_at hl 0 rfl) ?_
  refine lv_iconst (v := 0) hx hb dX6_carry_33 (by decide) ?_
  refine k_put (ci := 4) (ty := .int) (v := .int 0) (w1 := pI w6 11 0 3 0) hx hb hts hE inX6 tyX6 tyX6_ok nmX6 hown hP hS (hp_sh hP hF 0 11 (by decide)) (by decide) rfl rfl 3 (by decide) w1_119 rfl rfl rfl rfl rfl (Nat.le_of_ble_eq_true rfl) loc_pI (wce_pI.trans rfl) dX6_carry_34 (fun w7 H locs e hP hS => ?_)
  have h := sq_at h e
  refine lv_aload_n hx hb dX6_carry_37 rfl (lv_at hl 0 rfl) ?_
  refine lv_aload_n hx hb dX6_carry_38 rfl (lv_at hl 1 rfl) ?_
  refine lv_iload_n hx hb dX6_carry_39 rfl (lv_at hl 2 rfl) ?_
  refine lv_iload_n hx hb dX6_carry_40 rfl (lv_at hl 3 rfl) ?_
  obtain ⟨w8, hf, h⟩ := bd0_el h
  refine c_onv (c_runV (b := adr (gB G) 11 0) (As := [.ref (adr (gB G) 19 a1), .int a2, .int a3]) (rest := []) hx hb hml hown hts hE hP hS (c_X6_hedgeHears l G hF a1 ha1 a2 a3 w7 w8 hf) (c_rec hE hP (hp_sh hP hF 0 11 (by decide)) (by decide) rfl rfl) w4_91 miX6_hedgeHears ⟨Nat.le_of_ble_eq_true rfl, Nat.le_of_ble_eq_true rfl⟩ rfl hl.1 rfl (Nat.le_of_ble_eq_true rfl) dX6_carry_41 hcs) hS (fun H locs hP hS => ?_)
  refine lv_iconst (v := 0) hx hb dX6_carry_44 (by decide) ?_
  refine lv_istore (i := 4) (lv' := [(4, .int 0), (0, .ref (adr (gB G) 11 0)), (1, .ref (adr (gB G) 19 a1)), (2, .int a2), (3, .int a3)]) hx hb dX6_carry_45 hl (by decide) rfl (fun ls hl => ?_)
  obtain ⟨w19, hf, h⟩ := bd0_el h
  refine l_X6_carry_47 hC rfl hcs hF a1 ha1 LF 0 w8 w19 hf _ _ _ hP hS (lv_sub hl [1, 2, 0] rfl) (fun H locs ls hP hS hl => ?_)
  refine lv_aload_n hx hb dX6_carry_129 rfl (lv_at hl 1 rfl) ?_
  refine lv_dup hx hb dX6_carry_130 rfl ?_
  refine k_get (ci := 0) (v := .int (gI w19 19 a1 6)) hx hb hts hE inX1 hown hP (hp_sh hP hF a1 19 ha1) (by decide) rfl rfl 6 (by decide) w1_231 rfl rfl dX6_carry_131 ?_
  refine lv_aload_n hx hb dX6_carry_134 rfl (lv_at hl 0 rfl) ?_
  refine k_get (ci := 4) (v := .int (gI w19 11 0 3)) hx hb hts hE inX6 hown hP (hp_sh hP hF 0 11 (by decide)) (by decide) rfl rfl 3 (by decide) w1_119 rfl rfl dX6_carry_135 ?_
  refine lv_iadd hx hb dX6_carry_138 ?_
  refine k_put (ci := 0) (ty := .int) (v := .int ((gI w19 19 a1 6) + (gI w19 11 0 3))) (w1 := pI w19 19 a1 6 ((gI w19 19 a1 6) + (gI w19 11 0 3))) hx hb hts hE inX1 tyX1 tyX1_ok nmX1 hown hP hS (hp_sh hP hF a1 19 ha1) (by decide) rfl rfl 6 (by decide) w1_231 rfl rfl rfl rfl rfl (Nat.le_of_ble_eq_true rfl) loc_pI (wce_pI.trans rfl) dX6_carry_139 (fun w20 H locs e hP hS => ?_)
  have h := sq_at h e
  refine lv_aload_n hx hb dX6_carry_142 rfl (lv_at hl 0 rfl) ?_
  refine k_get (ci := 4) (v := .int (gI w20 11 0 3)) hx hb hts hE inX6 hown hP (hp_sh hP hF 0 11 (by decide)) (by decide) rfl rfl 3 (by decide) w1_119 rfl rfl dX6_carry_143 ?_
  exact e_i hx hb hr rfl hlocks hP hS (Nat.le_of_ble_eq_true rfl) (Nat.le_of_ble_eq_true rfl) (Prod.mk.inj (so_el h)) dX6_carry_146

def f_X1_endDay_L2 (z0 : Nat) : Nat → Int32 → Mm → Option (Mm)
  | 0, _, _ => none
  | n + 1, u1, w => br (8 ≤ u1) (some w) (gd (vB u1 8) (br ((gI w 24 (8 * z0 + u1.toNatClampNeg) 1) ≤ 0) (sq (u1 + 1) (fun x2 => f_X1_endDay_L2 z0 n x2 w)) (gd (vB u1 8) (sq (pI w 24 (8 * z0 + u1.toNatClampNeg) 1 ((gI w 24 (8 * z0 + u1.toNatClampNeg) 1) - 1)) (fun w4 => sq (u1 + 1) (fun x5 => f_X1_endDay_L2 z0 n x5 w4))))))

def f_X1_endDay (a0 : Nat) (w : Mm) : Option (Mm) := bd0 (f_X1_endDay_L2 a0 LF 0 w) (fun w6 => sq (pI w6 19 a0 4 ((gI w6 19 a0 4) + 1)) (fun w7 => some w7))

theorem miX1_endDay : MI RX1 yX1_endDay cX1_endDay 2 none 0 := ⟨w5_160, w5_161, w1_9, w5_162, rfl, by decide +kernel, by decide +kernel, by decide +kernel⟩
set_option maxHeartbeats 4000000 in
set_option maxRecDepth 100000 in
theorem l_X1_endDay_2 {p : Program} {l : Launch} {e : Env} {R : Room} {s : State} {m : MethodId} {args : Array Value} {below : List Frame} {meth : Method} {c : Code} {cells slots : Nat} {Q : State → Prop} {G : GG} (hC : CX p s m args c meth G cX1_endDay 2 none RX1) (hR : R = { frames := 0, cells := 0, slots := 0, locals := 0 }) (hcs : cells ≤ R.cells ∧ slots ≤ R.slots) (hF : gF G = true) (z0 : Nat) (hz0 : z0 < cnt 19) : ∀ (n : Nat) (u1 : Int32) (w : Mm) (w' : Mm), f_X1_endDay_L2 z0 n u1 w = some w' → ∀ (H : Heap) (locs : List Loc) (ls : Array Slot), HP G w H → va_S (Ab G) s.heap H locs → lv_has ls 2 [(0, .ref (adr (gB G) 19 z0)), (1, .int u1)] → (∀ (H : Heap) (locs : List Loc) (ls : Array Slot), HP G w' H → va_S (Ab G) s.heap H locs → lv_has ls 2 [(0, .ref (adr (gB G) 19 z0))] → W p l e R s m args below meth c H locs cells slots Q (F0 m 44 ls [])) → W p l e R s m args below meth c H locs cells slots Q (F0 m 2 ls []) := by
  subst hR
  obtain ⟨hx, hb, hml, hr, hown, hlocks, hts, hE⟩ := id hC
  intro n
  induction n with
  | zero =>
    intro u1 w w' h
    rw [f_X1_endDay_L2] at h
    cases h
  | succ n ih =>
    intro u1 w w' h H locs ls hP hS hl k0
    rw [f_X1_endDay_L2] at h
    refine lv_iload_n hx hb dX1_endDay_2 rfl (lv_at hl 1 rfl) ?_
    refine lv_aload_n hx hb dX1_endDay_3 rfl (lv_at hl 0 rfl) ?_
    refine k_get (ci := 0) (v := .ref (adr (gB G) 21 z0)) hx hb hts hE inX1 hown hP (hp_sh hP hF z0 19 hz0) (by decide) rfl rfl 1 (by decide) w1_220 rfl rfl dX1_endDay_4 ?_
    refine k_alen (v := 8) hx hb hE hP (hp_sh hP hF z0 21 hz0) (by decide) rfl 5 rfl rfl dX1_endDay_7 ?_
    refine lv_icmp_ge (tgt := 44) hx hb dX1_endDay_8 (by decide) (fun cc => ?_) (fun cc => ?_)
    · have h := br_el h cc
      cases h
      exact k0 _ _ _ hP hS (lv_sub hl [0] rfl)
    · have h := br_er h cc
      refine lv_aload_n hx hb dX1_endDay_11 rfl (lv_at hl 0 rfl) ?_
      refine k_get (ci := 0) (v := .ref (adr (gB G) 21 z0)) hx hb hts hE inX1 hown hP (hp_sh hP hF z0 19 hz0) (by decide) rfl rfl 1 (by decide) w1_220 rfl rfl dX1_endDay_12 ?_
      refine lv_iload_n hx hb dX1_endDay_15 rfl (lv_at hl 1 rfl) ?_
      obtain ⟨g1, h⟩ := gd_el h
      refine k_aald (t0 := 5) hx hb hE hP (hp_sh hP hF z0 21 hz0) (by decide) rfl rfl g1 dX1_endDay_16 ?_
      refine k_aref (b0 := gB G) (c0 := 24) (k0 := z0) g1 (by decide) ?_
      refine k_get (ci := 7) (v := .int (gI w 24 (8 * z0 + u1.toNatClampNeg) 1)) hx hb hts hE inX9 hown hP (hp_sh hP hF (8 * z0 + u1.toNatClampNeg) 24 (key8 hz0 g1)) (by decide) rfl rfl 1 (by decide) w1_202 rfl rfl dX1_endDay_17 ?_
      refine lv_if_le (tgt := 38) hx hb dX1_endDay_20 (by decide) (fun cc => ?_) (fun cc => ?_)
      · have h := br_el h cc
        obtain ⟨x2, e⟩ : ∃ z : Int32, z = u1 + 1 := ⟨_, rfl⟩
        have h := sq_at h e
        refine lv_iinc (v := x2) (lv' := [(1, .int x2), (0, .ref (adr (gB G) 19 z0))]) hx hb dX1_endDay_38 hl (k := 1) rfl (by rw [e]; rfl) (by decide) rfl (fun ls hl => ?_)
        refine lv_goto (tgt := 2) hx hb dX1_endDay_41 (by decide) ?_
        exact ih x2 w w' h _ _ _ hP hS (lv_sub hl [1, 0] rfl) k0
      · have h := br_er h cc
        refine lv_aload_n hx hb dX1_endDay_23 rfl (lv_at hl 0 rfl) ?_
        refine k_get (ci := 0) (v := .ref (adr (gB G) 21 z0)) hx hb hts hE inX1 hown hP (hp_sh hP hF z0 19 hz0) (by decide) rfl rfl 1 (by decide) w1_220 rfl rfl dX1_endDay_24 ?_
        refine lv_iload_n hx hb dX1_endDay_27 rfl (lv_at hl 1 rfl) ?_
        obtain ⟨g3, h⟩ := gd_el h
        refine k_aald (t0 := 5) hx hb hE hP (hp_sh hP hF z0 21 hz0) (by decide) rfl rfl g3 dX1_endDay_28 ?_
        refine k_aref (b0 := gB G) (c0 := 24) (k0 := z0) g3 (by decide) ?_
        refine lv_dup hx hb dX1_endDay_29 rfl ?_
        refine k_get (ci := 7) (v := .int (gI w 24 (8 * z0 + u1.toNatClampNeg) 1)) hx hb hts hE inX9 hown hP (hp_sh hP hF (8 * z0 + u1.toNatClampNeg) 24 (key8 hz0 g3)) (by decide) rfl rfl 1 (by decide) w1_202 rfl rfl dX1_endDay_30 ?_
        refine lv_iconst (v := 1) hx hb dX1_endDay_33 (by decide) ?_
        refine lv_isub hx hb dX1_endDay_34 ?_
        refine k_put (ci := 7) (ty := .int) (v := .int ((gI w 24 (8 * z0 + u1.toNatClampNeg) 1) - 1)) (w1 := pI w 24 (8 * z0 + u1.toNatClampNeg) 1 ((gI w 24 (8 * z0 + u1.toNatClampNeg) 1) - 1)) hx hb hts hE inX9 tyX9 tyX9_ok nmX9 hown hP hS (hp_sh hP hF (8 * z0 + u1.toNatClampNeg) 24 (key8 hz0 g3)) (by decide) rfl rfl 1 (by decide) w1_202 rfl rfl rfl rfl rfl (Nat.le_of_ble_eq_true rfl) loc_pI (wce_pI.trans rfl) dX1_endDay_35 (fun w4 H locs e hP hS => ?_)
        have h := sq_at h e
        obtain ⟨x5, e⟩ : ∃ z : Int32, z = u1 + 1 := ⟨_, rfl⟩
        have h := sq_at h e
        refine lv_iinc (v := x5) (lv' := [(1, .int x5), (0, .ref (adr (gB G) 19 z0))]) hx hb dX1_endDay_38 hl (k := 1) rfl (by rw [e]; rfl) (by decide) rfl (fun ls hl => ?_)
        refine lv_goto (tgt := 2) hx hb dX1_endDay_41 (by decide) ?_
        exact ih x5 w4 w' h _ _ _ hP hS (lv_sub hl [1, 0] rfl) k0

set_option maxHeartbeats 4000000 in
set_option maxRecDepth 100000 in
theorem c_X1_endDay (l : Launch) (G : GG) (hF : gF G = true) (a0 : Nat) (ha0 : a0 < cnt 19) (w : Mm) (w' : Mm) (h : f_X1_endDay a0 w = some w') : Kv l G yX1_endDay cX1_endDay 2 none { frames := 0, cells := 0, slots := 0, locals := 0 } [.ref (adr (gB G) 19 a0)] w w' := by
  refine k_of (by decide +kernel) (Nat.le_of_ble_eq_true rfl) ?_
  intro p e s m args below meth c ls hx hb hml hr hown hlocks hts hin hP hE hl
  have hC : CX p s m args c meth G cX1_endDay 2 none RX1 := ⟨hx, hb, hml, hr, hown, hlocks, hts, hE⟩
  have hS : va_S (Ab G) s.heap s.heap [] := va_S.rf
  have hcs : 0 ≤ 0 ∧ 0 ≤ 0 := ⟨Nat.zero_le _, Nat.zero_le _⟩
  have hl : lv_has ls 2 [(0, .ref (adr (gB G) 19 a0))] := hl
  unfold f_X1_endDay at h
  refine lv_iconst (v := 0) hx hb dX1_endDay_0 (by decide) ?_
  refine lv_istore_n (i := 1) (lv' := [(1, .int 0), (0, .ref (adr (gB G) 19 a0))]) hx hb dX1_endDay_1 rfl hl (by decide) rfl (fun ls hl => ?_)
  obtain ⟨w6, hf, h⟩ := bd0_el h
  refine l_X1_endDay_2 hC rfl hcs hF a0 ha0 LF 0 w w6 hf _ _ _ hP hS (lv_sub hl [1, 0] rfl) (fun H locs ls hP hS hl => ?_)
  refine lv_aload_n hx hb dX1_endDay_44 rfl (lv_at hl 0 rfl) ?_
  refine lv_dup hx hb dX1_endDay_45 rfl ?_
  refine k_get (ci := 0) (v := .int (gI w6 19 a0 4)) hx hb hts hE inX1 hown hP (hp_sh hP hF a0 19 ha0) (by decide) rfl rfl 4 (by decide) w1_226 rfl rfl dX1_endDay_46 ?_
  refine lv_iconst (v := 1) hx hb dX1_endDay_49 (by decide) ?_
  refine lv_iadd hx hb dX1_endDay_50 ?_
  refine k_put (ci := 0) (ty := .int) (v := .int ((gI w6 19 a0 4) + 1)) (w1 := pI w6 19 a0 4 ((gI w6 19 a0 4) + 1)) hx hb hts hE inX1 tyX1 tyX1_ok nmX1 hown hP hS (hp_sh hP hF a0 19 ha0) (by decide) rfl rfl 4 (by decide) w1_226 rfl rfl rfl rfl rfl (Nat.le_of_ble_eq_true rfl) loc_pI (wce_pI.trans rfl) dX1_endDay_51 (fun w7 H locs e hP hS => ?_)
  have h := sq_at h e
  exact e_v hx hb hr hlocks hP hS (Nat.le_of_ble_eq_true rfl) (Nat.le_of_ble_eq_true rfl) (so_el h) dX1_endDay_54

def f_X1_heardAt (a0 : Nat) (a1 : Int32) (w : Mm) : Option (Int32 × Mm) := bd1 (f_X1_hedge a0 a1 w) (fun r1 w2 => on (r1) (some (0, w2)) (fun k3 => gd (decide (k3 < 16)) (some (gI w2 22 k3 1, w2))))

theorem miX1_heardAt : MI RX1 yX1_heardAt cX1_heardAt 3 (some .int) 1 := ⟨w5_120, w5_121, w1_9, w5_122, rfl, by decide +kernel, by decide +kernel, by decide +kernel⟩
set_option maxHeartbeats 4000000 in
set_option maxRecDepth 100000 in
theorem c_X1_heardAt (l : Launch) (G : GG) (hF : gF G = true) (a0 : Nat) (ha0 : a0 < cnt 19) (a1 : Int32) (w : Mm) (r : Int32) (w' : Mm) (h : f_X1_heardAt a0 a1 w = some (r, w')) : Ki l G yX1_heardAt cX1_heardAt 3 (some .int) { frames := 1, cells := 0, slots := 0, locals := 21 } [.ref (adr (gB G) 19 a0), .int a1] w r w' := by
  refine k_of (by decide +kernel) (Nat.le_of_ble_eq_true rfl) ?_
  intro p e s m args below meth c ls hx hb hml hr hown hlocks hts hin hP hE hl
  have hC : CX p s m args c meth G cX1_heardAt 3 (some .int) RX1 := ⟨hx, hb, hml, hr, hown, hlocks, hts, hE⟩
  have hS : va_S (Ab G) s.heap s.heap [] := va_S.rf
  have hcs : 0 ≤ 0 ∧ 0 ≤ 0 := ⟨Nat.zero_le _, Nat.zero_le _⟩
  have hl : lv_has ls 3 [(0, .ref (adr (gB G) 19 a0)), (1, .int a1)] := hl
  unfold f_X1_heardAt at h
  refine lv_aload_n hx hb dX1_heardAt_0 rfl (lv_at hl 0 rfl) ?_
  refine lv_iload_n hx hb dX1_heardAt_1 rfl (lv_at hl 1 rfl) ?_
  obtain ⟨r1, w2, hf, h⟩ := bd1_el h
  refine c_onq (c_runV (b := adr (gB G) 19 a0) (As := [.int a1]) (rest := []) hx hb hml hown hts hE hP hS (c_X1_hedge l G hF a0 ha0 a1 w r1 w2 hf) (c_rec hE hP (hp_sh hP hF a0 19 ha0) (by decide) rfl rfl) w4_115 miX1_hedge ⟨Nat.le_of_ble_eq_true rfl, Nat.le_of_ble_eq_true rfl⟩ rfl hl.1 rfl (Nat.le_of_ble_eq_true rfl) dX1_heardAt_2 hcs) hS (fun H locs hP hS => ?_)
  refine k_astore_n (i := 2) (lv' := [(2, va_rf (r1.map (adr (gB G) 22))), (0, .ref (adr (gB G) 19 a0)), (1, .int a1)]) hx hb dX1_heardAt_5 rfl hl (by decide) (by simp [kR, cat_rf, cat_ref, cat_int, cat_long, cat_null]) (fun ls hl => ?_)
  refine k_aload_n hx hb dX1_heardAt_6 rfl (lv_at hl 0 rfl) ?_
  rcases ho : r1 with _ | k3
  · have h := on_n h ho
    refine k_ifnonnull_n hx hb rfl dX1_heardAt_7 ?_
    rw [ho] at hl
    have hl : lv_has ls 3 [(2, .null), (0, .ref (adr (gB G) 19 a0)), (1, .int a1)] := hl
    refine lv_iconst (v := 0) hx hb dX1_heardAt_10 (by decide) ?_
    refine lv_goto (tgt := 18) hx hb dX1_heardAt_11 (by decide) ?_
    exact e_i hx hb hr rfl hlocks hP hS (Nat.le_of_ble_eq_true rfl) (Nat.le_of_ble_eq_true rfl) (Prod.mk.inj (so_el h)) dX1_heardAt_18
  · have h := on_s h ho
    obtain ⟨g4, h⟩ := gd_el h
    refine k_ifnonnull_s (tgt := 14) hx hb rfl dX1_heardAt_7 (by decide) ?_
    rw [ho] at hl
    have hl : lv_has ls 3 [(2, .ref (adr (gB G) 22 k3)), (0, .ref (adr (gB G) 19 a0)), (1, .int a1)] := hl
    refine lv_aload_n hx hb dX1_heardAt_14 rfl (lv_at hl 0 rfl) ?_
    refine k_get (ci := 2) (v := .int (gI w2 22 k3 1)) hx hb hts hE inX3 hown hP (hp_sh hP hF k3 22 (of_decide_eq_true g4)) (by decide) rfl rfl 1 (by decide) w1_173 rfl rfl dX1_heardAt_15 ?_
    exact e_i hx hb hr rfl hlocks hP hS (Nat.le_of_ble_eq_true rfl) (Nat.le_of_ble_eq_true rfl) (Prod.mk.inj (so_el h)) dX1_heardAt_18

def f_X1_latestAt (a0 : Nat) (a1 : Int32) (w : Mm) : Option (Int32 × Mm) := bd1 (f_X1_hedge a0 a1 w) (fun r1 w2 => on (r1) (some (0, w2)) (fun k3 => gd (decide (k3 < 16)) (some (gI w2 22 k3 2, w2))))

theorem miX1_latestAt : MI RX1 yX1_latestAt cX1_latestAt 3 (some .int) 1 := ⟨w5_124, w5_125, w1_9, w5_126, rfl, by decide +kernel, by decide +kernel, by decide +kernel⟩
set_option maxHeartbeats 4000000 in
set_option maxRecDepth 100000 in
theorem c_X1_latestAt (l : Launch) (G : GG) (hF : gF G = true) (a0 : Nat) (ha0 : a0 < cnt 19) (a1 : Int32) (w : Mm) (r : Int32) (w' : Mm) (h : f_X1_latestAt a0 a1 w = some (r, w')) : Ki l G yX1_latestAt cX1_latestAt 3 (some .int) { frames := 1, cells := 0, slots := 0, locals := 21 } [.ref (adr (gB G) 19 a0), .int a1] w r w' := by
  refine k_of (by decide +kernel) (Nat.le_of_ble_eq_true rfl) ?_
  intro p e s m args below meth c ls hx hb hml hr hown hlocks hts hin hP hE hl
  have hC : CX p s m args c meth G cX1_latestAt 3 (some .int) RX1 := ⟨hx, hb, hml, hr, hown, hlocks, hts, hE⟩
  have hS : va_S (Ab G) s.heap s.heap [] := va_S.rf
  have hcs : 0 ≤ 0 ∧ 0 ≤ 0 := ⟨Nat.zero_le _, Nat.zero_le _⟩
  have hl : lv_has ls 3 [(0, .ref (adr (gB G) 19 a0)), (1, .int a1)] := hl
  unfold f_X1_latestAt at h
  refine lv_aload_n hx hb dX1_latestAt_0 rfl (lv_at hl 0 rfl) ?_
  refine lv_iload_n hx hb dX1_latestAt_1 rfl (lv_at hl 1 rfl) ?_
  obtain ⟨r1, w2, hf, h⟩ := bd1_el h
  refine c_onq (c_runV (b := adr (gB G) 19 a0) (As := [.int a1]) (rest := []) hx hb hml hown hts hE hP hS (c_X1_hedge l G hF a0 ha0 a1 w r1 w2 hf) (c_rec hE hP (hp_sh hP hF a0 19 ha0) (by decide) rfl rfl) w4_115 miX1_hedge ⟨Nat.le_of_ble_eq_true rfl, Nat.le_of_ble_eq_true rfl⟩ rfl hl.1 rfl (Nat.le_of_ble_eq_true rfl) dX1_latestAt_2 hcs) hS (fun H locs hP hS => ?_)
  refine k_astore_n (i := 2) (lv' := [(2, va_rf (r1.map (adr (gB G) 22))), (0, .ref (adr (gB G) 19 a0)), (1, .int a1)]) hx hb dX1_latestAt_5 rfl hl (by decide) (by simp [kR, cat_rf, cat_ref, cat_int, cat_long, cat_null]) (fun ls hl => ?_)
  refine k_aload_n hx hb dX1_latestAt_6 rfl (lv_at hl 0 rfl) ?_
  rcases ho : r1 with _ | k3
  · have h := on_n h ho
    refine k_ifnonnull_n hx hb rfl dX1_latestAt_7 ?_
    rw [ho] at hl
    have hl : lv_has ls 3 [(2, .null), (0, .ref (adr (gB G) 19 a0)), (1, .int a1)] := hl
    refine lv_iconst (v := 0) hx hb dX1_latestAt_10 (by decide) ?_
    refine lv_goto (tgt := 18) hx hb dX1_latestAt_11 (by decide) ?_
    exact e_i hx hb hr rfl hlocks hP hS (Nat.le_of_ble_eq_true rfl) (Nat.le_of_ble_eq_true rfl) (Prod.mk.inj (so_el h)) dX1_latestAt_18
  · have h := on_s h ho
    obtain ⟨g4, h⟩ := gd_el h
    refine k_ifnonnull_s (tgt := 14) hx hb rfl dX1_latestAt_7 (by decide) ?_
    rw [ho] at hl
    have hl : lv_has ls 3 [(2, .ref (adr (gB G) 22 k3)), (0, .ref (adr (gB G) 19 a0)), (1, .int a1)] := hl
    refine lv_aload_n hx hb dX1_latestAt_14 rfl (lv_at hl 0 rfl) ?_
    refine k_get (ci := 2) (v := .int (gI w2 22 k3 2)) hx hb hts hE inX3 hown hP (hp_sh hP hF k3 22 (of_decide_eq_true g4)) (by decide) rfl rfl 2 (by decide) w1_177 rfl rfl dX1_latestAt_15 ?_
    exact e_i hx hb hr rfl hlocks hP hS (Nat.le_of_ble_eq_true rfl) (Nat.le_of_ble_eq_true rfl) (Prod.mk.inj (so_el h)) dX1_latestAt_18

def f_X2_oneIf (a0 : Int32) (w : Mm) : Option (Int32 × Mm) := br (a0 = 0) (some (0, w)) (some (1, w))

theorem miX2_oneIf : MS yX2_oneIf cX2_oneIf 1 (some .int) 1 := ⟨w5_130, w1_8, w5_131, by decide +kernel, by decide +kernel, by decide +kernel⟩
set_option maxHeartbeats 4000000 in
set_option maxRecDepth 100000 in
theorem c_X2_oneIf (l : Launch) (G : GG) (hF : gF G = true) (a0 : Int32) (w : Mm) (r : Int32) (w' : Mm) (h : f_X2_oneIf a0 w = some (r, w')) : Ki l G yX2_oneIf cX2_oneIf 1 (some .int) { frames := 0, cells := 0, slots := 0, locals := 0 } [.int a0] w r w' := by
  refine k_of (by decide +kernel) (Nat.le_of_ble_eq_true rfl) ?_
  intro p e s m args below meth c ls hx hb hml hr hown hlocks hts hin hP hE hl
  have hC : CX p s m args c meth G cX2_oneIf 1 (some .int) RX2 := ⟨hx, hb, hml, hr, hown, hlocks, hts, hE⟩
  have hS : va_S (Ab G) s.heap s.heap [] := va_S.rf
  have hcs : 0 ≤ 0 ∧ 0 ≤ 0 := ⟨Nat.zero_le _, Nat.zero_le _⟩
  have hl : lv_has ls 1 [(0, .int a0)] := hl
  unfold f_X2_oneIf at h
  refine lv_iload_n hx hb dX2_oneIf_0 rfl (lv_at hl 0 rfl) ?_
  refine lv_if_eq (tgt := 8) hx hb dX2_oneIf_1 (by decide) (fun cc => ?_) (fun cc => ?_)
  · have h := br_el h cc
    refine lv_iconst (v := 0) hx hb dX2_oneIf_8 (by decide) ?_
    exact e_i hx hb hr rfl hlocks hP hS (Nat.le_of_ble_eq_true rfl) (Nat.le_of_ble_eq_true rfl) (Prod.mk.inj (so_el h)) dX2_oneIf_9
  · have h := br_er h cc
    refine lv_iconst (v := 1) hx hb dX2_oneIf_4 (by decide) ?_
    refine lv_goto (tgt := 9) hx hb dX2_oneIf_5 (by decide) ?_
    exact e_i hx hb hr rfl hlocks hP hS (Nat.le_of_ble_eq_true rfl) (Nat.le_of_ble_eq_true rfl) (Prod.mk.inj (so_el h)) dX2_oneIf_9

def f_X2_joined (a0 : Nat) (a1 : Int32) (a2 : Int32) (w : Mm) : Option (Int32 × Mm) := gd (kok a0) (br ((swv (a0)) = 16) (some (a1 - a2, w)) (br ((swv (a0)) = 18) (some (jmmin a1 a2, w)) (br ((swv (a0)) = 19) (some (jmmax a1 a2, w)) (br ((swv (a0)) = 22) (some (a1 + a2, w)) (br ((swv (a0)) = 23) (some (a1 * a2, w)) (br ((swv (a0)) = 24) (br (a2 = 0) (some (0, w)) (gd (decide (¬ a2 = 0)) (some (a1 / a2, w)))) (br ((swv (a0)) = 25) (br (a2 ≤ a1) (bd1 (f_X2_oneIf 0 w) (fun r2 w3 => some (r2, w3))) (bd1 (f_X2_oneIf 1 w) (fun r4 w5 => some (r4, w5)))) (br ((swv (a0)) = 26) (br (a1 ≤ a2) (bd1 (f_X2_oneIf 0 w) (fun r6 w7 => some (r6, w7))) (bd1 (f_X2_oneIf 1 w) (fun r8 w9 => some (r8, w9)))) (br ((swv (a0)) = 27) (br (a1 = a2) (bd1 (f_X2_oneIf 1 w) (fun r12 w13 => some (r12, w13))) (bd1 (f_X2_oneIf 0 w) (fun r10 w11 => some (r10, w11)))) (br ((swv (a0)) = 28) (br (a2 < a1) (bd1 (f_X2_oneIf 0 w) (fun r14 w15 => some (r14, w15))) (bd1 (f_X2_oneIf 1 w) (fun r16 w17 => some (r16, w17)))) (br ((swv (a0)) = 29) (br (a1 < a2) (bd1 (f_X2_oneIf 0 w) (fun r18 w19 => some (r18, w19))) (bd1 (f_X2_oneIf 1 w) (fun r20 w21 => some (r20, w21)))) (br ((swv (a0)) = 30) (some (a1 &&& a2, w)) (br ((swv (a0)) = 31) (some (a1 ||| a2, w)) (some (0, w)))))))))))))))

theorem miX2_joined : MS yX2_joined cX2_joined 3 (some .int) 3 := ⟨w5_157, w1_8, w5_158, by decide +kernel, by decide +kernel, by decide +kernel⟩
set_option maxHeartbeats 4000000 in
set_option maxRecDepth 100000 in
theorem c_X2_joined (l : Launch) (G : GG) (hF : gF G = true) (a0 : Nat) (a1 : Int32) (a2 : Int32) (w : Mm) (r : Int32) (w' : Mm) (h : f_X2_joined a0 a1 a2 w = some (r, w')) : Ki l G yX2_joined cX2_joined 3 (some .int) { frames := 1, cells := 0, slots := 0, locals := 21 } [kR G a0, .int a1, .int a2] w r w' := by
  refine k_of (by decide +kernel) (by simp [lg_sl, cat_kR, cat_ref, cat_int, cat_long]) ?_
  intro p e s m args below meth c ls hx hb hml hr hown hlocks hts hin hP hE hl
  have hC : CX p s m args c meth G cX2_joined 3 (some .int) RX2 := ⟨hx, hb, hml, hr, hown, hlocks, hts, hE⟩
  have hS : va_S (Ab G) s.heap s.heap [] := va_S.rf
  have hcs : 0 ≤ 0 ∧ 0 ≤ 0 := ⟨Nat.zero_le _, Nat.zero_le _⟩
  have hl : lv_has ls 3 [(0, kR G a0), (1, .int a1), (2, .int a2)] := by simpa [lv_args, cat_kR, cat_ref, cat_int, cat_long] using hl
  unfold f_X2_joined at h
  refine k_swm hx hb hE hS hown (hts _ w5_113) dX2_joined_0 ?_
  refine k_aload_n hx hb dX2_joined_3 rfl (lv_at hl 0 rfl) ?_
  obtain ⟨g1, h⟩ := gd_el h
  refine k_ord hx hb hml hown hts hE hP hS g1 w5_114 (Nat.le_of_ble_eq_true rfl) (Nat.le_of_ble_eq_true rfl) hl.1 (Nat.le_of_ble_eq_true rfl) hcs dX2_joined_4 (fun H locs hP hS => ?_)
  refine k_swald hx hb hE hS g1 dX2_joined_7 ?_
  have ho := h
  by_cases c0 : (swv (a0)) = 16
  · have h := br_el h c0
    refine k_tab (tgt := 92) hx hb dX2_joined_8 (by decide) (by have cq := c0; (rw [cq]; decide)) ?_
    refine lv_iload_n hx hb dX2_joined_92 rfl (lv_at hl 1 rfl) ?_
    refine lv_iload_n hx hb dX2_joined_93 rfl (lv_at hl 2 rfl) ?_
    refine lv_isub hx hb dX2_joined_94 ?_
    exact e_i hx hb hr rfl hlocks hP hS (Nat.le_of_ble_eq_true rfl) (Nat.le_of_ble_eq_true rfl) (Prod.mk.inj (so_el h)) dX2_joined_95
  · have h := br_er h c0
    by_cases c1 : (swv (a0)) = 18
    · have h := br_el h c1
      refine k_tab (tgt := 112) hx hb dX2_joined_8 (by decide) (by have cq := c1; (rw [cq]; decide)) ?_
      refine lv_iload_n hx hb dX2_joined_112 rfl (lv_at hl 1 rfl) ?_
      refine lv_iload_n hx hb dX2_joined_113 rfl (lv_at hl 2 rfl) ?_
      refine k_mmin hx hb hml hown hts (x := a1) (y := a2) w5_141 (Nat.le_of_ble_eq_true rfl) (Nat.le_of_ble_eq_true rfl) hl.1 (Nat.le_of_ble_eq_true rfl) hcs.1 hcs.2 dX2_joined_114 ?_
      exact e_i hx hb hr rfl hlocks hP hS (Nat.le_of_ble_eq_true rfl) (Nat.le_of_ble_eq_true rfl) (Prod.mk.inj (so_el h)) dX2_joined_117
    · have h := br_er h c1
      by_cases c2 : (swv (a0)) = 19
      · have h := br_el h c2
        refine k_tab (tgt := 118) hx hb dX2_joined_8 (by decide) (by have cq := c2; (rw [cq]; decide)) ?_
        refine lv_iload_n hx hb dX2_joined_118 rfl (lv_at hl 1 rfl) ?_
        refine lv_iload_n hx hb dX2_joined_119 rfl (lv_at hl 2 rfl) ?_
        refine k_mmax hx hb hml hown hts (x := a1) (y := a2) w5_144 (Nat.le_of_ble_eq_true rfl) (Nat.le_of_ble_eq_true rfl) hl.1 (Nat.le_of_ble_eq_true rfl) hcs.1 hcs.2 dX2_joined_120 ?_
        exact e_i hx hb hr rfl hlocks hP hS (Nat.le_of_ble_eq_true rfl) (Nat.le_of_ble_eq_true rfl) (Prod.mk.inj (so_el h)) dX2_joined_123
      · have h := br_er h c2
        by_cases c3 : (swv (a0)) = 22
        · have h := br_el h c3
          refine k_tab (tgt := 88) hx hb dX2_joined_8 (by decide) (by have cq := c3; (rw [cq]; decide)) ?_
          refine lv_iload_n hx hb dX2_joined_88 rfl (lv_at hl 1 rfl) ?_
          refine lv_iload_n hx hb dX2_joined_89 rfl (lv_at hl 2 rfl) ?_
          refine lv_iadd hx hb dX2_joined_90 ?_
          exact e_i hx hb hr rfl hlocks hP hS (Nat.le_of_ble_eq_true rfl) (Nat.le_of_ble_eq_true rfl) (Prod.mk.inj (so_el h)) dX2_joined_91
        · have h := br_er h c3
          by_cases c4 : (swv (a0)) = 23
          · have h := br_el h c4
            refine k_tab (tgt := 96) hx hb dX2_joined_8 (by decide) (by have cq := c4; (rw [cq]; decide)) ?_
            refine lv_iload_n hx hb dX2_joined_96 rfl (lv_at hl 1 rfl) ?_
            refine lv_iload_n hx hb dX2_joined_97 rfl (lv_at hl 2 rfl) ?_
            refine lv_imul hx hb dX2_joined_98 ?_
            exact e_i hx hb hr rfl hlocks hP hS (Nat.le_of_ble_eq_true rfl) (Nat.le_of_ble_eq_true rfl) (Prod.mk.inj (so_el h)) dX2_joined_99
          · have h := br_er h c4
            by_cases c5 : (swv (a0)) = 24
            · have h := br_el h c5
              refine k_tab (tgt := 100) hx hb dX2_joined_8 (by decide) (by have cq := c5; (rw [cq]; decide)) ?_
              refine lv_iload_n hx hb dX2_joined_100 rfl (lv_at hl 2 rfl) ?_
              refine lv_if_ne (tgt := 108) hx hb dX2_joined_101 (by decide) (fun cc => ?_) (fun cc => ?_)
              · have h := br_er h cc
                refine lv_iload_n hx hb dX2_joined_108 rfl (lv_at hl 1 rfl) ?_
                refine lv_iload_n hx hb dX2_joined_109 rfl (lv_at hl 2 rfl) ?_
                obtain ⟨g, h⟩ := gd_el h
                refine lv_idiv hx hb dX2_joined_110 (of_decide_eq_true g) ?_
                exact e_i hx hb hr rfl hlocks hP hS (Nat.le_of_ble_eq_true rfl) (Nat.le_of_ble_eq_true rfl) (Prod.mk.inj (so_el h)) dX2_joined_111
              · have h := br_el h cc
                refine lv_iconst (v := 0) hx hb dX2_joined_104 (by decide) ?_
                refine lv_goto (tgt := 111) hx hb dX2_joined_105 (by decide) ?_
                exact e_i hx hb hr rfl hlocks hP hS (Nat.le_of_ble_eq_true rfl) (Nat.le_of_ble_eq_true rfl) (Prod.mk.inj (so_el h)) dX2_joined_111
            · have h := br_er h c5
              by_cases c6 : (swv (a0)) = 25
              · have h := br_el h c6
                refine k_tab (tgt := 124) hx hb dX2_joined_8 (by decide) (by have cq := c6; (rw [cq]; decide)) ?_
                refine lv_iload_n hx hb dX2_joined_124 rfl (lv_at hl 1 rfl) ?_
                refine lv_iload_n hx hb dX2_joined_125 rfl (lv_at hl 2 rfl) ?_
                refine lv_icmp_ge (tgt := 133) hx hb dX2_joined_126 (by decide) (fun cc => ?_) (fun cc => ?_)
                · have h := br_el h cc
                  refine lv_iconst (v := 0) hx hb dX2_joined_133 (by decide) ?_
                  obtain ⟨r2, w3, hf, h⟩ := bd1_el h
                  refine c_oni (c_runS (As := [.int 0]) (rest := []) hx hb hml hown hts hE hP hS (c_X2_oneIf l G hF 0 w r2 w3 hf) w5_129 miX2_oneIf ⟨Nat.le_of_ble_eq_true rfl, Nat.le_of_ble_eq_true rfl⟩ rfl hl.1 rfl (Nat.le_of_ble_eq_true rfl) dX2_joined_134 hcs) hS (fun H locs hP hS => ?_)
                  exact e_i hx hb hr rfl hlocks hP hS (Nat.le_of_ble_eq_true rfl) (Nat.le_of_ble_eq_true rfl) (Prod.mk.inj (so_el h)) dX2_joined_137
                · have h := br_er h cc
                  refine lv_iconst (v := 1) hx hb dX2_joined_129 (by decide) ?_
                  refine lv_goto (tgt := 134) hx hb dX2_joined_130 (by decide) ?_
                  obtain ⟨r4, w5, hf, h⟩ := bd1_el h
                  refine c_oni (c_runS (As := [.int 1]) (rest := []) hx hb hml hown hts hE hP hS (c_X2_oneIf l G hF 1 w r4 w5 hf) w5_129 miX2_oneIf ⟨Nat.le_of_ble_eq_true rfl, Nat.le_of_ble_eq_true rfl⟩ rfl hl.1 rfl (Nat.le_of_ble_eq_true rfl) dX2_joined_134 hcs) hS (fun H locs hP hS => ?_)
                  exact e_i hx hb hr rfl hlocks hP hS (Nat.le_of_ble_eq_true rfl) (Nat.le_of_ble_eq_true rfl) (Prod.mk.inj (so_el h)) dX2_joined_137
              · have h := br_er h c6
                by_cases c7 : (swv (a0)) = 26
                · have h := br_el h c7
                  refine k_tab (tgt := 138) hx hb dX2_joined_8 (by decide) (by have cq := c7; (rw [cq]; decide)) ?_
                  refine lv_iload_n hx hb dX2_joined_138 rfl (lv_at hl 1 rfl) ?_
                  refine lv_iload_n hx hb dX2_joined_139 rfl (lv_at hl 2 rfl) ?_
                  refine lv_icmp_le (tgt := 147) hx hb dX2_joined_140 (by decide) (fun cc => ?_) (fun cc => ?_)
                  · have h := br_el h cc
                    refine lv_iconst (v := 0) hx hb dX2_joined_147 (by decide) ?_
                    obtain ⟨r6, w7, hf, h⟩ := bd1_el h
                    refine c_oni (c_runS (As := [.int 0]) (rest := []) hx hb hml hown hts hE hP hS (c_X2_oneIf l G hF 0 w r6 w7 hf) w5_129 miX2_oneIf ⟨Nat.le_of_ble_eq_true rfl, Nat.le_of_ble_eq_true rfl⟩ rfl hl.1 rfl (Nat.le_of_ble_eq_true rfl) dX2_joined_148 hcs) hS (fun H locs hP hS => ?_)
                    exact e_i hx hb hr rfl hlocks hP hS (Nat.le_of_ble_eq_true rfl) (Nat.le_of_ble_eq_true rfl) (Prod.mk.inj (so_el h)) dX2_joined_151
                  · have h := br_er h cc
                    refine lv_iconst (v := 1) hx hb dX2_joined_143 (by decide) ?_
                    refine lv_goto (tgt := 148) hx hb dX2_joined_144 (by decide) ?_
                    obtain ⟨r8, w9, hf, h⟩ := bd1_el h
                    refine c_oni (c_runS (As := [.int 1]) (rest := []) hx hb hml hown hts hE hP hS (c_X2_oneIf l G hF 1 w r8 w9 hf) w5_129 miX2_oneIf ⟨Nat.le_of_ble_eq_true rfl, Nat.le_of_ble_eq_true rfl⟩ rfl hl.1 rfl (Nat.le_of_ble_eq_true rfl) dX2_joined_148 hcs) hS (fun H locs hP hS => ?_)
                    exact e_i hx hb hr rfl hlocks hP hS (Nat.le_of_ble_eq_true rfl) (Nat.le_of_ble_eq_true rfl) (Prod.mk.inj (so_el h)) dX2_joined_151
                · have h := br_er h c7
                  by_cases c8 : (swv (a0)) = 27
                  · have h := br_el h c8
                    refine k_tab (tgt := 152) hx hb dX2_joined_8 (by decide) (by have cq := c8; (rw [cq]; decide)) ?_
                    refine lv_iload_n hx hb dX2_joined_152 rfl (lv_at hl 1 rfl) ?_
                    refine lv_iload_n hx hb dX2_joined_153 rfl (lv_at hl 2 rfl) ?_
                    refine lv_icmp_ne (tgt := 161) hx hb dX2_joined_154 (by decide) (fun cc => ?_) (fun cc => ?_)
                    · have h := br_er h cc
                      refine lv_iconst (v := 0) hx hb dX2_joined_161 (by decide) ?_
                      obtain ⟨r10, w11, hf, h⟩ := bd1_el h
                      refine c_oni (c_runS (As := [.int 0]) (rest := []) hx hb hml hown hts hE hP hS (c_X2_oneIf l G hF 0 w r10 w11 hf) w5_129 miX2_oneIf ⟨Nat.le_of_ble_eq_true rfl, Nat.le_of_ble_eq_true rfl⟩ rfl hl.1 rfl (Nat.le_of_ble_eq_true rfl) dX2_joined_162 hcs) hS (fun H locs hP hS => ?_)
                      exact e_i hx hb hr rfl hlocks hP hS (Nat.le_of_ble_eq_true rfl) (Nat.le_of_ble_eq_true rfl) (Prod.mk.inj (so_el h)) dX2_joined_165
                    · have h := br_el h cc
                      refine lv_iconst (v := 1) hx hb dX2_joined_157 (by decide) ?_
                      refine lv_goto (tgt := 162) hx hb dX2_joined_158 (by decide) ?_
                      obtain ⟨r12, w13, hf, h⟩ := bd1_el h
                      refine c_oni (c_runS (As := [.int 1]) (rest := []) hx hb hml hown hts hE hP hS (c_X2_oneIf l G hF 1 w r12 w13 hf) w5_129 miX2_oneIf ⟨Nat.le_of_ble_eq_true rfl, Nat.le_of_ble_eq_true rfl⟩ rfl hl.1 rfl (Nat.le_of_ble_eq_true rfl) dX2_joined_162 hcs) hS (fun H locs hP hS => ?_)
                      exact e_i hx hb hr rfl hlocks hP hS (Nat.le_of_ble_eq_true rfl) (Nat.le_of_ble_eq_true rfl) (Prod.mk.inj (so_el h)) dX2_joined_165
                  · have h := br_er h c8
                    by_cases c9 : (swv (a0)) = 28
                    · have h := br_el h c9
                      refine k_tab (tgt := 166) hx hb dX2_joined_8 (by decide) (by have cq := c9; (rw [cq]; decide)) ?_
                      refine lv_iload_n hx hb dX2_joined_166 rfl (lv_at hl 1 rfl) ?_
                      refine lv_iload_n hx hb dX2_joined_167 rfl (lv_at hl 2 rfl) ?_
                      refine lv_icmp_gt (tgt := 175) hx hb dX2_joined_168 (by decide) (fun cc => ?_) (fun cc => ?_)
                      · have h := br_el h cc
                        refine lv_iconst (v := 0) hx hb dX2_joined_175 (by decide) ?_
                        obtain ⟨r14, w15, hf, h⟩ := bd1_el h
                        refine c_oni (c_runS (As := [.int 0]) (rest := []) hx hb hml hown hts hE hP hS (c_X2_oneIf l G hF 0 w r14 w15 hf) w5_129 miX2_oneIf ⟨Nat.le_of_ble_eq_true rfl, Nat.le_of_ble_eq_true rfl⟩ rfl hl.1 rfl (Nat.le_of_ble_eq_true rfl) dX2_joined_176 hcs) hS (fun H locs hP hS => ?_)
                        exact e_i hx hb hr rfl hlocks hP hS (Nat.le_of_ble_eq_true rfl) (Nat.le_of_ble_eq_true rfl) (Prod.mk.inj (so_el h)) dX2_joined_179
                      · have h := br_er h cc
                        refine lv_iconst (v := 1) hx hb dX2_joined_171 (by decide) ?_
                        refine lv_goto (tgt := 176) hx hb dX2_joined_172 (by decide) ?_
                        obtain ⟨r16, w17, hf, h⟩ := bd1_el h
                        refine c_oni (c_runS (As := [.int 1]) (rest := []) hx hb hml hown hts hE hP hS (c_X2_oneIf l G hF 1 w r16 w17 hf) w5_129 miX2_oneIf ⟨Nat.le_of_ble_eq_true rfl, Nat.le_of_ble_eq_true rfl⟩ rfl hl.1 rfl (Nat.le_of_ble_eq_true rfl) dX2_joined_176 hcs) hS (fun H locs hP hS => ?_)
                        exact e_i hx hb hr rfl hlocks hP hS (Nat.le_of_ble_eq_true rfl) (Nat.le_of_ble_eq_true rfl) (Prod.mk.inj (so_el h)) dX2_joined_179
                    · have h := br_er h c9
                      by_cases c10 : (swv (a0)) = 29
                      · have h := br_el h c10
                        refine k_tab (tgt := 180) hx hb dX2_joined_8 (by decide) (by have cq := c10; (rw [cq]; decide)) ?_
                        refine lv_iload_n hx hb dX2_joined_180 rfl (lv_at hl 1 rfl) ?_
                        refine lv_iload_n hx hb dX2_joined_181 rfl (lv_at hl 2 rfl) ?_
                        refine lv_icmp_lt (tgt := 189) hx hb dX2_joined_182 (by decide) (fun cc => ?_) (fun cc => ?_)
                        · have h := br_el h cc
                          refine lv_iconst (v := 0) hx hb dX2_joined_189 (by decide) ?_
                          obtain ⟨r18, w19, hf, h⟩ := bd1_el h
                          refine c_oni (c_runS (As := [.int 0]) (rest := []) hx hb hml hown hts hE hP hS (c_X2_oneIf l G hF 0 w r18 w19 hf) w5_129 miX2_oneIf ⟨Nat.le_of_ble_eq_true rfl, Nat.le_of_ble_eq_true rfl⟩ rfl hl.1 rfl (Nat.le_of_ble_eq_true rfl) dX2_joined_190 hcs) hS (fun H locs hP hS => ?_)
                          exact e_i hx hb hr rfl hlocks hP hS (Nat.le_of_ble_eq_true rfl) (Nat.le_of_ble_eq_true rfl) (Prod.mk.inj (so_el h)) dX2_joined_193
                        · have h := br_er h cc
                          refine lv_iconst (v := 1) hx hb dX2_joined_185 (by decide) ?_
                          refine lv_goto (tgt := 190) hx hb dX2_joined_186 (by decide) ?_
                          obtain ⟨r20, w21, hf, h⟩ := bd1_el h
                          refine c_oni (c_runS (As := [.int 1]) (rest := []) hx hb hml hown hts hE hP hS (c_X2_oneIf l G hF 1 w r20 w21 hf) w5_129 miX2_oneIf ⟨Nat.le_of_ble_eq_true rfl, Nat.le_of_ble_eq_true rfl⟩ rfl hl.1 rfl (Nat.le_of_ble_eq_true rfl) dX2_joined_190 hcs) hS (fun H locs hP hS => ?_)
                          exact e_i hx hb hr rfl hlocks hP hS (Nat.le_of_ble_eq_true rfl) (Nat.le_of_ble_eq_true rfl) (Prod.mk.inj (so_el h)) dX2_joined_193
                      · have h := br_er h c10
                        by_cases c11 : (swv (a0)) = 30
                        · have h := br_el h c11
                          refine k_tab (tgt := 194) hx hb dX2_joined_8 (by decide) (by have cq := c11; (rw [cq]; decide)) ?_
                          refine lv_iload_n hx hb dX2_joined_194 rfl (lv_at hl 1 rfl) ?_
                          refine lv_iload_n hx hb dX2_joined_195 rfl (lv_at hl 2 rfl) ?_
                          refine lv_iand hx hb dX2_joined_196 ?_
                          exact e_i hx hb hr rfl hlocks hP hS (Nat.le_of_ble_eq_true rfl) (Nat.le_of_ble_eq_true rfl) (Prod.mk.inj (so_el h)) dX2_joined_197
                        · have h := br_er h c11
                          by_cases c12 : (swv (a0)) = 31
                          · have h := br_el h c12
                            refine k_tab (tgt := 198) hx hb dX2_joined_8 (by decide) (by have cq := c12; (rw [cq]; decide)) ?_
                            refine lv_iload_n hx hb dX2_joined_198 rfl (lv_at hl 1 rfl) ?_
                            refine lv_iload_n hx hb dX2_joined_199 rfl (lv_at hl 2 rfl) ?_
                            refine lv_ior hx hb dX2_joined_200 ?_
                            exact e_i hx hb hr rfl hlocks hP hS (Nat.le_of_ble_eq_true rfl) (Nat.le_of_ble_eq_true rfl) (Prod.mk.inj (so_el h)) dX2_joined_201
                          · have h := br_er h c12
                            refine k_tabD (vs := [16, 18, 19, 22, 23, 24, 25, 26, 27, 28, 29, 30, 31]) (tgt := 202) hx hb dX2_joined_8 (by decide) (by decide) (by decide) (fun q0 => ( fun q => Or.elim q (fun q => c0 (q)) (fun q => Or.elim q (fun q => c1 (q)) (fun q => Or.elim q (fun q => c2 (q)) (fun q => Or.elim q (fun q => c3 (q)) (fun q => Or.elim q (fun q => c4 (q)) (fun q => Or.elim q (fun q => c5 (q)) (fun q => Or.elim q (fun q => c6 (q)) (fun q => Or.elim q (fun q => c7 (q)) (fun q => Or.elim q (fun q => c8 (q)) (fun q => Or.elim q (fun q => c9 (q)) (fun q => Or.elim q (fun q => c10 (q)) (fun q => Or.elim q (fun q => c11 (q)) (fun q => c12 (q)))))))))))))) (by simpa only [List.mem_cons, List.not_mem_nil, or_false] using q0)) ?_
                            refine lv_iconst (v := 0) hx hb dX2_joined_202 (by decide) ?_
                            exact e_i hx hb hr rfl hlocks hP hS (Nat.le_of_ble_eq_true rfl) (Nat.le_of_ble_eq_true rfl) (Prod.mk.inj (so_el h)) dX2_joined_203

def f_X2_pop (w : Mm) : Option (Int32 × Mm) := br ((gI w 17 0 2) ≤ 0) (some (0, w)) (br ((gI w 17 0 2) ≤ 400) (sq (pI w 17 0 2 ((gI w 17 0 2) - 1)) (fun w1 => gd (vB (gI w1 17 0 2) 400) (some (gI w1 18 0 (gI w1 17 0 2).toNatClampNeg, w1)))) (some (0, w)))

theorem miX2_pop : MI RX2 yX2_pop cX2_pop 1 (some .int) 0 := ⟨w5_134, (tb_sel 31 rfl rfl), w1_8, w5_135, rfl, by decide +kernel, by decide +kernel, by decide +kernel⟩
set_option maxHeartbeats 4000000 in
set_option maxRecDepth 100000 in
theorem c_X2_pop (l : Launch) (G : GG) (hF : gF G = true)  (w : Mm) (r : Int32) (w' : Mm) (h : f_X2_pop  w = some (r, w')) : Ki l G yX2_pop cX2_pop 1 (some .int) { frames := 0, cells := 0, slots := 0, locals := 0 } [.ref (adr (gB G) 17 0)] w r w' := by
  refine k_of (by decide +kernel) (Nat.le_of_ble_eq_true rfl) ?_
  intro p e s m args below meth c ls hx hb hml hr hown hlocks hts hin hP hE hl
  have hC : CX p s m args c meth G cX2_pop 1 (some .int) RX2 := ⟨hx, hb, hml, hr, hown, hlocks, hts, hE⟩
  have hS : va_S (Ab G) s.heap s.heap [] := va_S.rf
  have hcs : 0 ≤ 0 ∧ 0 ≤ 0 := ⟨Nat.zero_le _, Nat.zero_le _⟩
  have hl : lv_has ls 1 [(0, .ref (adr (gB G) 17 0))] := hl
  unfold f_X2_pop at h
  refine lv_aload_n hx hb dX2_pop_0 rfl (lv_at hl 0 rfl) ?_
  refine k_get (ci := 1) (v := .int (gI w 17 0 2)) hx hb hts hE inX2 hown hP (hp_sh hP hF 0 17 (by decide)) (by decide) rfl rfl 2 (by decide) w1_144 rfl rfl dX2_pop_1 ?_
  refine lv_if_le (tgt := 19) hx hb dX2_pop_4 (by decide) (fun cc => ?_) (fun cc => ?_)
  · have h := br_el h cc
    refine lv_iconst (v := 0) hx hb dX2_pop_19 (by decide) ?_
    exact e_i hx hb hr rfl hlocks hP hS (Nat.le_of_ble_eq_true rfl) (Nat.le_of_ble_eq_true rfl) (Prod.mk.inj (so_el h)) dX2_pop_20
  · have h := br_er h cc
    refine lv_aload_n hx hb dX2_pop_7 rfl (lv_at hl 0 rfl) ?_
    refine k_get (ci := 1) (v := .int (gI w 17 0 2)) hx hb hts hE inX2 hown hP (hp_sh hP hF 0 17 (by decide)) (by decide) rfl rfl 2 (by decide) w1_144 rfl rfl dX2_pop_8 ?_
    refine lv_aload_n hx hb dX2_pop_11 rfl (lv_at hl 0 rfl) ?_
    refine k_get (ci := 1) (v := .ref (adr (gB G) 18 0)) hx hb hts hE inX2 hown hP (hp_sh hP hF 0 17 (by decide)) (by decide) rfl rfl 1 (by decide) w1_143 rfl rfl dX2_pop_12 ?_
    refine k_alen (v := 400) hx hb hE hP (hp_sh hP hF 0 18 (by decide)) (by decide) rfl 0 rfl rfl dX2_pop_15 ?_
    refine lv_icmp_le (tgt := 21) hx hb dX2_pop_16 (by decide) (fun cc => ?_) (fun cc => ?_)
    · have h := br_el h cc
      refine lv_aload_n hx hb dX2_pop_21 rfl (lv_at hl 0 rfl) ?_
      refine lv_dup hx hb dX2_pop_22 rfl ?_
      refine k_get (ci := 1) (v := .int (gI w 17 0 2)) hx hb hts hE inX2 hown hP (hp_sh hP hF 0 17 (by decide)) (by decide) rfl rfl 2 (by decide) w1_144 rfl rfl dX2_pop_23 ?_
      refine lv_iconst (v := 1) hx hb dX2_pop_26 (by decide) ?_
      refine lv_isub hx hb dX2_pop_27 ?_
      refine k_put (ci := 1) (ty := .int) (v := .int ((gI w 17 0 2) - 1)) (w1 := pI w 17 0 2 ((gI w 17 0 2) - 1)) hx hb hts hE inX2 tyX2 tyX2_ok nmX2 hown hP hS (hp_sh hP hF 0 17 (by decide)) (by decide) rfl rfl 2 (by decide) w1_144 rfl rfl rfl rfl rfl (Nat.le_of_ble_eq_true rfl) loc_pI (wce_pI.trans rfl) dX2_pop_28 (fun w1 H locs e hP hS => ?_)
      have h := sq_at h e
      refine lv_aload_n hx hb dX2_pop_31 rfl (lv_at hl 0 rfl) ?_
      refine k_get (ci := 1) (v := .ref (adr (gB G) 18 0)) hx hb hts hE inX2 hown hP (hp_sh hP hF 0 17 (by decide)) (by decide) rfl rfl 1 (by decide) w1_143 rfl rfl dX2_pop_32 ?_
      refine lv_aload_n hx hb dX2_pop_35 rfl (lv_at hl 0 rfl) ?_
      refine k_get (ci := 1) (v := .int (gI w1 17 0 2)) hx hb hts hE inX2 hown hP (hp_sh hP hF 0 17 (by decide)) (by decide) rfl rfl 2 (by decide) w1_144 rfl rfl dX2_pop_36 ?_
      obtain ⟨g2, h⟩ := gd_el h
      refine k_iald hx hb hE hP (hp_sh hP hF 0 18 (by decide)) (by decide) rfl g2 dX2_pop_39 ?_
      exact e_i hx hb hr rfl hlocks hP hS (Nat.le_of_ble_eq_true rfl) (Nat.le_of_ble_eq_true rfl) (Prod.mk.inj (so_el h)) dX2_pop_40
    · have h := br_er h cc
      refine lv_iconst (v := 0) hx hb dX2_pop_19 (by decide) ?_
      exact e_i hx hb hr rfl hlocks hP hS (Nat.le_of_ble_eq_true rfl) (Nat.le_of_ble_eq_true rfl) (Prod.mk.inj (so_el h)) dX2_pop_20

def f_X2_push (a1 : Int32) (w : Mm) : Option (Mm) := br ((gI w 17 0 2) < 0) (some w) (br (400 ≤ (gI w 17 0 2)) (some w) (gd (vB (gI w 17 0 2) 400) (sq (pI w 18 0 (gI w 17 0 2).toNatClampNeg a1) (fun w2 => sq (pI w2 17 0 2 ((gI w2 17 0 2) + 1)) (fun w3 => some w3)))))

theorem miX2_push : MI RX2 yX2_push cX2_push 2 none 1 := ⟨w5_117, (tb_sel 30 rfl rfl), w1_8, w5_118, rfl, by decide +kernel, by decide +kernel, by decide +kernel⟩
set_option maxHeartbeats 4000000 in
set_option maxRecDepth 100000 in
theorem c_X2_push (l : Launch) (G : GG) (hF : gF G = true) (a1 : Int32) (w : Mm) (w' : Mm) (h : f_X2_push a1 w = some w') : Kv l G yX2_push cX2_push 2 none { frames := 0, cells := 0, slots := 0, locals := 0 } [.ref (adr (gB G) 17 0), .int a1] w w' := by
  refine k_of (by decide +kernel) (Nat.le_of_ble_eq_true rfl) ?_
  intro p e s m args below meth c ls hx hb hml hr hown hlocks hts hin hP hE hl
  have hC : CX p s m args c meth G cX2_push 2 none RX2 := ⟨hx, hb, hml, hr, hown, hlocks, hts, hE⟩
  have hS : va_S (Ab G) s.heap s.heap [] := va_S.rf
  have hcs : 0 ≤ 0 ∧ 0 ≤ 0 := ⟨Nat.zero_le _, Nat.zero_le _⟩
  have hl : lv_has ls 2 [(0, .ref (adr (gB G) 17 0)), (1, .int a1)] := hl
  unfold f_X2_push at h
  refine lv_aload_n hx hb dX2_push_0 rfl (lv_at hl 0 rfl) ?_
  refine k_get (ci := 1) (v := .int (gI w 17 0 2)) hx hb hts hE inX2 hown hP (hp_sh hP hF 0 17 (by decide)) (by decide) rfl rfl 2 (by decide) w1_144 rfl rfl dX2_push_1 ?_
  refine lv_if_lt (tgt := 39) hx hb dX2_push_4 (by decide) (fun cc => ?_) (fun cc => ?_)
  · have h := br_el h cc
    exact e_v hx hb hr hlocks hP hS (Nat.le_of_ble_eq_true rfl) (Nat.le_of_ble_eq_true rfl) (so_el h) dX2_push_39
  · have h := br_er h cc
    refine lv_aload_n hx hb dX2_push_7 rfl (lv_at hl 0 rfl) ?_
    refine k_get (ci := 1) (v := .int (gI w 17 0 2)) hx hb hts hE inX2 hown hP (hp_sh hP hF 0 17 (by decide)) (by decide) rfl rfl 2 (by decide) w1_144 rfl rfl dX2_push_8 ?_
    refine lv_aload_n hx hb dX2_push_11 rfl (lv_at hl 0 rfl) ?_
    refine k_get (ci := 1) (v := .ref (adr (gB G) 18 0)) hx hb hts hE inX2 hown hP (hp_sh hP hF 0 17 (by decide)) (by decide) rfl rfl 1 (by decide) w1_143 rfl rfl dX2_push_12 ?_
    refine k_alen (v := 400) hx hb hE hP (hp_sh hP hF 0 18 (by decide)) (by decide) rfl 0 rfl rfl dX2_push_15 ?_
    refine lv_icmp_ge (tgt := 39) hx hb dX2_push_16 (by decide) (fun cc => ?_) (fun cc => ?_)
    · have h := br_el h cc
      exact e_v hx hb hr hlocks hP hS (Nat.le_of_ble_eq_true rfl) (Nat.le_of_ble_eq_true rfl) (so_el h) dX2_push_39
    · have h := br_er h cc
      refine lv_aload_n hx hb dX2_push_19 rfl (lv_at hl 0 rfl) ?_
      refine k_get (ci := 1) (v := .ref (adr (gB G) 18 0)) hx hb hts hE inX2 hown hP (hp_sh hP hF 0 17 (by decide)) (by decide) rfl rfl 1 (by decide) w1_143 rfl rfl dX2_push_20 ?_
      refine lv_aload_n hx hb dX2_push_23 rfl (lv_at hl 0 rfl) ?_
      refine k_get (ci := 1) (v := .int (gI w 17 0 2)) hx hb hts hE inX2 hown hP (hp_sh hP hF 0 17 (by decide)) (by decide) rfl rfl 2 (by decide) w1_144 rfl rfl dX2_push_24 ?_
      refine lv_iload_n hx hb dX2_push_27 rfl (lv_at hl 1 rfl) ?_
      obtain ⟨g1, h⟩ := gd_el h
      refine k_iast hx hb hE hP hS (hp_sh hP hF 0 18 (by decide)) (by decide) rfl rfl g1 dX2_push_28 (fun w2 H locs e hP hS => ?_)
      have h := sq_at h e
      refine lv_aload_n hx hb dX2_push_29 rfl (lv_at hl 0 rfl) ?_
      refine lv_dup hx hb dX2_push_30 rfl ?_
      refine k_get (ci := 1) (v := .int (gI w2 17 0 2)) hx hb hts hE inX2 hown hP (hp_sh hP hF 0 17 (by decide)) (by decide) rfl rfl 2 (by decide) w1_144 rfl rfl dX2_push_31 ?_
      refine lv_iconst (v := 1) hx hb dX2_push_34 (by decide) ?_
      refine lv_iadd hx hb dX2_push_35 ?_
      refine k_put (ci := 1) (ty := .int) (v := .int ((gI w2 17 0 2) + 1)) (w1 := pI w2 17 0 2 ((gI w2 17 0 2) + 1)) hx hb hts hE inX2 tyX2 tyX2_ok nmX2 hown hP hS (hp_sh hP hF 0 17 (by decide)) (by decide) rfl rfl 2 (by decide) w1_144 rfl rfl rfl rfl rfl (Nat.le_of_ble_eq_true rfl) loc_pI (wce_pI.trans rfl) dX2_push_36 (fun w3 H locs e hP hS => ?_)
      have h := sq_at h e
      exact e_v hx hb hr hlocks hP hS (Nat.le_of_ble_eq_true rfl) (Nat.le_of_ble_eq_true rfl) (so_el h) dX2_push_39

def f_X2_join (a1 : Nat) (w : Mm) : Option (Mm) := bd1 (f_X2_pop w) (fun r1 w2 => bd1 (f_X2_pop w2) (fun r3 w4 => bd1 (f_X2_joined a1 r3 r1 w4) (fun r5 w6 => bd0 (f_X2_push r5 w6) (fun w7 => some w7))))

theorem miX2_join : MI RX2 yX2_join cX2_join 4 none 1 := ⟨w5_154, (tb_sel 33 rfl rfl), w1_8, w5_155, rfl, by decide +kernel, by decide +kernel, by decide +kernel⟩
set_option maxHeartbeats 4000000 in
set_option maxRecDepth 100000 in
theorem c_X2_join (l : Launch) (G : GG) (hF : gF G = true) (a1 : Nat) (w : Mm) (w' : Mm) (h : f_X2_join a1 w = some w') : Kv l G yX2_join cX2_join 4 none { frames := 2, cells := 0, slots := 0, locals := 43 } [.ref (adr (gB G) 17 0), kR G a1] w w' := by
  refine k_of (by decide +kernel) (by simp [lg_sl, cat_kR, cat_ref, cat_int, cat_long]) ?_
  intro p e s m args below meth c ls hx hb hml hr hown hlocks hts hin hP hE hl
  have hC : CX p s m args c meth G cX2_join 4 none RX2 := ⟨hx, hb, hml, hr, hown, hlocks, hts, hE⟩
  have hS : va_S (Ab G) s.heap s.heap [] := va_S.rf
  have hcs : 0 ≤ 0 ∧ 0 ≤ 0 := ⟨Nat.zero_le _, Nat.zero_le _⟩
  have hl : lv_has ls 4 [(0, .ref (adr (gB G) 17 0)), (1, kR G a1)] := by simpa [lv_args, cat_kR, cat_ref, cat_int, cat_long] using hl
  unfold f_X2_join at h
  refine lv_aload_n hx hb dX2_join_0 rfl (lv_at hl 0 rfl) ?_
  obtain ⟨r1, w2, hf, h⟩ := bd1_el h
  refine c_oni (c_runV (b := adr (gB G) 17 0) (As := []) (rest := []) hx hb hml hown hts hE hP hS (c_X2_pop l G hF w r1 w2 hf) (c_rec hE hP (hp_sh hP hF 0 17 (by decide)) (by decide) rfl rfl) w5_132 miX2_pop ⟨Nat.le_of_ble_eq_true rfl, Nat.le_of_ble_eq_true rfl⟩ rfl hl.1 rfl (Nat.le_of_ble_eq_true rfl) dX2_join_1 hcs) hS (fun H locs hP hS => ?_)
  refine lv_istore_n (i := 2) (lv' := [(2, .int r1), (0, .ref (adr (gB G) 17 0)), (1, kR G a1)]) hx hb dX2_join_4 rfl hl (by decide) (by simp [kR, cat_rf, cat_ref, cat_int, cat_long, cat_null]) (fun ls hl => ?_)
  refine lv_aload_n hx hb dX2_join_5 rfl (lv_at hl 1 rfl) ?_
  obtain ⟨r3, w4, hf, h⟩ := bd1_el h
  refine c_oni (c_runV (b := adr (gB G) 17 0) (As := []) (rest := []) hx hb hml hown hts hE hP hS (c_X2_pop l G hF w2 r3 w4 hf) (c_rec hE hP (hp_sh hP hF 0 17 (by decide)) (by decide) rfl rfl) w5_132 miX2_pop ⟨Nat.le_of_ble_eq_true rfl, Nat.le_of_ble_eq_true rfl⟩ rfl hl.1 rfl (Nat.le_of_ble_eq_true rfl) dX2_join_6 hcs) hS (fun H locs hP hS => ?_)
  refine lv_istore_n (i := 3) (lv' := [(3, .int r3), (2, .int r1), (0, .ref (adr (gB G) 17 0)), (1, kR G a1)]) hx hb dX2_join_9 rfl hl (by decide) (by simp [kR, cat_rf, cat_ref, cat_int, cat_long, cat_null]) (fun ls hl => ?_)
  refine lv_aload_n hx hb dX2_join_10 rfl (lv_at hl 2 rfl) ?_
  refine k_aload_n hx hb dX2_join_11 rfl (lv_at hl 3 rfl) ?_
  refine lv_iload_n hx hb dX2_join_12 rfl (lv_at hl 0 rfl) ?_
  refine lv_iload_n hx hb dX2_join_13 rfl (lv_at hl 1 rfl) ?_
  obtain ⟨r5, w6, hf, h⟩ := bd1_el h
  refine c_oni (c_runS (As := [kR G a1, .int r3, .int r1]) (rest := [.ref (adr (gB G) 17 0)]) hx hb hml hown hts hE hP hS (c_X2_joined l G hF a1 r3 r1 w4 r5 w6 hf) w5_156 miX2_joined ⟨Nat.le_of_ble_eq_true rfl, Nat.le_of_ble_eq_true rfl⟩ rfl hl.1 rfl (Nat.le_of_ble_eq_true rfl) dX2_join_14 hcs) hS (fun H locs hP hS => ?_)
  obtain ⟨w7, hf, h⟩ := bd0_el h
  refine c_onv (c_runV (b := adr (gB G) 17 0) (As := [.int r5]) (rest := []) hx hb hml hown hts hE hP hS (c_X2_push l G hF r5 w6 w7 hf) (c_rec hE hP (hp_sh hP hF 0 17 (by decide)) (by decide) rfl rfl) w5_115 miX2_push ⟨Nat.le_of_ble_eq_true rfl, Nat.le_of_ble_eq_true rfl⟩ rfl hl.1 rfl (Nat.le_of_ble_eq_true rfl) dX2_join_17 hcs) hS (fun H locs hP hS => ?_)
  exact e_v hx hb hr hlocks hP hS (Nat.le_of_ble_eq_true rfl) (Nat.le_of_ble_eq_true rfl) (so_el h) dX2_join_20

def f_X2_order (a1 : Nat) (a2 : Nat) (a3 : Int32) (a4 : Int32) (w : Mm) : Option (Mm) := bd1 (f_X2_pop w) (fun r1 w2 => br (r1 = 0) (br (a2 = 14) (bd1 (f_X2_pop w2) (fun r12 w13 => sq (jmmax 1 (jmmin 99 r12)) (fun x14 => br ((0 : Int32) = 0) (some w13) (br (a2 = 11) (bd1 (f_X1_startListening a1 a3 a4 w13) (fun r21 w22 => br (r21 = 0) (some w22) (sq (pI w22 19 a1 5 ((gI w22 19 a1 5) + 1)) (fun w23 => some w23)))) (br (a2 = 12) (bd1 (f_X1_stopListening a1 a3 a4 w13) (fun r18 w19 => br (r18 = 0) (some w19) (sq (pI w19 19 a1 5 ((gI w19 19 a1 5) + 1)) (fun w20 => some w20)))) (bd1 (f_X6_carry a1 a4 x14 w13) (fun r15 w16 => br ((1 : Int32) = 0) (some w16) (sq (pI w16 19 a1 5 ((gI w16 19 a1 5) + 1)) (fun w17 => some w17))))))))) (br ((0 : Int32) = 0) (some w2) (br (a2 = 11) (bd1 (f_X1_startListening a1 a3 a4 w2) (fun r9 w10 => br (r9 = 0) (some w10) (sq (pI w10 19 a1 5 ((gI w10 19 a1 5) + 1)) (fun w11 => some w11)))) (br (a2 = 12) (bd1 (f_X1_stopListening a1 a3 a4 w2) (fun r6 w7 => br (r6 = 0) (some w7) (sq (pI w7 19 a1 5 ((gI w7 19 a1 5) + 1)) (fun w8 => some w8)))) (bd1 (f_X6_carry a1 a4 0 w2) (fun r3 w4 => br ((1 : Int32) = 0) (some w4) (sq (pI w4 19 a1 5 ((gI w4 19 a1 5) + 1)) (fun w5 => some w5)))))))) (br (a2 = 14) (bd1 (f_X2_pop w2) (fun r33 w34 => sq (jmmax 1 (jmmin 99 r33)) (fun x35 => br ((1 : Int32) = 0) (some w34) (br (a2 = 11) (bd1 (f_X1_startListening a1 a3 a4 w34) (fun r42 w43 => br (r42 = 0) (some w43) (sq (pI w43 19 a1 5 ((gI w43 19 a1 5) + 1)) (fun w44 => some w44)))) (br (a2 = 12) (bd1 (f_X1_stopListening a1 a3 a4 w34) (fun r39 w40 => br (r39 = 0) (some w40) (sq (pI w40 19 a1 5 ((gI w40 19 a1 5) + 1)) (fun w41 => some w41)))) (bd1 (f_X6_carry a1 a4 x35 w34) (fun r36 w37 => br ((1 : Int32) = 0) (some w37) (sq (pI w37 19 a1 5 ((gI w37 19 a1 5) + 1)) (fun w38 => some w38))))))))) (br ((1 : Int32) = 0) (some w2) (br (a2 = 11) (bd1 (f_X1_startListening a1 a3 a4 w2) (fun r30 w31 => br (r30 = 0) (some w31) (sq (pI w31 19 a1 5 ((gI w31 19 a1 5) + 1)) (fun w32 => some w32)))) (br (a2 = 12) (bd1 (f_X1_stopListening a1 a3 a4 w2) (fun r27 w28 => br (r27 = 0) (some w28) (sq (pI w28 19 a1 5 ((gI w28 19 a1 5) + 1)) (fun w29 => some w29)))) (bd1 (f_X6_carry a1 a4 0 w2) (fun r24 w25 => br ((1 : Int32) = 0) (some w25) (sq (pI w25 19 a1 5 ((gI w25 19 a1 5) + 1)) (fun w26 => some w26)))))))))

theorem miX2_order : MI RX2 yX2_order cX2_order 8 none 4 := ⟨w5_138, (tb_sel 32 rfl rfl), w1_8, w5_139, rfl, by decide +kernel, by decide +kernel, by decide +kernel⟩
set_option maxHeartbeats 4000000 in
set_option maxRecDepth 100000 in
theorem c_X2_order (l : Launch) (G : GG) (hF : gF G = true) (a1 : Nat) (ha1 : a1 < cnt 19) (a2 : Nat) (a3 : Int32) (a4 : Int32) (w : Mm) (w' : Mm) (h : f_X2_order a1 a2 a3 a4 w = some w') : Kv l G yX2_order cX2_order 8 none { frames := 4, cells := 0, slots := 0, locals := 93 } [.ref (adr (gB G) 17 0), .ref (adr (gB G) 19 a1), kR G a2, .int a3, .int a4] w w' := by
  refine k_of (by decide +kernel) (by simp [lg_sl, cat_kR, cat_ref, cat_int, cat_long]) ?_
  intro p e s m args below meth c ls hx hb hml hr hown hlocks hts hin hP hE hl
  have hC : CX p s m args c meth G cX2_order 8 none RX2 := ⟨hx, hb, hml, hr, hown, hlocks, hts, hE⟩
  have hS : va_S (Ab G) s.heap s.heap [] := va_S.rf
  have hcs : 0 ≤ 0 ∧ 0 ≤ 0 := ⟨Nat.zero_le _, Nat.zero_le _⟩
  have hl : lv_has ls 8 [(0, .ref (adr (gB G) 17 0)), (1, .ref (adr (gB G) 19 a1)), (2, kR G a2), (3, .int a3), (4, .int a4)] := by simpa [lv_args, cat_kR, cat_ref, cat_int, cat_long] using hl
  unfold f_X2_order at h
  refine lv_aload_n hx hb dX2_order_0 rfl (lv_at hl 0 rfl) ?_
  obtain ⟨r1, w2, hf, h⟩ := bd1_el h
  refine c_oni (c_runV (b := adr (gB G) 17 0) (As := []) (rest := []) hx hb hml hown hts hE hP hS (c_X2_pop l G hF w r1 w2 hf) (c_rec hE hP (hp_sh hP hF 0 17 (by decide)) (by decide) rfl rfl) w5_132 miX2_pop ⟨Nat.le_of_ble_eq_true rfl, Nat.le_of_ble_eq_true rfl⟩ rfl hl.1 rfl (Nat.le_of_ble_eq_true rfl) dX2_order_1 hcs) hS (fun H locs hP hS => ?_)
  refine lv_if_eq (tgt := 11) hx hb dX2_order_4 (by decide) (fun cc => ?_) (fun cc => ?_)
  · have h := br_el h cc
    refine lv_iconst (v := 0) hx hb dX2_order_11 (by decide) ?_
    refine lv_istore (i := 5) (lv' := [(5, .int 0), (0, .ref (adr (gB G) 17 0)), (1, .ref (adr (gB G) 19 a1)), (2, kR G a2), (3, .int a3), (4, .int a4)]) hx hb dX2_order_12 hl (by decide) (by simp [kR, cat_rf, cat_ref, cat_int, cat_long, cat_null]) (fun ls hl => ?_)
    refine k_aload_n hx hb dX2_order_14 rfl (lv_at hl 3 rfl) ?_
    refine k_kind (i := 13) (nm := "TELL") hx hb hE hS hown rfl (by decide) (hts _ w5_140) dX2_order_15 ?_
    refine k_acmp_ne (x := a2) (y := 14) (tgt := 37) hx hb hE dX2_order_18 (by decide) (fun cc => ?_) (fun cc => ?_)
    · have h := br_er h cc
      refine lv_iconst (v := 0) hx hb dX2_order_37 (by decide) ?_
      refine lv_istore (i := 6) (lv' := [(6, .int 0), (5, .int 0), (0, .ref (adr (gB G) 17 0)), (1, .ref (adr (gB G) 19 a1)), (2, kR G a2), (3, .int a3), (4, .int a4)]) hx hb dX2_order_38 hl (by decide) (by simp [kR, cat_rf, cat_ref, cat_int, cat_long, cat_null]) (fun ls hl => ?_)
      refine lv_iload hx hb dX2_order_40 (lv_at hl 1 rfl) ?_
      refine lv_if_ne (tgt := 46) hx hb dX2_order_42 (by decide) (fun cc => ?_) (fun cc => ?_)
      · have h := br_er h cc
        refine lv_iconst (v := 1) hx hb dX2_order_46 (by decide) ?_
        refine lv_istore (i := 7) (lv' := [(7, .int 1), (6, .int 0), (5, .int 0), (0, .ref (adr (gB G) 17 0)), (1, .ref (adr (gB G) 19 a1)), (2, kR G a2), (3, .int a3), (4, .int a4)]) hx hb dX2_order_47 hl (by decide) (by simp [kR, cat_rf, cat_ref, cat_int, cat_long, cat_null]) (fun ls hl => ?_)
        refine k_aload_n hx hb dX2_order_49 rfl (lv_at hl 5 rfl) ?_
        refine k_kind (i := 10) (nm := "LISTEN") hx hb hE hS hown rfl (by decide) (hts _ w5_147) dX2_order_50 ?_
        refine k_acmp_ne (x := a2) (y := 11) (tgt := 68) hx hb hE dX2_order_53 (by decide) (fun cc => ?_) (fun cc => ?_)
        · have h := br_er h cc
          refine k_aload_n hx hb dX2_order_68 rfl (lv_at hl 5 rfl) ?_
          refine k_kind (i := 11) (nm := "LEAVE") hx hb hE hS hown rfl (by decide) (hts _ w5_149) dX2_order_69 ?_
          refine k_acmp_ne (x := a2) (y := 12) (tgt := 87) hx hb hE dX2_order_72 (by decide) (fun cc => ?_) (fun cc => ?_)
          · have h := br_er h cc
            refine lv_aload_n hx hb dX2_order_87 rfl (lv_at hl 3 rfl) ?_
            refine k_get (ci := 1) (v := .ref (adr (gB G) 11 0)) hx hb hts hE inX2 hown hP (hp_sh hP hF 0 17 (by decide)) (by decide) rfl rfl 0 (by decide) w1_142 rfl rfl dX2_order_88 ?_
            refine lv_aload_n hx hb dX2_order_91 rfl (lv_at hl 4 rfl) ?_
            refine lv_iload hx hb dX2_order_92 (lv_at hl 7 rfl) ?_
            refine lv_iload hx hb dX2_order_94 (lv_at hl 1 rfl) ?_
            obtain ⟨r3, w4, hf, h⟩ := bd1_el h
            refine c_oni (c_runV (b := adr (gB G) 11 0) (As := [.ref (adr (gB G) 19 a1), .int a4, .int 0]) (rest := []) hx hb hml hown hts hE hP hS (c_X6_carry l G hF a1 ha1 a4 0 w2 r3 w4 hf) (c_rec hE hP (hp_sh hP hF 0 11 (by decide)) (by decide) rfl rfl) w5_151 miX6_carry ⟨Nat.le_of_ble_eq_true rfl, Nat.le_of_ble_eq_true rfl⟩ rfl hl.1 rfl (Nat.le_of_ble_eq_true rfl) dX2_order_96 hcs) hS (fun H locs hP hS => ?_)
            refine lv_pop hx hb dX2_order_99 rfl ?_
            refine lv_iload hx hb dX2_order_100 (lv_at hl 0 rfl) ?_
            refine lv_if_eq (tgt := 115) hx hb dX2_order_102 (by decide) (fun cc => ?_) (fun cc => ?_)
            · have h := br_el h cc
              exact e_v hx hb hr hlocks hP hS (Nat.le_of_ble_eq_true rfl) (Nat.le_of_ble_eq_true rfl) (so_el h) dX2_order_115
            · have h := br_er h cc
              refine lv_aload_n hx hb dX2_order_105 rfl (lv_at hl 4 rfl) ?_
              refine lv_dup hx hb dX2_order_106 rfl ?_
              refine k_get (ci := 0) (v := .int (gI w4 19 a1 5)) hx hb hts hE inX1 hown hP (hp_sh hP hF a1 19 ha1) (by decide) rfl rfl 5 (by decide) w1_229 rfl rfl dX2_order_107 ?_
              refine lv_iconst (v := 1) hx hb dX2_order_110 (by decide) ?_
              refine lv_iadd hx hb dX2_order_111 ?_
              refine k_put (ci := 0) (ty := .int) (v := .int ((gI w4 19 a1 5) + 1)) (w1 := pI w4 19 a1 5 ((gI w4 19 a1 5) + 1)) hx hb hts hE inX1 tyX1 tyX1_ok nmX1 hown hP hS (hp_sh hP hF a1 19 ha1) (by decide) rfl rfl 5 (by decide) w1_229 rfl rfl rfl rfl rfl (Nat.le_of_ble_eq_true rfl) loc_pI (wce_pI.trans rfl) dX2_order_112 (fun w5 H locs e hP hS => ?_)
              have h := sq_at h e
              exact e_v hx hb hr hlocks hP hS (Nat.le_of_ble_eq_true rfl) (Nat.le_of_ble_eq_true rfl) (so_el h) dX2_order_115
          · have h := br_el h cc
            refine lv_aload_n hx hb dX2_order_75 rfl (lv_at hl 4 rfl) ?_
            refine lv_iload_n hx hb dX2_order_76 rfl (lv_at hl 6 rfl) ?_
            refine lv_iload hx hb dX2_order_77 (lv_at hl 7 rfl) ?_
            obtain ⟨r6, w7, hf, h⟩ := bd1_el h
            refine c_oni (c_runV (b := adr (gB G) 19 a1) (As := [.int a3, .int a4]) (rest := []) hx hb hml hown hts hE hP hS (c_X1_stopListening l G hF a1 ha1 a3 a4 w2 r6 w7 hf) (c_rec hE hP (hp_sh hP hF a1 19 ha1) (by decide) rfl rfl) w5_150 miX1_stopListening ⟨Nat.le_of_ble_eq_true rfl, Nat.le_of_ble_eq_true rfl⟩ rfl hl.1 rfl (Nat.le_of_ble_eq_true rfl) dX2_order_79 hcs) hS (fun H locs hP hS => ?_)
            refine lv_istore (i := 7) (lv' := [(7, .int r6), (6, .int 0), (5, .int 0), (0, .ref (adr (gB G) 17 0)), (1, .ref (adr (gB G) 19 a1)), (2, kR G a2), (3, .int a3), (4, .int a4)]) hx hb dX2_order_82 hl (by decide) (by simp [kR, cat_rf, cat_ref, cat_int, cat_long, cat_null]) (fun ls hl => ?_)
            refine lv_goto (tgt := 100) hx hb dX2_order_84 (by decide) ?_
            refine lv_iload hx hb dX2_order_100 (lv_at hl 0 rfl) ?_
            refine lv_if_eq (tgt := 115) hx hb dX2_order_102 (by decide) (fun cc => ?_) (fun cc => ?_)
            · have h := br_el h cc
              exact e_v hx hb hr hlocks hP hS (Nat.le_of_ble_eq_true rfl) (Nat.le_of_ble_eq_true rfl) (so_el h) dX2_order_115
            · have h := br_er h cc
              refine lv_aload_n hx hb dX2_order_105 rfl (lv_at hl 4 rfl) ?_
              refine lv_dup hx hb dX2_order_106 rfl ?_
              refine k_get (ci := 0) (v := .int (gI w7 19 a1 5)) hx hb hts hE inX1 hown hP (hp_sh hP hF a1 19 ha1) (by decide) rfl rfl 5 (by decide) w1_229 rfl rfl dX2_order_107 ?_
              refine lv_iconst (v := 1) hx hb dX2_order_110 (by decide) ?_
              refine lv_iadd hx hb dX2_order_111 ?_
              refine k_put (ci := 0) (ty := .int) (v := .int ((gI w7 19 a1 5) + 1)) (w1 := pI w7 19 a1 5 ((gI w7 19 a1 5) + 1)) hx hb hts hE inX1 tyX1 tyX1_ok nmX1 hown hP hS (hp_sh hP hF a1 19 ha1) (by decide) rfl rfl 5 (by decide) w1_229 rfl rfl rfl rfl rfl (Nat.le_of_ble_eq_true rfl) loc_pI (wce_pI.trans rfl) dX2_order_112 (fun w8 H locs e hP hS => ?_)
              have h := sq_at h e
              exact e_v hx hb hr hlocks hP hS (Nat.le_of_ble_eq_true rfl) (Nat.le_of_ble_eq_true rfl) (so_el h) dX2_order_115
        · have h := br_el h cc
          refine lv_aload_n hx hb dX2_order_56 rfl (lv_at hl 4 rfl) ?_
          refine lv_iload_n hx hb dX2_order_57 rfl (lv_at hl 6 rfl) ?_
          refine lv_iload hx hb dX2_order_58 (lv_at hl 7 rfl) ?_
          obtain ⟨r9, w10, hf, h⟩ := bd1_el h
          refine c_oni (c_runV (b := adr (gB G) 19 a1) (As := [.int a3, .int a4]) (rest := []) hx hb hml hown hts hE hP hS (c_X1_startListening l G hF a1 ha1 a3 a4 w2 r9 w10 hf) (c_rec hE hP (hp_sh hP hF a1 19 ha1) (by decide) rfl rfl) w5_148 miX1_startListening ⟨Nat.le_of_ble_eq_true rfl, Nat.le_of_ble_eq_true rfl⟩ rfl hl.1 rfl (Nat.le_of_ble_eq_true rfl) dX2_order_60 hcs) hS (fun H locs hP hS => ?_)
          refine lv_istore (i := 7) (lv' := [(7, .int r9), (6, .int 0), (5, .int 0), (0, .ref (adr (gB G) 17 0)), (1, .ref (adr (gB G) 19 a1)), (2, kR G a2), (3, .int a3), (4, .int a4)]) hx hb dX2_order_63 hl (by decide) (by simp [kR, cat_rf, cat_ref, cat_int, cat_long, cat_null]) (fun ls hl => ?_)
          refine lv_goto (tgt := 100) hx hb dX2_order_65 (by decide) ?_
          refine lv_iload hx hb dX2_order_100 (lv_at hl 0 rfl) ?_
          refine lv_if_eq (tgt := 115) hx hb dX2_order_102 (by decide) (fun cc => ?_) (fun cc => ?_)
          · have h := br_el h cc
            exact e_v hx hb hr hlocks hP hS (Nat.le_of_ble_eq_true rfl) (Nat.le_of_ble_eq_true rfl) (so_el h) dX2_order_115
          · have h := br_er h cc
            refine lv_aload_n hx hb dX2_order_105 rfl (lv_at hl 4 rfl) ?_
            refine lv_dup hx hb dX2_order_106 rfl ?_
            refine k_get (ci := 0) (v := .int (gI w10 19 a1 5)) hx hb hts hE inX1 hown hP (hp_sh hP hF a1 19 ha1) (by decide) rfl rfl 5 (by decide) w1_229 rfl rfl dX2_order_107 ?_
            refine lv_iconst (v := 1) hx hb dX2_order_110 (by decide) ?_
            refine lv_iadd hx hb dX2_order_111 ?_
            refine k_put (ci := 0) (ty := .int) (v := .int ((gI w10 19 a1 5) + 1)) (w1 := pI w10 19 a1 5 ((gI w10 19 a1 5) + 1)) hx hb hts hE inX1 tyX1 tyX1_ok nmX1 hown hP hS (hp_sh hP hF a1 19 ha1) (by decide) rfl rfl 5 (by decide) w1_229 rfl rfl rfl rfl rfl (Nat.le_of_ble_eq_true rfl) loc_pI (wce_pI.trans rfl) dX2_order_112 (fun w11 H locs e hP hS => ?_)
            have h := sq_at h e
            exact e_v hx hb hr hlocks hP hS (Nat.le_of_ble_eq_true rfl) (Nat.le_of_ble_eq_true rfl) (so_el h) dX2_order_115
      · have h := br_el h cc
        exact e_v hx hb hr hlocks hP hS (Nat.le_of_ble_eq_true rfl) (Nat.le_of_ble_eq_true rfl) (so_el h) dX2_order_45
    · have h := br_el h cc
      refine lv_iconst (v := 1) hx hb dX2_order_21 (by decide) ?_
      refine lv_bipush (v := 99) hx hb dX2_order_22 (by decide) ?_
      refine lv_aload_n hx hb dX2_order_24 rfl (lv_at hl 1 rfl) ?_
      obtain ⟨r12, w13, hf, h⟩ := bd1_el h
      refine c_oni (c_runV (b := adr (gB G) 17 0) (As := []) (rest := [.int 99, .int 1]) hx hb hml hown hts hE hP hS (c_X2_pop l G hF w2 r12 w13 hf) (c_rec hE hP (hp_sh hP hF 0 17 (by decide)) (by decide) rfl rfl) w5_132 miX2_pop ⟨Nat.le_of_ble_eq_true rfl, Nat.le_of_ble_eq_true rfl⟩ rfl hl.1 rfl (Nat.le_of_ble_eq_true rfl) dX2_order_25 hcs) hS (fun H locs hP hS => ?_)
      refine k_mmin hx hb hml hown hts (x := 99) (y := r12) w5_141 (Nat.le_of_ble_eq_true rfl) (Nat.le_of_ble_eq_true rfl) hl.1 (Nat.le_of_ble_eq_true rfl) hcs.1 hcs.2 dX2_order_28 ?_
      refine k_mmax hx hb hml hown hts (x := 1) (y := (jmmin 99 r12)) w5_144 (Nat.le_of_ble_eq_true rfl) (Nat.le_of_ble_eq_true rfl) hl.1 (Nat.le_of_ble_eq_true rfl) hcs.1 hcs.2 dX2_order_31 ?_
      refine lv_goto (tgt := 38) hx hb dX2_order_34 (by decide) ?_
      refine lv_topi (fun x14 e => ?_)
      have h := sq_at h e
      refine lv_istore (i := 6) (lv' := [(6, .int x14), (5, .int 0), (0, .ref (adr (gB G) 17 0)), (1, .ref (adr (gB G) 19 a1)), (2, kR G a2), (3, .int a3), (4, .int a4)]) hx hb dX2_order_38 hl (by decide) (by simp [kR, cat_rf, cat_ref, cat_int, cat_long, cat_null]) (fun ls hl => ?_)
      refine lv_iload hx hb dX2_order_40 (lv_at hl 1 rfl) ?_
      refine lv_if_ne (tgt := 46) hx hb dX2_order_42 (by decide) (fun cc => ?_) (fun cc => ?_)
      · have h := br_er h cc
        refine lv_iconst (v := 1) hx hb dX2_order_46 (by decide) ?_
        refine lv_istore (i := 7) (lv' := [(7, .int 1), (6, .int x14), (5, .int 0), (0, .ref (adr (gB G) 17 0)), (1, .ref (adr (gB G) 19 a1)), (2, kR G a2), (3, .int a3), (4, .int a4)]) hx hb dX2_order_47 hl (by decide) (by simp [kR, cat_rf, cat_ref, cat_int, cat_long, cat_null]) (fun ls hl => ?_)
        refine k_aload_n hx hb dX2_order_49 rfl (lv_at hl 5 rfl) ?_
        refine k_kind (i := 10) (nm := "LISTEN") hx hb hE hS hown rfl (by decide) (hts _ w5_147) dX2_order_50 ?_
        refine k_acmp_ne (x := a2) (y := 11) (tgt := 68) hx hb hE dX2_order_53 (by decide) (fun cc => ?_) (fun cc => ?_)
        · have h := br_er h cc
          refine k_aload_n hx hb dX2_order_68 rfl (lv_at hl 5 rfl) ?_
          refine k_kind (i := 11) (nm := "LEAVE") hx hb hE hS hown rfl (by decide) (hts _ w5_149) dX2_order_69 ?_
          refine k_acmp_ne (x := a2) (y := 12) (tgt := 87) hx hb hE dX2_order_72 (by decide) (fun cc => ?_) (fun cc => ?_)
          · have h := br_er h cc
            refine lv_aload_n hx hb dX2_order_87 rfl (lv_at hl 3 rfl) ?_
            refine k_get (ci := 1) (v := .ref (adr (gB G) 11 0)) hx hb hts hE inX2 hown hP (hp_sh hP hF 0 17 (by decide)) (by decide) rfl rfl 0 (by decide) w1_142 rfl rfl dX2_order_88 ?_
            refine lv_aload_n hx hb dX2_order_91 rfl (lv_at hl 4 rfl) ?_
            refine lv_iload hx hb dX2_order_92 (lv_at hl 7 rfl) ?_
            refine lv_iload hx hb dX2_order_94 (lv_at hl 1 rfl) ?_
            obtain ⟨r15, w16, hf, h⟩ := bd1_el h
            refine c_oni (c_runV (b := adr (gB G) 11 0) (As := [.ref (adr (gB G) 19 a1), .int a4, .int x14]) (rest := []) hx hb hml hown hts hE hP hS (c_X6_carry l G hF a1 ha1 a4 x14 w13 r15 w16 hf) (c_rec hE hP (hp_sh hP hF 0 11 (by decide)) (by decide) rfl rfl) w5_151 miX6_carry ⟨Nat.le_of_ble_eq_true rfl, Nat.le_of_ble_eq_true rfl⟩ rfl hl.1 rfl (Nat.le_of_ble_eq_true rfl) dX2_order_96 hcs) hS (fun H locs hP hS => ?_)
            refine lv_pop hx hb dX2_order_99 rfl ?_
            refine lv_iload hx hb dX2_order_100 (lv_at hl 0 rfl) ?_
            refine lv_if_eq (tgt := 115) hx hb dX2_order_102 (by decide) (fun cc => ?_) (fun cc => ?_)
            · have h := br_el h cc
              exact e_v hx hb hr hlocks hP hS (Nat.le_of_ble_eq_true rfl) (Nat.le_of_ble_eq_true rfl) (so_el h) dX2_order_115
            · have h := br_er h cc
              refine lv_aload_n hx hb dX2_order_105 rfl (lv_at hl 4 rfl) ?_
              refine lv_dup hx hb dX2_order_106 rfl ?_
              refine k_get (ci := 0) (v := .int (gI w16 19 a1 5)) hx hb hts hE inX1 hown hP (hp_sh hP hF a1 19 ha1) (by decide) rfl rfl 5 (by decide) w1_229 rfl rfl dX2_order_107 ?_
              refine lv_iconst (v := 1) hx hb dX2_order_110 (by decide) ?_
              refine lv_iadd hx hb dX2_order_111 ?_
              refine k_put (ci := 0) (ty := .int) (v := .int ((gI w16 19 a1 5) + 1)) (w1 := pI w16 19 a1 5 ((gI w16 19 a1 5) + 1)) hx hb hts hE inX1 tyX1 tyX1_ok nmX1 hown hP hS (hp_sh hP hF a1 19 ha1) (by decide) rfl rfl 5 (by decide) w1_229 rfl rfl rfl rfl rfl (Nat.le_of_ble_eq_true rfl) loc_pI (wce_pI.trans rfl) dX2_order_112 (fun w17 H locs e hP hS => ?_)
              have h := sq_at h e
              exact e_v hx hb hr hlocks hP hS (Nat.le_of_ble_eq_true rfl) (Nat.le_of_ble_eq_true rfl) (so_el h) dX2_order_115
          · have h := br_el h cc
            refine lv_aload_n hx hb dX2_order_75 rfl (lv_at hl 4 rfl) ?_
            refine lv_iload_n hx hb dX2_order_76 rfl (lv_at hl 6 rfl) ?_
            refine lv_iload hx hb dX2_order_77 (lv_at hl 7 rfl) ?_
            obtain ⟨r18, w19, hf, h⟩ := bd1_el h
            refine c_oni (c_runV (b := adr (gB G) 19 a1) (As := [.int a3, .int a4]) (rest := []) hx hb hml hown hts hE hP hS (c_X1_stopListening l G hF a1 ha1 a3 a4 w13 r18 w19 hf) (c_rec hE hP (hp_sh hP hF a1 19 ha1) (by decide) rfl rfl) w5_150 miX1_stopListening ⟨Nat.le_of_ble_eq_true rfl, Nat.le_of_ble_eq_true rfl⟩ rfl hl.1 rfl (Nat.le_of_ble_eq_true rfl) dX2_order_79 hcs) hS (fun H locs hP hS => ?_)
            refine lv_istore (i := 7) (lv' := [(7, .int r18), (6, .int x14), (5, .int 0), (0, .ref (adr (gB G) 17 0)), (1, .ref (adr (gB G) 19 a1)), (2, kR G a2), (3, .int a3), (4, .int a4)]) hx hb dX2_order_82 hl (by decide) (by simp [kR, cat_rf, cat_ref, cat_int, cat_long, cat_null]) (fun ls hl => ?_)
            refine lv_goto (tgt := 100) hx hb dX2_order_84 (by decide) ?_
            refine lv_iload hx hb dX2_order_100 (lv_at hl 0 rfl) ?_
            refine lv_if_eq (tgt := 115) hx hb dX2_order_102 (by decide) (fun cc => ?_) (fun cc => ?_)
            · have h := br_el h cc
              exact e_v hx hb hr hlocks hP hS (Nat.le_of_ble_eq_true rfl) (Nat.le_of_ble_eq_true rfl) (so_el h) dX2_order_115
            · have h := br_er h cc
              refine lv_aload_n hx hb dX2_order_105 rfl (lv_at hl 4 rfl) ?_
              refine lv_dup hx hb dX2_order_106 rfl ?_
              refine k_get (ci := 0) (v := .int (gI w19 19 a1 5)) hx hb hts hE inX1 hown hP (hp_sh hP hF a1 19 ha1) (by decide) rfl rfl 5 (by decide) w1_229 rfl rfl dX2_order_107 ?_
              refine lv_iconst (v := 1) hx hb dX2_order_110 (by decide) ?_
              refine lv_iadd hx hb dX2_order_111 ?_
              refine k_put (ci := 0) (ty := .int) (v := .int ((gI w19 19 a1 5) + 1)) (w1 := pI w19 19 a1 5 ((gI w19 19 a1 5) + 1)) hx hb hts hE inX1 tyX1 tyX1_ok nmX1 hown hP hS (hp_sh hP hF a1 19 ha1) (by decide) rfl rfl 5 (by decide) w1_229 rfl rfl rfl rfl rfl (Nat.le_of_ble_eq_true rfl) loc_pI (wce_pI.trans rfl) dX2_order_112 (fun w20 H locs e hP hS => ?_)
              have h := sq_at h e
              exact e_v hx hb hr hlocks hP hS (Nat.le_of_ble_eq_true rfl) (Nat.le_of_ble_eq_true rfl) (so_el h) dX2_order_115
        · have h := br_el h cc
          refine lv_aload_n hx hb dX2_order_56 rfl (lv_at hl 4 rfl) ?_
          refine lv_iload_n hx hb dX2_order_57 rfl (lv_at hl 6 rfl) ?_
          refine lv_iload hx hb dX2_order_58 (lv_at hl 7 rfl) ?_
          obtain ⟨r21, w22, hf, h⟩ := bd1_el h
          refine c_oni (c_runV (b := adr (gB G) 19 a1) (As := [.int a3, .int a4]) (rest := []) hx hb hml hown hts hE hP hS (c_X1_startListening l G hF a1 ha1 a3 a4 w13 r21 w22 hf) (c_rec hE hP (hp_sh hP hF a1 19 ha1) (by decide) rfl rfl) w5_148 miX1_startListening ⟨Nat.le_of_ble_eq_true rfl, Nat.le_of_ble_eq_true rfl⟩ rfl hl.1 rfl (Nat.le_of_ble_eq_true rfl) dX2_order_60 hcs) hS (fun H locs hP hS => ?_)
          refine lv_istore (i := 7) (lv' := [(7, .int r21), (6, .int x14), (5, .int 0), (0, .ref (adr (gB G) 17 0)), (1, .ref (adr (gB G) 19 a1)), (2, kR G a2), (3, .int a3), (4, .int a4)]) hx hb dX2_order_63 hl (by decide) (by simp [kR, cat_rf, cat_ref, cat_int, cat_long, cat_null]) (fun ls hl => ?_)
          refine lv_goto (tgt := 100) hx hb dX2_order_65 (by decide) ?_
          refine lv_iload hx hb dX2_order_100 (lv_at hl 0 rfl) ?_
          refine lv_if_eq (tgt := 115) hx hb dX2_order_102 (by decide) (fun cc => ?_) (fun cc => ?_)
          · have h := br_el h cc
            exact e_v hx hb hr hlocks hP hS (Nat.le_of_ble_eq_true rfl) (Nat.le_of_ble_eq_true rfl) (so_el h) dX2_order_115
          · have h := br_er h cc
            refine lv_aload_n hx hb dX2_order_105 rfl (lv_at hl 4 rfl) ?_
            refine lv_dup hx hb dX2_order_106 rfl ?_
            refine k_get (ci := 0) (v := .int (gI w22 19 a1 5)) hx hb hts hE inX1 hown hP (hp_sh hP hF a1 19 ha1) (by decide) rfl rfl 5 (by decide) w1_229 rfl rfl dX2_order_107 ?_
            refine lv_iconst (v := 1) hx hb dX2_order_110 (by decide) ?_
            refine lv_iadd hx hb dX2_order_111 ?_
            refine k_put (ci := 0) (ty := .int) (v := .int ((gI w22 19 a1 5) + 1)) (w1 := pI w22 19 a1 5 ((gI w22 19 a1 5) + 1)) hx hb hts hE inX1 tyX1 tyX1_ok nmX1 hown hP hS (hp_sh hP hF a1 19 ha1) (by decide) rfl rfl 5 (by decide) w1_229 rfl rfl rfl rfl rfl (Nat.le_of_ble_eq_true rfl) loc_pI (wce_pI.trans rfl) dX2_order_112 (fun w23 H locs e hP hS => ?_)
            have h := sq_at h e
            exact e_v hx hb hr hlocks hP hS (Nat.le_of_ble_eq_true rfl) (Nat.le_of_ble_eq_true rfl) (so_el h) dX2_order_115
      · have h := br_el h cc
        exact e_v hx hb hr hlocks hP hS (Nat.le_of_ble_eq_true rfl) (Nat.le_of_ble_eq_true rfl) (so_el h) dX2_order_45
  · have h := br_er h cc
    refine lv_iconst (v := 1) hx hb dX2_order_7 (by decide) ?_
    refine lv_goto (tgt := 12) hx hb dX2_order_8 (by decide) ?_
    refine lv_istore (i := 5) (lv' := [(5, .int 1), (0, .ref (adr (gB G) 17 0)), (1, .ref (adr (gB G) 19 a1)), (2, kR G a2), (3, .int a3), (4, .int a4)]) hx hb dX2_order_12 hl (by decide) (by simp [kR, cat_rf, cat_ref, cat_int, cat_long, cat_null]) (fun ls hl => ?_)
    refine k_aload_n hx hb dX2_order_14 rfl (lv_at hl 3 rfl) ?_
    refine k_kind (i := 13) (nm := "TELL") hx hb hE hS hown rfl (by decide) (hts _ w5_140) dX2_order_15 ?_
    refine k_acmp_ne (x := a2) (y := 14) (tgt := 37) hx hb hE dX2_order_18 (by decide) (fun cc => ?_) (fun cc => ?_)
    · have h := br_er h cc
      refine lv_iconst (v := 0) hx hb dX2_order_37 (by decide) ?_
      refine lv_istore (i := 6) (lv' := [(6, .int 0), (5, .int 1), (0, .ref (adr (gB G) 17 0)), (1, .ref (adr (gB G) 19 a1)), (2, kR G a2), (3, .int a3), (4, .int a4)]) hx hb dX2_order_38 hl (by decide) (by simp [kR, cat_rf, cat_ref, cat_int, cat_long, cat_null]) (fun ls hl => ?_)
      refine lv_iload hx hb dX2_order_40 (lv_at hl 1 rfl) ?_
      refine lv_if_ne (tgt := 46) hx hb dX2_order_42 (by decide) (fun cc => ?_) (fun cc => ?_)
      · have h := br_er h cc
        refine lv_iconst (v := 1) hx hb dX2_order_46 (by decide) ?_
        refine lv_istore (i := 7) (lv' := [(7, .int 1), (6, .int 0), (5, .int 1), (0, .ref (adr (gB G) 17 0)), (1, .ref (adr (gB G) 19 a1)), (2, kR G a2), (3, .int a3), (4, .int a4)]) hx hb dX2_order_47 hl (by decide) (by simp [kR, cat_rf, cat_ref, cat_int, cat_long, cat_null]) (fun ls hl => ?_)
        refine k_aload_n hx hb dX2_order_49 rfl (lv_at hl 5 rfl) ?_
        refine k_kind (i := 10) (nm := "LISTEN") hx hb hE hS hown rfl (by decide) (hts _ w5_147) dX2_order_50 ?_
        refine k_acmp_ne (x := a2) (y := 11) (tgt := 68) hx hb hE dX2_order_53 (by decide) (fun cc => ?_) (fun cc => ?_)
        · have h := br_er h cc
          refine k_aload_n hx hb dX2_order_68 rfl (lv_at hl 5 rfl) ?_
          refine k_kind (i := 11) (nm := "LEAVE") hx hb hE hS hown rfl (by decide) (hts _ w5_149) dX2_order_69 ?_
          refine k_acmp_ne (x := a2) (y := 12) (tgt := 87) hx hb hE dX2_order_72 (by decide) (fun cc => ?_) (fun cc => ?_)
          · have h := br_er h cc
            refine lv_aload_n hx hb dX2_order_87 rfl (lv_at hl 3 rfl) ?_
            refine k_get (ci := 1) (v := .ref (adr (gB G) 11 0)) hx hb hts hE inX2 hown hP (hp_sh hP hF 0 17 (by decide)) (by decide) rfl rfl 0 (by decide) w1_142 rfl rfl dX2_order_88 ?_
            refine lv_aload_n hx hb dX2_order_91 rfl (lv_at hl 4 rfl) ?_
            refine lv_iload hx hb dX2_order_92 (lv_at hl 7 rfl) ?_
            refine lv_iload hx hb dX2_order_94 (lv_at hl 1 rfl) ?_
            obtain ⟨r24, w25, hf, h⟩ := bd1_el h
            refine c_oni (c_runV (b := adr (gB G) 11 0) (As := [.ref (adr (gB G) 19 a1), .int a4, .int 0]) (rest := []) hx hb hml hown hts hE hP hS (c_X6_carry l G hF a1 ha1 a4 0 w2 r24 w25 hf) (c_rec hE hP (hp_sh hP hF 0 11 (by decide)) (by decide) rfl rfl) w5_151 miX6_carry ⟨Nat.le_of_ble_eq_true rfl, Nat.le_of_ble_eq_true rfl⟩ rfl hl.1 rfl (Nat.le_of_ble_eq_true rfl) dX2_order_96 hcs) hS (fun H locs hP hS => ?_)
            refine lv_pop hx hb dX2_order_99 rfl ?_
            refine lv_iload hx hb dX2_order_100 (lv_at hl 0 rfl) ?_
            refine lv_if_eq (tgt := 115) hx hb dX2_order_102 (by decide) (fun cc => ?_) (fun cc => ?_)
            · have h := br_el h cc
              exact e_v hx hb hr hlocks hP hS (Nat.le_of_ble_eq_true rfl) (Nat.le_of_ble_eq_true rfl) (so_el h) dX2_order_115
            · have h := br_er h cc
              refine lv_aload_n hx hb dX2_order_105 rfl (lv_at hl 4 rfl) ?_
              refine lv_dup hx hb dX2_order_106 rfl ?_
              refine k_get (ci := 0) (v := .int (gI w25 19 a1 5)) hx hb hts hE inX1 hown hP (hp_sh hP hF a1 19 ha1) (by decide) rfl rfl 5 (by decide) w1_229 rfl rfl dX2_order_107 ?_
              refine lv_iconst (v := 1) hx hb dX2_order_110 (by decide) ?_
              refine lv_iadd hx hb dX2_order_111 ?_
              refine k_put (ci := 0) (ty := .int) (v := .int ((gI w25 19 a1 5) + 1)) (w1 := pI w25 19 a1 5 ((gI w25 19 a1 5) + 1)) hx hb hts hE inX1 tyX1 tyX1_ok nmX1 hown hP hS (hp_sh hP hF a1 19 ha1) (by decide) rfl rfl 5 (by decide) w1_229 rfl rfl rfl rfl rfl (Nat.le_of_ble_eq_true rfl) loc_pI (wce_pI.trans rfl) dX2_order_112 (fun w26 H locs e hP hS => ?_)
              have h := sq_at h e
              exact e_v hx hb hr hlocks hP hS (Nat.le_of_ble_eq_true rfl) (Nat.le_of_ble_eq_true rfl) (so_el h) dX2_order_115
          · have h := br_el h cc
            refine lv_aload_n hx hb dX2_order_75 rfl (lv_at hl 4 rfl) ?_
            refine lv_iload_n hx hb dX2_order_76 rfl (lv_at hl 6 rfl) ?_
            refine lv_iload hx hb dX2_order_77 (lv_at hl 7 rfl) ?_
            obtain ⟨r27, w28, hf, h⟩ := bd1_el h
            refine c_oni (c_runV (b := adr (gB G) 19 a1) (As := [.int a3, .int a4]) (rest := []) hx hb hml hown hts hE hP hS (c_X1_stopListening l G hF a1 ha1 a3 a4 w2 r27 w28 hf) (c_rec hE hP (hp_sh hP hF a1 19 ha1) (by decide) rfl rfl) w5_150 miX1_stopListening ⟨Nat.le_of_ble_eq_true rfl, Nat.le_of_ble_eq_true rfl⟩ rfl hl.1 rfl (Nat.le_of_ble_eq_true rfl) dX2_order_79 hcs) hS (fun H locs hP hS => ?_)
            refine lv_istore (i := 7) (lv' := [(7, .int r27), (6, .int 0), (5, .int 1), (0, .ref (adr (gB G) 17 0)), (1, .ref (adr (gB G) 19 a1)), (2, kR G a2), (3, .int a3), (4, .int a4)]) hx hb dX2_order_82 hl (by decide) (by simp [kR, cat_rf, cat_ref, cat_int, cat_long, cat_null]) (fun ls hl => ?_)
            refine lv_goto (tgt := 100) hx hb dX2_order_84 (by decide) ?_
            refine lv_iload hx hb dX2_order_100 (lv_at hl 0 rfl) ?_
            refine lv_if_eq (tgt := 115) hx hb dX2_order_102 (by decide) (fun cc => ?_) (fun cc => ?_)
            · have h := br_el h cc
              exact e_v hx hb hr hlocks hP hS (Nat.le_of_ble_eq_true rfl) (Nat.le_of_ble_eq_true rfl) (so_el h) dX2_order_115
            · have h := br_er h cc
              refine lv_aload_n hx hb dX2_order_105 rfl (lv_at hl 4 rfl) ?_
              refine lv_dup hx hb dX2_order_106 rfl ?_
              refine k_get (ci := 0) (v := .int (gI w28 19 a1 5)) hx hb hts hE inX1 hown hP (hp_sh hP hF a1 19 ha1) (by decide) rfl rfl 5 (by decide) w1_229 rfl rfl dX2_order_107 ?_
              refine lv_iconst (v := 1) hx hb dX2_order_110 (by decide) ?_
              refine lv_iadd hx hb dX2_order_111 ?_
              refine k_put (ci := 0) (ty := .int) (v := .int ((gI w28 19 a1 5) + 1)) (w1 := pI w28 19 a1 5 ((gI w28 19 a1 5) + 1)) hx hb hts hE inX1 tyX1 tyX1_ok nmX1 hown hP hS (hp_sh hP hF a1 19 ha1) (by decide) rfl rfl 5 (by decide) w1_229 rfl rfl rfl rfl rfl (Nat.le_of_ble_eq_true rfl) loc_pI (wce_pI.trans rfl) dX2_order_112 (fun w29 H locs e hP hS => ?_)
              have h := sq_at h e
              exact e_v hx hb hr hlocks hP hS (Nat.le_of_ble_eq_true rfl) (Nat.le_of_ble_eq_true rfl) (so_el h) dX2_order_115
        · have h := br_el h cc
          refine lv_aload_n hx hb dX2_order_56 rfl (lv_at hl 4 rfl) ?_
          refine lv_iload_n hx hb dX2_order_57 rfl (lv_at hl 6 rfl) ?_
          refine lv_iload hx hb dX2_order_58 (lv_at hl 7 rfl) ?_
          obtain ⟨r30, w31, hf, h⟩ := bd1_el h
          refine c_oni (c_runV (b := adr (gB G) 19 a1) (As := [.int a3, .int a4]) (rest := []) hx hb hml hown hts hE hP hS (c_X1_startListening l G hF a1 ha1 a3 a4 w2 r30 w31 hf) (c_rec hE hP (hp_sh hP hF a1 19 ha1) (by decide) rfl rfl) w5_148 miX1_startListening ⟨Nat.le_of_ble_eq_true rfl, Nat.le_of_ble_eq_true rfl⟩ rfl hl.1 rfl (Nat.le_of_ble_eq_true rfl) dX2_order_60 hcs) hS (fun H locs hP hS => ?_)
          refine lv_istore (i := 7) (lv' := [(7, .int r30), (6, .int 0), (5, .int 1), (0, .ref (adr (gB G) 17 0)), (1, .ref (adr (gB G) 19 a1)), (2, kR G a2), (3, .int a3), (4, .int a4)]) hx hb dX2_order_63 hl (by decide) (by simp [kR, cat_rf, cat_ref, cat_int, cat_long, cat_null]) (fun ls hl => ?_)
          refine lv_goto (tgt := 100) hx hb dX2_order_65 (by decide) ?_
          refine lv_iload hx hb dX2_order_100 (lv_at hl 0 rfl) ?_
          refine lv_if_eq (tgt := 115) hx hb dX2_order_102 (by decide) (fun cc => ?_) (fun cc => ?_)
          · have h := br_el h cc
            exact e_v hx hb hr hlocks hP hS (Nat.le_of_ble_eq_true rfl) (Nat.le_of_ble_eq_true rfl) (so_el h) dX2_order_115
          · have h := br_er h cc
            refine lv_aload_n hx hb dX2_order_105 rfl (lv_at hl 4 rfl) ?_
            refine lv_dup hx hb dX2_order_106 rfl ?_
            refine k_get (ci := 0) (v := .int (gI w31 19 a1 5)) hx hb hts hE inX1 hown hP (hp_sh hP hF a1 19 ha1) (by decide) rfl rfl 5 (by decide) w1_229 rfl rfl dX2_order_107 ?_
            refine lv_iconst (v := 1) hx hb dX2_order_110 (by decide) ?_
            refine lv_iadd hx hb dX2_order_111 ?_
            refine k_put (ci := 0) (ty := .int) (v := .int ((gI w31 19 a1 5) + 1)) (w1 := pI w31 19 a1 5 ((gI w31 19 a1 5) + 1)) hx hb hts hE inX1 tyX1 tyX1_ok nmX1 hown hP hS (hp_sh hP hF a1 19 ha1) (by decide) rfl rfl 5 (by decide) w1_229 rfl rfl rfl rfl rfl (Nat.le_of_ble_eq_true rfl) loc_pI (wce_pI.trans rfl) dX2_order_112 (fun w32 H locs e hP hS => ?_)
            have h := sq_at h e
            exact e_v hx hb hr hlocks hP hS (Nat.le_of_ble_eq_true rfl) (Nat.le_of_ble_eq_true rfl) (so_el h) dX2_order_115
      · have h := br_el h cc
        exact e_v hx hb hr hlocks hP hS (Nat.le_of_ble_eq_true rfl) (Nat.le_of_ble_eq_true rfl) (so_el h) dX2_order_45
    · have h := br_el h cc
      refine lv_iconst (v := 1) hx hb dX2_order_21 (by decide) ?_
      refine lv_bipush (v := 99) hx hb dX2_order_22 (by decide) ?_
      refine lv_aload_n hx hb dX2_order_24 rfl (lv_at hl 1 rfl) ?_
      obtain ⟨r33, w34, hf, h⟩ := bd1_el h
      refine c_oni (c_runV (b := adr (gB G) 17 0) (As := []) (rest := [.int 99, .int 1]) hx hb hml hown hts hE hP hS (c_X2_pop l G hF w2 r33 w34 hf) (c_rec hE hP (hp_sh hP hF 0 17 (by decide)) (by decide) rfl rfl) w5_132 miX2_pop ⟨Nat.le_of_ble_eq_true rfl, Nat.le_of_ble_eq_true rfl⟩ rfl hl.1 rfl (Nat.le_of_ble_eq_true rfl) dX2_order_25 hcs) hS (fun H locs hP hS => ?_)
      refine k_mmin hx hb hml hown hts (x := 99) (y := r33) w5_141 (Nat.le_of_ble_eq_true rfl) (Nat.le_of_ble_eq_true rfl) hl.1 (Nat.le_of_ble_eq_true rfl) hcs.1 hcs.2 dX2_order_28 ?_
      refine k_mmax hx hb hml hown hts (x := 1) (y := (jmmin 99 r33)) w5_144 (Nat.le_of_ble_eq_true rfl) (Nat.le_of_ble_eq_true rfl) hl.1 (Nat.le_of_ble_eq_true rfl) hcs.1 hcs.2 dX2_order_31 ?_
      refine lv_goto (tgt := 38) hx hb dX2_order_34 (by decide) ?_
      refine lv_topi (fun x35 e => ?_)
      have h := sq_at h e
      refine lv_istore (i := 6) (lv' := [(6, .int x35), (5, .int 1), (0, .ref (adr (gB G) 17 0)), (1, .ref (adr (gB G) 19 a1)), (2, kR G a2), (3, .int a3), (4, .int a4)]) hx hb dX2_order_38 hl (by decide) (by simp [kR, cat_rf, cat_ref, cat_int, cat_long, cat_null]) (fun ls hl => ?_)
      refine lv_iload hx hb dX2_order_40 (lv_at hl 1 rfl) ?_
      refine lv_if_ne (tgt := 46) hx hb dX2_order_42 (by decide) (fun cc => ?_) (fun cc => ?_)
      · have h := br_er h cc
        refine lv_iconst (v := 1) hx hb dX2_order_46 (by decide) ?_
        refine lv_istore (i := 7) (lv' := [(7, .int 1), (6, .int x35), (5, .int 1), (0, .ref (adr (gB G) 17 0)), (1, .ref (adr (gB G) 19 a1)), (2, kR G a2), (3, .int a3), (4, .int a4)]) hx hb dX2_order_47 hl (by decide) (by simp [kR, cat_rf, cat_ref, cat_int, cat_long, cat_null]) (fun ls hl => ?_)
        refine k_aload_n hx hb dX2_order_49 rfl (lv_at hl 5 rfl) ?_
        refine k_kind (i := 10) (nm := "LISTEN") hx hb hE hS hown rfl (by decide) (hts _ w5_147) dX2_order_50 ?_
        refine k_acmp_ne (x := a2) (y := 11) (tgt := 68) hx hb hE dX2_order_53 (by decide) (fun cc => ?_) (fun cc => ?_)
        · have h := br_er h cc
          refine k_aload_n hx hb dX2_order_68 rfl (lv_at hl 5 rfl) ?_
          refine k_kind (i := 11) (nm := "LEAVE") hx hb hE hS hown rfl (by decide) (hts _ w5_149) dX2_order_69 ?_
          refine k_acmp_ne (x := a2) (y := 12) (tgt := 87) hx hb hE dX2_order_72 (by decide) (fun cc => ?_) (fun cc => ?_)
          · have h := br_er h cc
            refine lv_aload_n hx hb dX2_order_87 rfl (lv_at hl 3 rfl) ?_
            refine k_get (ci := 1) (v := .ref (adr (gB G) 11 0)) hx hb hts hE inX2 hown hP (hp_sh hP hF 0 17 (by decide)) (by decide) rfl rfl 0 (by decide) w1_142 rfl rfl dX2_order_88 ?_
            refine lv_aload_n hx hb dX2_order_91 rfl (lv_at hl 4 rfl) ?_
            refine lv_iload hx hb dX2_order_92 (lv_at hl 7 rfl) ?_
            refine lv_iload hx hb dX2_order_94 (lv_at hl 1 rfl) ?_
            obtain ⟨r36, w37, hf, h⟩ := bd1_el h
            refine c_oni (c_runV (b := adr (gB G) 11 0) (As := [.ref (adr (gB G) 19 a1), .int a4, .int x35]) (rest := []) hx hb hml hown hts hE hP hS (c_X6_carry l G hF a1 ha1 a4 x35 w34 r36 w37 hf) (c_rec hE hP (hp_sh hP hF 0 11 (by decide)) (by decide) rfl rfl) w5_151 miX6_carry ⟨Nat.le_of_ble_eq_true rfl, Nat.le_of_ble_eq_true rfl⟩ rfl hl.1 rfl (Nat.le_of_ble_eq_true rfl) dX2_order_96 hcs) hS (fun H locs hP hS => ?_)
            refine lv_pop hx hb dX2_order_99 rfl ?_
            refine lv_iload hx hb dX2_order_100 (lv_at hl 0 rfl) ?_
            refine lv_if_eq (tgt := 115) hx hb dX2_order_102 (by decide) (fun cc => ?_) (fun cc => ?_)
            · have h := br_el h cc
              exact e_v hx hb hr hlocks hP hS (Nat.le_of_ble_eq_true rfl) (Nat.le_of_ble_eq_true rfl) (so_el h) dX2_order_115
            · have h := br_er h cc
              refine lv_aload_n hx hb dX2_order_105 rfl (lv_at hl 4 rfl) ?_
              refine lv_dup hx hb dX2_order_106 rfl ?_
              refine k_get (ci := 0) (v := .int (gI w37 19 a1 5)) hx hb hts hE inX1 hown hP (hp_sh hP hF a1 19 ha1) (by decide) rfl rfl 5 (by decide) w1_229 rfl rfl dX2_order_107 ?_
              refine lv_iconst (v := 1) hx hb dX2_order_110 (by decide) ?_
              refine lv_iadd hx hb dX2_order_111 ?_
              refine k_put (ci := 0) (ty := .int) (v := .int ((gI w37 19 a1 5) + 1)) (w1 := pI w37 19 a1 5 ((gI w37 19 a1 5) + 1)) hx hb hts hE inX1 tyX1 tyX1_ok nmX1 hown hP hS (hp_sh hP hF a1 19 ha1) (by decide) rfl rfl 5 (by decide) w1_229 rfl rfl rfl rfl rfl (Nat.le_of_ble_eq_true rfl) loc_pI (wce_pI.trans rfl) dX2_order_112 (fun w38 H locs e hP hS => ?_)
              have h := sq_at h e
              exact e_v hx hb hr hlocks hP hS (Nat.le_of_ble_eq_true rfl) (Nat.le_of_ble_eq_true rfl) (so_el h) dX2_order_115
          · have h := br_el h cc
            refine lv_aload_n hx hb dX2_order_75 rfl (lv_at hl 4 rfl) ?_
            refine lv_iload_n hx hb dX2_order_76 rfl (lv_at hl 6 rfl) ?_
            refine lv_iload hx hb dX2_order_77 (lv_at hl 7 rfl) ?_
            obtain ⟨r39, w40, hf, h⟩ := bd1_el h
            refine c_oni (c_runV (b := adr (gB G) 19 a1) (As := [.int a3, .int a4]) (rest := []) hx hb hml hown hts hE hP hS (c_X1_stopListening l G hF a1 ha1 a3 a4 w34 r39 w40 hf) (c_rec hE hP (hp_sh hP hF a1 19 ha1) (by decide) rfl rfl) w5_150 miX1_stopListening ⟨Nat.le_of_ble_eq_true rfl, Nat.le_of_ble_eq_true rfl⟩ rfl hl.1 rfl (Nat.le_of_ble_eq_true rfl) dX2_order_79 hcs) hS (fun H locs hP hS => ?_)
            refine lv_istore (i := 7) (lv' := [(7, .int r39), (6, .int x35), (5, .int 1), (0, .ref (adr (gB G) 17 0)), (1, .ref (adr (gB G) 19 a1)), (2, kR G a2), (3, .int a3), (4, .int a4)]) hx hb dX2_order_82 hl (by decide) (by simp [kR, cat_rf, cat_ref, cat_int, cat_long, cat_null]) (fun ls hl => ?_)
            refine lv_goto (tgt := 100) hx hb dX2_order_84 (by decide) ?_
            refine lv_iload hx hb dX2_order_100 (lv_at hl 0 rfl) ?_
            refine lv_if_eq (tgt := 115) hx hb dX2_order_102 (by decide) (fun cc => ?_) (fun cc => ?_)
            · have h := br_el h cc
              exact e_v hx hb hr hlocks hP hS (Nat.le_of_ble_eq_true rfl) (Nat.le_of_ble_eq_true rfl) (so_el h) dX2_order_115
            · have h := br_er h cc
              refine lv_aload_n hx hb dX2_order_105 rfl (lv_at hl 4 rfl) ?_
              refine lv_dup hx hb dX2_order_106 rfl ?_
              refine k_get (ci := 0) (v := .int (gI w40 19 a1 5)) hx hb hts hE inX1 hown hP (hp_sh hP hF a1 19 ha1) (by decide) rfl rfl 5 (by decide) w1_229 rfl rfl dX2_order_107 ?_
              refine lv_iconst (v := 1) hx hb dX2_order_110 (by decide) ?_
              refine lv_iadd hx hb dX2_order_111 ?_
              refine k_put (ci := 0) (ty := .int) (v := .int ((gI w40 19 a1 5) + 1)) (w1 := pI w40 19 a1 5 ((gI w40 19 a1 5) + 1)) hx hb hts hE inX1 tyX1 tyX1_ok nmX1 hown hP hS (hp_sh hP hF a1 19 ha1) (by decide) rfl rfl 5 (by decide) w1_229 rfl rfl rfl rfl rfl (Nat.le_of_ble_eq_true rfl) loc_pI (wce_pI.trans rfl) dX2_order_112 (fun w41 H locs e hP hS => ?_)
              have h := sq_at h e
              exact e_v hx hb hr hlocks hP hS (Nat.le_of_ble_eq_true rfl) (Nat.le_of_ble_eq_true rfl) (so_el h) dX2_order_115
        · have h := br_el h cc
          refine lv_aload_n hx hb dX2_order_56 rfl (lv_at hl 4 rfl) ?_
          refine lv_iload_n hx hb dX2_order_57 rfl (lv_at hl 6 rfl) ?_
          refine lv_iload hx hb dX2_order_58 (lv_at hl 7 rfl) ?_
          obtain ⟨r42, w43, hf, h⟩ := bd1_el h
          refine c_oni (c_runV (b := adr (gB G) 19 a1) (As := [.int a3, .int a4]) (rest := []) hx hb hml hown hts hE hP hS (c_X1_startListening l G hF a1 ha1 a3 a4 w34 r42 w43 hf) (c_rec hE hP (hp_sh hP hF a1 19 ha1) (by decide) rfl rfl) w5_148 miX1_startListening ⟨Nat.le_of_ble_eq_true rfl, Nat.le_of_ble_eq_true rfl⟩ rfl hl.1 rfl (Nat.le_of_ble_eq_true rfl) dX2_order_60 hcs) hS (fun H locs hP hS => ?_)
          refine lv_istore (i := 7) (lv' := [(7, .int r42), (6, .int x35), (5, .int 1), (0, .ref (adr (gB G) 17 0)), (1, .ref (adr (gB G) 19 a1)), (2, kR G a2), (3, .int a3), (4, .int a4)]) hx hb dX2_order_63 hl (by decide) (by simp [kR, cat_rf, cat_ref, cat_int, cat_long, cat_null]) (fun ls hl => ?_)
          refine lv_goto (tgt := 100) hx hb dX2_order_65 (by decide) ?_
          refine lv_iload hx hb dX2_order_100 (lv_at hl 0 rfl) ?_
          refine lv_if_eq (tgt := 115) hx hb dX2_order_102 (by decide) (fun cc => ?_) (fun cc => ?_)
          · have h := br_el h cc
            exact e_v hx hb hr hlocks hP hS (Nat.le_of_ble_eq_true rfl) (Nat.le_of_ble_eq_true rfl) (so_el h) dX2_order_115
          · have h := br_er h cc
            refine lv_aload_n hx hb dX2_order_105 rfl (lv_at hl 4 rfl) ?_
            refine lv_dup hx hb dX2_order_106 rfl ?_
            refine k_get (ci := 0) (v := .int (gI w43 19 a1 5)) hx hb hts hE inX1 hown hP (hp_sh hP hF a1 19 ha1) (by decide) rfl rfl 5 (by decide) w1_229 rfl rfl dX2_order_107 ?_
            refine lv_iconst (v := 1) hx hb dX2_order_110 (by decide) ?_
            refine lv_iadd hx hb dX2_order_111 ?_
            refine k_put (ci := 0) (ty := .int) (v := .int ((gI w43 19 a1 5) + 1)) (w1 := pI w43 19 a1 5 ((gI w43 19 a1 5) + 1)) hx hb hts hE inX1 tyX1 tyX1_ok nmX1 hown hP hS (hp_sh hP hF a1 19 ha1) (by decide) rfl rfl 5 (by decide) w1_229 rfl rfl rfl rfl rfl (Nat.le_of_ble_eq_true rfl) loc_pI (wce_pI.trans rfl) dX2_order_112 (fun w44 H locs e hP hS => ?_)
            have h := sq_at h e
            exact e_v hx hb hr hlocks hP hS (Nat.le_of_ble_eq_true rfl) (Nat.le_of_ble_eq_true rfl) (so_el h) dX2_order_115
      · have h := br_el h cc
        exact e_v hx hb hr hlocks hP hS (Nat.le_of_ble_eq_true rfl) (Nat.le_of_ble_eq_true rfl) (so_el h) dX2_order_45

def f_X2_step (a1 : Nat) (a2 : Nat) (a3 : Int32) (a4 : Int32) (w : Mm) : Option (Mm) := gd (kok a2) (br ((swv (a2)) = 3 ∨ (swv (a2)) = 4 ∨ (swv (a2)) = 5) (bd0 (f_X2_order a1 a2 a3 a4 w) (fun w2 => some w2)) (br ((swv (a2)) = 6) (bd1 (f_X2_pop w) (fun r3 w4 => br (r3 = 0) (bd1 (f_X2_oneIf 1 w4) (fun r8 w9 => bd0 (f_X2_push r8 w9) (fun w10 => some w10))) (bd1 (f_X2_oneIf 0 w4) (fun r5 w6 => bd0 (f_X2_push r5 w6) (fun w7 => some w7))))) (br ((swv (a2)) = 8) (bd1 (f_X1_isInRow a1 a3 a4 w) (fun r11 w12 => bd1 (f_X2_oneIf r11 w12) (fun r13 w14 => bd0 (f_X2_push r13 w14) (fun w15 => some w15)))) (br ((swv (a2)) = 9) (bd0 (f_X2_push a3 w) (fun w16 => some w16)) (br ((swv (a2)) = 10) (bd0 (f_X2_push (gI w 19 a1 4) w) (fun w17 => some w17)) (br ((swv (a2)) = 11) (bd0 (f_X2_push (gI w 19 a1 7) w) (fun w18 => some w18)) (br ((swv (a2)) = 12) (bd0 (f_X2_push (gI w 19 a1 6) w) (fun w19 => some w19)) (br ((swv (a2)) = 13) (bd1 (f_X1_heardAt a1 a3 w) (fun r20 w21 => bd0 (f_X2_push r20 w21) (fun w22 => some w22))) (br ((swv (a2)) = 14) (bd1 (f_X1_latestAt a1 a3 w) (fun r23 w24 => bd0 (f_X2_push r23 w24) (fun w25 => some w25))) (br ((swv (a2)) = 15) (bd1 (f_X1_petalsAt a1 (a3 - 8) w) (fun r26 w27 => bd0 (f_X2_push r26 w27) (fun w28 => some w28))) (br ((swv (a2)) = 20) (bd0 (f_X2_push 1 w) (fun w29 => some w29)) (br ((swv (a2)) = 21) (bd1 (f_X2_pop w) (fun r30 w31 => bd0 (f_X2_push (-r30) w31) (fun w32 => some w32))) (bd0 (f_X2_join a2 w) (fun w33 => some w33))))))))))))))

theorem miX2_step : MI RX2 yX2_step cX2_step 5 none 4 := ⟨w5_111, (tb_sel 29 rfl rfl), w1_8, w5_112, rfl, by decide +kernel, by decide +kernel, by decide +kernel⟩
set_option maxHeartbeats 4000000 in
set_option maxRecDepth 100000 in
theorem c_X2_step (l : Launch) (G : GG) (hF : gF G = true) (a1 : Nat) (ha1 : a1 < cnt 19) (a2 : Nat) (a3 : Int32) (a4 : Int32) (w : Mm) (w' : Mm) (h : f_X2_step a1 a2 a3 a4 w = some w') : Kv l G yX2_step cX2_step 5 none { frames := 5, cells := 0, slots := 0, locals := 120 } [.ref (adr (gB G) 17 0), .ref (adr (gB G) 19 a1), kR G a2, .int a3, .int a4] w w' := by
  refine k_of (by decide +kernel) (by simp [lg_sl, cat_kR, cat_ref, cat_int, cat_long]) ?_
  intro p e s m args below meth c ls hx hb hml hr hown hlocks hts hin hP hE hl
  have hC : CX p s m args c meth G cX2_step 5 none RX2 := ⟨hx, hb, hml, hr, hown, hlocks, hts, hE⟩
  have hS : va_S (Ab G) s.heap s.heap [] := va_S.rf
  have hcs : 0 ≤ 0 ∧ 0 ≤ 0 := ⟨Nat.zero_le _, Nat.zero_le _⟩
  have hl : lv_has ls 5 [(0, .ref (adr (gB G) 17 0)), (1, .ref (adr (gB G) 19 a1)), (2, kR G a2), (3, .int a3), (4, .int a4)] := by simpa [lv_args, cat_kR, cat_ref, cat_int, cat_long] using hl
  unfold f_X2_step at h
  refine k_swm hx hb hE hS hown (hts _ w5_113) dX2_step_0 ?_
  refine k_aload_n hx hb dX2_step_3 rfl (lv_at hl 2 rfl) ?_
  obtain ⟨g1, h⟩ := gd_el h
  refine k_ord hx hb hml hown hts hE hP hS g1 w5_114 (Nat.le_of_ble_eq_true rfl) (Nat.le_of_ble_eq_true rfl) hl.1 (Nat.le_of_ble_eq_true rfl) hcs dX2_step_4 (fun H locs hP hS => ?_)
  refine k_swald hx hb hE hS g1 dX2_step_7 ?_
  have ho := h
  by_cases c0 : (swv (a2)) = 3 ∨ (swv (a2)) = 4 ∨ (swv (a2)) = 5
  · have h := br_el h c0
    refine k_tab (tgt := 239) hx hb dX2_step_8 (by decide) (by rcases c0 with cq | cq | cq <;> (rw [cq]; decide)) ?_
    refine lv_aload_n hx hb dX2_step_239 rfl (lv_at hl 0 rfl) ?_
    refine lv_aload_n hx hb dX2_step_240 rfl (lv_at hl 1 rfl) ?_
    refine k_aload_n hx hb dX2_step_241 rfl (lv_at hl 2 rfl) ?_
    refine lv_iload_n hx hb dX2_step_242 rfl (lv_at hl 3 rfl) ?_
    refine lv_iload hx hb dX2_step_243 (lv_at hl 4 rfl) ?_
    obtain ⟨w2, hf, h⟩ := bd0_el h
    refine c_onv (c_runV (b := adr (gB G) 17 0) (As := [.ref (adr (gB G) 19 a1), kR G a2, .int a3, .int a4]) (rest := []) hx hb hml hown hts hE hP hS (c_X2_order l G hF a1 ha1 a2 a3 a4 w w2 hf) (c_rec hE hP (hp_sh hP hF 0 17 (by decide)) (by decide) rfl rfl) w5_136 miX2_order ⟨Nat.le_of_ble_eq_true rfl, Nat.le_of_ble_eq_true rfl⟩ rfl hl.1 rfl (Nat.le_of_ble_eq_true rfl) dX2_step_245 hcs) hS (fun H locs hP hS => ?_)
    refine lv_goto (tgt := 256) hx hb dX2_step_248 (by decide) ?_
    exact e_v hx hb hr hlocks hP hS (Nat.le_of_ble_eq_true rfl) (Nat.le_of_ble_eq_true rfl) (so_el h) dX2_step_256
  · have h := br_er h c0
    by_cases c1 : (swv (a2)) = 6
    · have h := br_el h c1
      refine k_tab (tgt := 217) hx hb dX2_step_8 (by decide) (by have cq := c1; (rw [cq]; decide)) ?_
      refine lv_aload_n hx hb dX2_step_217 rfl (lv_at hl 0 rfl) ?_
      refine lv_aload_n hx hb dX2_step_218 rfl (lv_at hl 0 rfl) ?_
      obtain ⟨r3, w4, hf, h⟩ := bd1_el h
      refine c_oni (c_runV (b := adr (gB G) 17 0) (As := []) (rest := [.ref (adr (gB G) 17 0)]) hx hb hml hown hts hE hP hS (c_X2_pop l G hF w r3 w4 hf) (c_rec hE hP (hp_sh hP hF 0 17 (by decide)) (by decide) rfl rfl) w5_132 miX2_pop ⟨Nat.le_of_ble_eq_true rfl, Nat.le_of_ble_eq_true rfl⟩ rfl hl.1 rfl (Nat.le_of_ble_eq_true rfl) dX2_step_219 hcs) hS (fun H locs hP hS => ?_)
      refine lv_if_ne (tgt := 229) hx hb dX2_step_222 (by decide) (fun cc => ?_) (fun cc => ?_)
      · have h := br_er h cc
        refine lv_iconst (v := 0) hx hb dX2_step_229 (by decide) ?_
        obtain ⟨r5, w6, hf, h⟩ := bd1_el h
        refine c_oni (c_runS (As := [.int 0]) (rest := [.ref (adr (gB G) 17 0)]) hx hb hml hown hts hE hP hS (c_X2_oneIf l G hF 0 w4 r5 w6 hf) w5_129 miX2_oneIf ⟨Nat.le_of_ble_eq_true rfl, Nat.le_of_ble_eq_true rfl⟩ rfl hl.1 rfl (Nat.le_of_ble_eq_true rfl) dX2_step_230 hcs) hS (fun H locs hP hS => ?_)
        obtain ⟨w7, hf, h⟩ := bd0_el h
        refine c_onv (c_runV (b := adr (gB G) 17 0) (As := [.int r5]) (rest := []) hx hb hml hown hts hE hP hS (c_X2_push l G hF r5 w6 w7 hf) (c_rec hE hP (hp_sh hP hF 0 17 (by decide)) (by decide) rfl rfl) w5_115 miX2_push ⟨Nat.le_of_ble_eq_true rfl, Nat.le_of_ble_eq_true rfl⟩ rfl hl.1 rfl (Nat.le_of_ble_eq_true rfl) dX2_step_233 hcs) hS (fun H locs hP hS => ?_)
        refine lv_goto (tgt := 256) hx hb dX2_step_236 (by decide) ?_
        exact e_v hx hb hr hlocks hP hS (Nat.le_of_ble_eq_true rfl) (Nat.le_of_ble_eq_true rfl) (so_el h) dX2_step_256
      · have h := br_el h cc
        refine lv_iconst (v := 1) hx hb dX2_step_225 (by decide) ?_
        refine lv_goto (tgt := 230) hx hb dX2_step_226 (by decide) ?_
        obtain ⟨r8, w9, hf, h⟩ := bd1_el h
        refine c_oni (c_runS (As := [.int 1]) (rest := [.ref (adr (gB G) 17 0)]) hx hb hml hown hts hE hP hS (c_X2_oneIf l G hF 1 w4 r8 w9 hf) w5_129 miX2_oneIf ⟨Nat.le_of_ble_eq_true rfl, Nat.le_of_ble_eq_true rfl⟩ rfl hl.1 rfl (Nat.le_of_ble_eq_true rfl) dX2_step_230 hcs) hS (fun H locs hP hS => ?_)
        obtain ⟨w10, hf, h⟩ := bd0_el h
        refine c_onv (c_runV (b := adr (gB G) 17 0) (As := [.int r8]) (rest := []) hx hb hml hown hts hE hP hS (c_X2_push l G hF r8 w9 w10 hf) (c_rec hE hP (hp_sh hP hF 0 17 (by decide)) (by decide) rfl rfl) w5_115 miX2_push ⟨Nat.le_of_ble_eq_true rfl, Nat.le_of_ble_eq_true rfl⟩ rfl hl.1 rfl (Nat.le_of_ble_eq_true rfl) dX2_step_233 hcs) hS (fun H locs hP hS => ?_)
        refine lv_goto (tgt := 256) hx hb dX2_step_236 (by decide) ?_
        exact e_v hx hb hr hlocks hP hS (Nat.le_of_ble_eq_true rfl) (Nat.le_of_ble_eq_true rfl) (so_el h) dX2_step_256
    · have h := br_er h c1
      by_cases c2 : (swv (a2)) = 8
      · have h := br_el h c2
        refine k_tab (tgt := 188) hx hb dX2_step_8 (by decide) (by have cq := c2; (rw [cq]; decide)) ?_
        refine lv_aload_n hx hb dX2_step_188 rfl (lv_at hl 0 rfl) ?_
        refine lv_aload_n hx hb dX2_step_189 rfl (lv_at hl 1 rfl) ?_
        refine lv_iload_n hx hb dX2_step_190 rfl (lv_at hl 3 rfl) ?_
        refine lv_iload hx hb dX2_step_191 (lv_at hl 4 rfl) ?_
        obtain ⟨r11, w12, hf, h⟩ := bd1_el h
        refine c_oni (c_runV (b := adr (gB G) 19 a1) (As := [.int a3, .int a4]) (rest := [.ref (adr (gB G) 17 0)]) hx hb hml hown hts hE hP hS (c_X1_isInRow l G hF a1 ha1 a3 a4 w r11 w12 hf) (c_rec hE hP (hp_sh hP hF a1 19 ha1) (by decide) rfl rfl) w5_128 miX1_isInRow ⟨Nat.le_of_ble_eq_true rfl, Nat.le_of_ble_eq_true rfl⟩ rfl hl.1 rfl (Nat.le_of_ble_eq_true rfl) dX2_step_193 hcs) hS (fun H locs hP hS => ?_)
        obtain ⟨r13, w14, hf, h⟩ := bd1_el h
        refine c_oni (c_runS (As := [.int r11]) (rest := [.ref (adr (gB G) 17 0)]) hx hb hml hown hts hE hP hS (c_X2_oneIf l G hF r11 w12 r13 w14 hf) w5_129 miX2_oneIf ⟨Nat.le_of_ble_eq_true rfl, Nat.le_of_ble_eq_true rfl⟩ rfl hl.1 rfl (Nat.le_of_ble_eq_true rfl) dX2_step_196 hcs) hS (fun H locs hP hS => ?_)
        obtain ⟨w15, hf, h⟩ := bd0_el h
        refine c_onv (c_runV (b := adr (gB G) 17 0) (As := [.int r13]) (rest := []) hx hb hml hown hts hE hP hS (c_X2_push l G hF r13 w14 w15 hf) (c_rec hE hP (hp_sh hP hF 0 17 (by decide)) (by decide) rfl rfl) w5_115 miX2_push ⟨Nat.le_of_ble_eq_true rfl, Nat.le_of_ble_eq_true rfl⟩ rfl hl.1 rfl (Nat.le_of_ble_eq_true rfl) dX2_step_199 hcs) hS (fun H locs hP hS => ?_)
        refine lv_goto (tgt := 256) hx hb dX2_step_202 (by decide) ?_
        exact e_v hx hb hr hlocks hP hS (Nat.le_of_ble_eq_true rfl) (Nat.le_of_ble_eq_true rfl) (so_el h) dX2_step_256
      · have h := br_er h c2
        by_cases c3 : (swv (a2)) = 9
        · have h := br_el h c3
          refine k_tab (tgt := 100) hx hb dX2_step_8 (by decide) (by have cq := c3; (rw [cq]; decide)) ?_
          refine lv_aload_n hx hb dX2_step_100 rfl (lv_at hl 0 rfl) ?_
          refine lv_iload_n hx hb dX2_step_101 rfl (lv_at hl 3 rfl) ?_
          obtain ⟨w16, hf, h⟩ := bd0_el h
          refine c_onv (c_runV (b := adr (gB G) 17 0) (As := [.int a3]) (rest := []) hx hb hml hown hts hE hP hS (c_X2_push l G hF a3 w w16 hf) (c_rec hE hP (hp_sh hP hF 0 17 (by decide)) (by decide) rfl rfl) w5_115 miX2_push ⟨Nat.le_of_ble_eq_true rfl, Nat.le_of_ble_eq_true rfl⟩ rfl hl.1 rfl (Nat.le_of_ble_eq_true rfl) dX2_step_102 hcs) hS (fun H locs hP hS => ?_)
          refine lv_goto (tgt := 256) hx hb dX2_step_105 (by decide) ?_
          exact e_v hx hb hr hlocks hP hS (Nat.le_of_ble_eq_true rfl) (Nat.le_of_ble_eq_true rfl) (so_el h) dX2_step_256
        · have h := br_er h c3
          by_cases c4 : (swv (a2)) = 10
          · have h := br_el h c4
            refine k_tab (tgt := 116) hx hb dX2_step_8 (by decide) (by have cq := c4; (rw [cq]; decide)) ?_
            refine lv_aload_n hx hb dX2_step_116 rfl (lv_at hl 0 rfl) ?_
            refine lv_aload_n hx hb dX2_step_117 rfl (lv_at hl 1 rfl) ?_
            refine k_get (ci := 0) (v := .int (gI w 19 a1 4)) hx hb hts hE inX1 hown hP (hp_sh hP hF a1 19 ha1) (by decide) rfl rfl 4 (by decide) w1_225 rfl rfl dX2_step_118 ?_
            obtain ⟨w17, hf, h⟩ := bd0_el h
            refine c_onv (c_runV (b := adr (gB G) 17 0) (As := [.int (gI w 19 a1 4)]) (rest := []) hx hb hml hown hts hE hP hS (c_X2_push l G hF (gI w 19 a1 4) w w17 hf) (c_rec hE hP (hp_sh hP hF 0 17 (by decide)) (by decide) rfl rfl) w5_115 miX2_push ⟨Nat.le_of_ble_eq_true rfl, Nat.le_of_ble_eq_true rfl⟩ rfl hl.1 rfl (Nat.le_of_ble_eq_true rfl) dX2_step_121 hcs) hS (fun H locs hP hS => ?_)
            refine lv_goto (tgt := 256) hx hb dX2_step_124 (by decide) ?_
            exact e_v hx hb hr hlocks hP hS (Nat.le_of_ble_eq_true rfl) (Nat.le_of_ble_eq_true rfl) (so_el h) dX2_step_256
          · have h := br_er h c4
            by_cases c5 : (swv (a2)) = 11
            · have h := br_el h c5
              refine k_tab (tgt := 127) hx hb dX2_step_8 (by decide) (by have cq := c5; (rw [cq]; decide)) ?_
              refine lv_aload_n hx hb dX2_step_127 rfl (lv_at hl 0 rfl) ?_
              refine lv_aload_n hx hb dX2_step_128 rfl (lv_at hl 1 rfl) ?_
              refine k_get (ci := 0) (v := .int (gI w 19 a1 7)) hx hb hts hE inX1 hown hP (hp_sh hP hF a1 19 ha1) (by decide) rfl rfl 7 (by decide) w1_236 rfl rfl dX2_step_129 ?_
              obtain ⟨w18, hf, h⟩ := bd0_el h
              refine c_onv (c_runV (b := adr (gB G) 17 0) (As := [.int (gI w 19 a1 7)]) (rest := []) hx hb hml hown hts hE hP hS (c_X2_push l G hF (gI w 19 a1 7) w w18 hf) (c_rec hE hP (hp_sh hP hF 0 17 (by decide)) (by decide) rfl rfl) w5_115 miX2_push ⟨Nat.le_of_ble_eq_true rfl, Nat.le_of_ble_eq_true rfl⟩ rfl hl.1 rfl (Nat.le_of_ble_eq_true rfl) dX2_step_132 hcs) hS (fun H locs hP hS => ?_)
              refine lv_goto (tgt := 256) hx hb dX2_step_135 (by decide) ?_
              exact e_v hx hb hr hlocks hP hS (Nat.le_of_ble_eq_true rfl) (Nat.le_of_ble_eq_true rfl) (so_el h) dX2_step_256
            · have h := br_er h c5
              by_cases c6 : (swv (a2)) = 12
              · have h := br_el h c6
                refine k_tab (tgt := 138) hx hb dX2_step_8 (by decide) (by have cq := c6; (rw [cq]; decide)) ?_
                refine lv_aload_n hx hb dX2_step_138 rfl (lv_at hl 0 rfl) ?_
                refine lv_aload_n hx hb dX2_step_139 rfl (lv_at hl 1 rfl) ?_
                refine k_get (ci := 0) (v := .int (gI w 19 a1 6)) hx hb hts hE inX1 hown hP (hp_sh hP hF a1 19 ha1) (by decide) rfl rfl 6 (by decide) w1_232 rfl rfl dX2_step_140 ?_
                obtain ⟨w19, hf, h⟩ := bd0_el h
                refine c_onv (c_runV (b := adr (gB G) 17 0) (As := [.int (gI w 19 a1 6)]) (rest := []) hx hb hml hown hts hE hP hS (c_X2_push l G hF (gI w 19 a1 6) w w19 hf) (c_rec hE hP (hp_sh hP hF 0 17 (by decide)) (by decide) rfl rfl) w5_115 miX2_push ⟨Nat.le_of_ble_eq_true rfl, Nat.le_of_ble_eq_true rfl⟩ rfl hl.1 rfl (Nat.le_of_ble_eq_true rfl) dX2_step_143 hcs) hS (fun H locs hP hS => ?_)
                refine lv_goto (tgt := 256) hx hb dX2_step_146 (by decide) ?_
                exact e_v hx hb hr hlocks hP hS (Nat.le_of_ble_eq_true rfl) (Nat.le_of_ble_eq_true rfl) (so_el h) dX2_step_256
              · have h := br_er h c6
                by_cases c7 : (swv (a2)) = 13
                · have h := br_el h c7
                  refine k_tab (tgt := 149) hx hb dX2_step_8 (by decide) (by have cq := c7; (rw [cq]; decide)) ?_
                  refine lv_aload_n hx hb dX2_step_149 rfl (lv_at hl 0 rfl) ?_
                  refine lv_aload_n hx hb dX2_step_150 rfl (lv_at hl 1 rfl) ?_
                  refine lv_iload_n hx hb dX2_step_151 rfl (lv_at hl 3 rfl) ?_
                  obtain ⟨r20, w21, hf, h⟩ := bd1_el h
                  refine c_oni (c_runV (b := adr (gB G) 19 a1) (As := [.int a3]) (rest := [.ref (adr (gB G) 17 0)]) hx hb hml hown hts hE hP hS (c_X1_heardAt l G hF a1 ha1 a3 w r20 w21 hf) (c_rec hE hP (hp_sh hP hF a1 19 ha1) (by decide) rfl rfl) w5_119 miX1_heardAt ⟨Nat.le_of_ble_eq_true rfl, Nat.le_of_ble_eq_true rfl⟩ rfl hl.1 rfl (Nat.le_of_ble_eq_true rfl) dX2_step_152 hcs) hS (fun H locs hP hS => ?_)
                  obtain ⟨w22, hf, h⟩ := bd0_el h
                  refine c_onv (c_runV (b := adr (gB G) 17 0) (As := [.int r20]) (rest := []) hx hb hml hown hts hE hP hS (c_X2_push l G hF r20 w21 w22 hf) (c_rec hE hP (hp_sh hP hF 0 17 (by decide)) (by decide) rfl rfl) w5_115 miX2_push ⟨Nat.le_of_ble_eq_true rfl, Nat.le_of_ble_eq_true rfl⟩ rfl hl.1 rfl (Nat.le_of_ble_eq_true rfl) dX2_step_155 hcs) hS (fun H locs hP hS => ?_)
                  refine lv_goto (tgt := 256) hx hb dX2_step_158 (by decide) ?_
                  exact e_v hx hb hr hlocks hP hS (Nat.le_of_ble_eq_true rfl) (Nat.le_of_ble_eq_true rfl) (so_el h) dX2_step_256
                · have h := br_er h c7
                  by_cases c8 : (swv (a2)) = 14
                  · have h := br_el h c8
                    refine k_tab (tgt := 161) hx hb dX2_step_8 (by decide) (by have cq := c8; (rw [cq]; decide)) ?_
                    refine lv_aload_n hx hb dX2_step_161 rfl (lv_at hl 0 rfl) ?_
                    refine lv_aload_n hx hb dX2_step_162 rfl (lv_at hl 1 rfl) ?_
                    refine lv_iload_n hx hb dX2_step_163 rfl (lv_at hl 3 rfl) ?_
                    obtain ⟨r23, w24, hf, h⟩ := bd1_el h
                    refine c_oni (c_runV (b := adr (gB G) 19 a1) (As := [.int a3]) (rest := [.ref (adr (gB G) 17 0)]) hx hb hml hown hts hE hP hS (c_X1_latestAt l G hF a1 ha1 a3 w r23 w24 hf) (c_rec hE hP (hp_sh hP hF a1 19 ha1) (by decide) rfl rfl) w5_123 miX1_latestAt ⟨Nat.le_of_ble_eq_true rfl, Nat.le_of_ble_eq_true rfl⟩ rfl hl.1 rfl (Nat.le_of_ble_eq_true rfl) dX2_step_164 hcs) hS (fun H locs hP hS => ?_)
                    obtain ⟨w25, hf, h⟩ := bd0_el h
                    refine c_onv (c_runV (b := adr (gB G) 17 0) (As := [.int r23]) (rest := []) hx hb hml hown hts hE hP hS (c_X2_push l G hF r23 w24 w25 hf) (c_rec hE hP (hp_sh hP hF 0 17 (by decide)) (by decide) rfl rfl) w5_115 miX2_push ⟨Nat.le_of_ble_eq_true rfl, Nat.le_of_ble_eq_true rfl⟩ rfl hl.1 rfl (Nat.le_of_ble_eq_true rfl) dX2_step_167 hcs) hS (fun H locs hP hS => ?_)
                    refine lv_goto (tgt := 256) hx hb dX2_step_170 (by decide) ?_
                    exact e_v hx hb hr hlocks hP hS (Nat.le_of_ble_eq_true rfl) (Nat.le_of_ble_eq_true rfl) (so_el h) dX2_step_256
                  · have h := br_er h c8
                    by_cases c9 : (swv (a2)) = 15
                    · have h := br_el h c9
                      refine k_tab (tgt := 173) hx hb dX2_step_8 (by decide) (by have cq := c9; (rw [cq]; decide)) ?_
                      refine lv_aload_n hx hb dX2_step_173 rfl (lv_at hl 0 rfl) ?_
                      refine lv_aload_n hx hb dX2_step_174 rfl (lv_at hl 1 rfl) ?_
                      refine lv_iload_n hx hb dX2_step_175 rfl (lv_at hl 3 rfl) ?_
                      refine lv_bipush (v := 8) hx hb dX2_step_176 (by decide) ?_
                      refine lv_isub hx hb dX2_step_178 ?_
                      obtain ⟨r26, w27, hf, h⟩ := bd1_el h
                      refine c_oni (c_runV (b := adr (gB G) 19 a1) (As := [.int (a3 - 8)]) (rest := [.ref (adr (gB G) 17 0)]) hx hb hml hown hts hE hP hS (c_X1_petalsAt l G hF a1 ha1 (a3 - 8) w r26 w27 hf) (c_rec hE hP (hp_sh hP hF a1 19 ha1) (by decide) rfl rfl) w5_127 miX1_petalsAt ⟨Nat.le_of_ble_eq_true rfl, Nat.le_of_ble_eq_true rfl⟩ rfl hl.1 rfl (Nat.le_of_ble_eq_true rfl) dX2_step_179 hcs) hS (fun H locs hP hS => ?_)
                      obtain ⟨w28, hf, h⟩ := bd0_el h
                      refine c_onv (c_runV (b := adr (gB G) 17 0) (As := [.int r26]) (rest := []) hx hb hml hown hts hE hP hS (c_X2_push l G hF r26 w27 w28 hf) (c_rec hE hP (hp_sh hP hF 0 17 (by decide)) (by decide) rfl rfl) w5_115 miX2_push ⟨Nat.le_of_ble_eq_true rfl, Nat.le_of_ble_eq_true rfl⟩ rfl hl.1 rfl (Nat.le_of_ble_eq_true rfl) dX2_step_182 hcs) hS (fun H locs hP hS => ?_)
                      refine lv_goto (tgt := 256) hx hb dX2_step_185 (by decide) ?_
                      exact e_v hx hb hr hlocks hP hS (Nat.le_of_ble_eq_true rfl) (Nat.le_of_ble_eq_true rfl) (so_el h) dX2_step_256
                    · have h := br_er h c9
                      by_cases c10 : (swv (a2)) = 20
                      · have h := br_el h c10
                        refine k_tab (tgt := 108) hx hb dX2_step_8 (by decide) (by have cq := c10; (rw [cq]; decide)) ?_
                        refine lv_aload_n hx hb dX2_step_108 rfl (lv_at hl 0 rfl) ?_
                        refine lv_iconst (v := 1) hx hb dX2_step_109 (by decide) ?_
                        obtain ⟨w29, hf, h⟩ := bd0_el h
                        refine c_onv (c_runV (b := adr (gB G) 17 0) (As := [.int 1]) (rest := []) hx hb hml hown hts hE hP hS (c_X2_push l G hF 1 w w29 hf) (c_rec hE hP (hp_sh hP hF 0 17 (by decide)) (by decide) rfl rfl) w5_115 miX2_push ⟨Nat.le_of_ble_eq_true rfl, Nat.le_of_ble_eq_true rfl⟩ rfl hl.1 rfl (Nat.le_of_ble_eq_true rfl) dX2_step_110 hcs) hS (fun H locs hP hS => ?_)
                        refine lv_goto (tgt := 256) hx hb dX2_step_113 (by decide) ?_
                        exact e_v hx hb hr hlocks hP hS (Nat.le_of_ble_eq_true rfl) (Nat.le_of_ble_eq_true rfl) (so_el h) dX2_step_256
                      · have h := br_er h c10
                        by_cases c11 : (swv (a2)) = 21
                        · have h := br_el h c11
                          refine k_tab (tgt := 205) hx hb dX2_step_8 (by decide) (by have cq := c11; (rw [cq]; decide)) ?_
                          refine lv_aload_n hx hb dX2_step_205 rfl (lv_at hl 0 rfl) ?_
                          refine lv_aload_n hx hb dX2_step_206 rfl (lv_at hl 0 rfl) ?_
                          obtain ⟨r30, w31, hf, h⟩ := bd1_el h
                          refine c_oni (c_runV (b := adr (gB G) 17 0) (As := []) (rest := [.ref (adr (gB G) 17 0)]) hx hb hml hown hts hE hP hS (c_X2_pop l G hF w r30 w31 hf) (c_rec hE hP (hp_sh hP hF 0 17 (by decide)) (by decide) rfl rfl) w5_132 miX2_pop ⟨Nat.le_of_ble_eq_true rfl, Nat.le_of_ble_eq_true rfl⟩ rfl hl.1 rfl (Nat.le_of_ble_eq_true rfl) dX2_step_207 hcs) hS (fun H locs hP hS => ?_)
                          refine lv_ineg hx hb dX2_step_210 ?_
                          obtain ⟨w32, hf, h⟩ := bd0_el h
                          refine c_onv (c_runV (b := adr (gB G) 17 0) (As := [.int (-r30)]) (rest := []) hx hb hml hown hts hE hP hS (c_X2_push l G hF (-r30) w31 w32 hf) (c_rec hE hP (hp_sh hP hF 0 17 (by decide)) (by decide) rfl rfl) w5_115 miX2_push ⟨Nat.le_of_ble_eq_true rfl, Nat.le_of_ble_eq_true rfl⟩ rfl hl.1 rfl (Nat.le_of_ble_eq_true rfl) dX2_step_211 hcs) hS (fun H locs hP hS => ?_)
                          refine lv_goto (tgt := 256) hx hb dX2_step_214 (by decide) ?_
                          exact e_v hx hb hr hlocks hP hS (Nat.le_of_ble_eq_true rfl) (Nat.le_of_ble_eq_true rfl) (so_el h) dX2_step_256
                        · have h := br_er h c11
                          refine k_tabD (vs := [3, 4, 5, 6, 8, 9, 10, 11, 12, 13, 14, 15, 20, 21]) (tgt := 251) hx hb dX2_step_8 (by decide) (by decide) (by decide) (fun q0 => ( fun q => Or.elim q (fun q => c0 (Or.inl q)) (fun q => Or.elim q (fun q => c0 (Or.inr (Or.inl q))) (fun q => Or.elim q (fun q => c0 (Or.inr (Or.inr (q)))) (fun q => Or.elim q (fun q => c1 (q)) (fun q => Or.elim q (fun q => c2 (q)) (fun q => Or.elim q (fun q => c3 (q)) (fun q => Or.elim q (fun q => c4 (q)) (fun q => Or.elim q (fun q => c5 (q)) (fun q => Or.elim q (fun q => c6 (q)) (fun q => Or.elim q (fun q => c7 (q)) (fun q => Or.elim q (fun q => c8 (q)) (fun q => Or.elim q (fun q => c9 (q)) (fun q => Or.elim q (fun q => c10 (q)) (fun q => c11 (q))))))))))))))) (by simpa only [List.mem_cons, List.not_mem_nil, or_false] using q0)) ?_
                          refine lv_aload_n hx hb dX2_step_251 rfl (lv_at hl 0 rfl) ?_
                          refine k_aload_n hx hb dX2_step_252 rfl (lv_at hl 2 rfl) ?_
                          obtain ⟨w33, hf, h⟩ := bd0_el h
                          refine c_onv (c_runV (b := adr (gB G) 17 0) (As := [kR G a2]) (rest := []) hx hb hml hown hts hE hP hS (c_X2_join l G hF a2 w w33 hf) (c_rec hE hP (hp_sh hP hF 0 17 (by decide)) (by decide) rfl rfl) w5_152 miX2_join ⟨Nat.le_of_ble_eq_true rfl, Nat.le_of_ble_eq_true rfl⟩ rfl hl.1 rfl (Nat.le_of_ble_eq_true rfl) dX2_step_253 hcs) hS (fun H locs hP hS => ?_)
                          exact e_v hx hb hr hlocks hP hS (Nat.le_of_ble_eq_true rfl) (Nat.le_of_ble_eq_true rfl) (so_el h) dX2_step_256

def f_X2_letDayPass_L7 (z1 : Nat) (z2 : Nat) : Nat → Int32 → Mm → Option (Mm)
  | 0, _, _ => none
  | n + 1, u3, w => br ((gI w 25 z1 7) ≤ u3) (some w) (br (400 ≤ u3) (some w) (gd (vB u3 400) (gd (vB u3 400) (gd (vB u3 400) (bd0 (f_X2_step z2 (gR w 28 z1 u3.toNatClampNeg) (gI w 29 z1 u3.toNatClampNeg) (gI w 30 z1 u3.toNatClampNeg) w) (fun w5 => sq (u3 + 1) (fun x6 => f_X2_letDayPass_L7 z1 z2 n x6 w5)))))))

def f_X2_letDayPass (a1 : Nat) (a2 : Nat) (w : Mm) : Option (Mm) := sq (pI w 17 0 2 0) (fun w1 => bd0 (f_X2_letDayPass_L7 a1 a2 LF 0 w1) (fun w7 => bd0 (f_X1_endDay a2 w7) (fun w8 => some w8)))

theorem miX2_letDayPass : MI RX2 yX2_letDayPass cX2_letDayPass 4 none 2 := ⟨w5_106, w5_107, w1_8, w5_108, rfl, by decide +kernel, by decide +kernel, by decide +kernel⟩
set_option maxHeartbeats 4000000 in
set_option maxRecDepth 100000 in
theorem l_X2_letDayPass_7 {p : Program} {l : Launch} {e : Env} {R : Room} {s : State} {m : MethodId} {args : Array Value} {below : List Frame} {meth : Method} {c : Code} {cells slots : Nat} {Q : State → Prop} {G : GG} (hC : CX p s m args c meth G cX2_letDayPass 4 none RX2) (hR : R = { frames := 6, cells := 0, slots := 0, locals := 144 }) (hcs : cells ≤ R.cells ∧ slots ≤ R.slots) (hF : gF G = true) (z1 : Nat) (hz1 : z1 < cnt 25) (z2 : Nat) (hz2 : z2 < cnt 19) : ∀ (n : Nat) (u3 : Int32) (w : Mm) (w' : Mm), f_X2_letDayPass_L7 z1 z2 n u3 w = some w' → ∀ (H : Heap) (locs : List Loc) (ls : Array Slot), HP G w H → va_S (Ab G) s.heap H locs → lv_has ls 4 [(0, .ref (adr (gB G) 17 0)), (1, .ref (adr (gB G) 25 z1)), (2, .ref (adr (gB G) 19 z2)), (3, .int u3)] → (∀ (H : Heap) (locs : List Loc) (ls : Array Slot), HP G w' H → va_S (Ab G) s.heap H locs → lv_has ls 4 [(2, .ref (adr (gB G) 19 z2))] → W p l e R s m args below meth c H locs cells slots Q (F0 m 51 ls [])) → W p l e R s m args below meth c H locs cells slots Q (F0 m 7 ls []) := by
  subst hR
  obtain ⟨hx, hb, hml, hr, hown, hlocks, hts, hE⟩ := id hC
  intro n
  induction n with
  | zero =>
    intro u3 w w' h
    rw [f_X2_letDayPass_L7] at h
    cases h
  | succ n ih =>
    intro u3 w w' h H locs ls hP hS hl k0
    rw [f_X2_letDayPass_L7] at h
    refine lv_iload_n hx hb dX2_letDayPass_7 rfl (lv_at hl 3 rfl) ?_
    refine lv_aload_n hx hb dX2_letDayPass_8 rfl (lv_at hl 1 rfl) ?_
    refine k_getN (host := "HedgeNews") (ci := 6) (v := .int (gI w 25 z1 7)) hx hb hts hE inX8 hown hP (hp_sh hP hF z1 25 hz1) (by decide) rfl rfl 7 (by decide) (List.mem_of_getElem? (i := 10) rfl) rfl rfl dX2_letDayPass_9 ?_
    refine lv_icmp_ge (tgt := 51) hx hb dX2_letDayPass_12 (by decide) (fun cc => ?_) (fun cc => ?_)
    · have h := br_el h cc
      cases h
      exact k0 _ _ _ hP hS (lv_sub hl [2] rfl)
    · have h := br_er h cc
      refine lv_iload_n hx hb dX2_letDayPass_15 rfl (lv_at hl 3 rfl) ?_
      refine lv_sipush (v := 400) hx hb dX2_letDayPass_16 (by decide) ?_
      refine lv_icmp_ge (tgt := 51) hx hb dX2_letDayPass_19 (by decide) (fun cc => ?_) (fun cc => ?_)
      · have h := br_el h cc
        cases h
        exact k0 _ _ _ hP hS (lv_sub hl [2] rfl)
      · have h := br_er h cc
        refine lv_aload_n hx hb dX2_letDayPass_22 rfl (lv_at hl 0 rfl) ?_
        refine lv_aload_n hx hb dX2_letDayPass_23 rfl (lv_at hl 2 rfl) ?_
        refine lv_aload_n hx hb dX2_letDayPass_24 rfl (lv_at hl 1 rfl) ?_
        refine k_getN (host := "HedgeNews") (ci := 6) (v := .ref (adr (gB G) 28 z1)) hx hb hts hE inX8 hown hP (hp_sh hP hF z1 25 hz1) (by decide) rfl rfl 4 (by decide) (List.mem_of_getElem? (i := 7) rfl) rfl rfl dX2_letDayPass_25 ?_
        refine lv_iload_n hx hb dX2_letDayPass_28 rfl (lv_at hl 3 rfl) ?_
        obtain ⟨g2, h⟩ := gd_el h
        refine k_aald (t0 := 6) hx hb hE hP (hp_sh hP hF z1 28 hz1) (by decide) rfl rfl g2 dX2_letDayPass_29 ?_
        refine lv_aload_n hx hb dX2_letDayPass_30 rfl (lv_at hl 1 rfl) ?_
        refine k_getN (host := "HedgeNews") (ci := 6) (v := .ref (adr (gB G) 29 z1)) hx hb hts hE inX8 hown hP (hp_sh hP hF z1 25 hz1) (by decide) rfl rfl 5 (by decide) (List.mem_of_getElem? (i := 8) rfl) rfl rfl dX2_letDayPass_31 ?_
        refine lv_iload_n hx hb dX2_letDayPass_34 rfl (lv_at hl 3 rfl) ?_
        obtain ⟨g3, h⟩ := gd_el h
        refine k_iald hx hb hE hP (hp_sh hP hF z1 29 hz1) (by decide) rfl g3 dX2_letDayPass_35 ?_
        refine lv_aload_n hx hb dX2_letDayPass_36 rfl (lv_at hl 1 rfl) ?_
        refine k_getN (host := "HedgeNews") (ci := 6) (v := .ref (adr (gB G) 30 z1)) hx hb hts hE inX8 hown hP (hp_sh hP hF z1 25 hz1) (by decide) rfl rfl 6 (by decide) (List.mem_of_getElem? (i := 9) rfl) rfl rfl dX2_letDayPass_37 ?_
        refine lv_iload_n hx hb dX2_letDayPass_40 rfl (lv_at hl 3 rfl) ?_
        obtain ⟨g4, h⟩ := gd_el h
        refine k_iald hx hb hE hP (hp_sh hP hF z1 30 hz1) (by decide) rfl g4 dX2_letDayPass_41 ?_
        obtain ⟨w5, hf, h⟩ := bd0_el h
        refine c_onv (c_runV (b := adr (gB G) 17 0) (As := [.ref (adr (gB G) 19 z2), kR G (gR w 28 z1 u3.toNatClampNeg), .int (gI w 29 z1 u3.toNatClampNeg), .int (gI w 30 z1 u3.toNatClampNeg)]) (rest := []) hx hb hml hown hts hE hP hS (c_X2_step l G hF z2 hz2 (gR w 28 z1 u3.toNatClampNeg) (gI w 29 z1 u3.toNatClampNeg) (gI w 30 z1 u3.toNatClampNeg) w w5 hf) (c_rec hE hP (hp_sh hP hF 0 17 (by decide)) (by decide) rfl rfl) w5_109 miX2_step ⟨Nat.le_of_ble_eq_true rfl, Nat.le_of_ble_eq_true rfl⟩ rfl hl.1 rfl (Nat.le_of_ble_eq_true rfl) dX2_letDayPass_42 hcs) hS (fun H locs hP hS => ?_)
        obtain ⟨x6, e⟩ : ∃ z : Int32, z = u3 + 1 := ⟨_, rfl⟩
        have h := sq_at h e
        refine lv_iinc (v := x6) (lv' := [(3, .int x6), (0, .ref (adr (gB G) 17 0)), (1, .ref (adr (gB G) 25 z1)), (2, .ref (adr (gB G) 19 z2))]) hx hb dX2_letDayPass_45 hl (k := 3) rfl (by rw [e]; rfl) (by decide) rfl (fun ls hl => ?_)
        refine lv_goto (tgt := 7) hx hb dX2_letDayPass_48 (by decide) ?_
        exact ih x6 w5 w' h _ _ _ hP hS (lv_sub hl [1, 2, 3, 0] rfl) k0

set_option maxHeartbeats 4000000 in
set_option maxRecDepth 100000 in
theorem c_X2_letDayPass (l : Launch) (G : GG) (hF : gF G = true) (a1 : Nat) (ha1 : a1 < cnt 25) (a2 : Nat) (ha2 : a2 < cnt 19) (w : Mm) (w' : Mm) (h : f_X2_letDayPass a1 a2 w = some w') : Kv l G yX2_letDayPass cX2_letDayPass 4 none { frames := 6, cells := 0, slots := 0, locals := 144 } [.ref (adr (gB G) 17 0), .ref (adr (gB G) 25 a1), .ref (adr (gB G) 19 a2)] w w' := by
  refine k_of (by decide +kernel) (Nat.le_of_ble_eq_true rfl) ?_
  intro p e s m args below meth c ls hx hb hml hr hown hlocks hts hin hP hE hl
  have hC : CX p s m args c meth G cX2_letDayPass 4 none RX2 := ⟨hx, hb, hml, hr, hown, hlocks, hts, hE⟩
  have hS : va_S (Ab G) s.heap s.heap [] := va_S.rf
  have hcs : 0 ≤ 0 ∧ 0 ≤ 0 := ⟨Nat.zero_le _, Nat.zero_le _⟩
  have hl : lv_has ls 4 [(0, .ref (adr (gB G) 17 0)), (1, .ref (adr (gB G) 25 a1)), (2, .ref (adr (gB G) 19 a2))] := hl
  unfold f_X2_letDayPass at h
  refine lv_aload_n hx hb dX2_letDayPass_0 rfl (lv_at hl 0 rfl) ?_
  refine lv_iconst (v := 0) hx hb dX2_letDayPass_1 (by decide) ?_
  refine k_put (ci := 1) (ty := .int) (v := .int 0) (w1 := pI w 17 0 2 0) hx hb hts hE inX2 tyX2 tyX2_ok nmX2 hown hP hS (hp_sh hP hF 0 17 (by decide)) (by decide) rfl rfl 2 (by decide) w1_144 rfl rfl rfl rfl rfl (Nat.le_of_ble_eq_true rfl) loc_pI (wce_pI.trans rfl) dX2_letDayPass_2 (fun w1 H locs e hP hS => ?_)
  have h := sq_at h e
  refine lv_iconst (v := 0) hx hb dX2_letDayPass_5 (by decide) ?_
  refine lv_istore_n (i := 3) (lv' := [(3, .int 0), (0, .ref (adr (gB G) 17 0)), (1, .ref (adr (gB G) 25 a1)), (2, .ref (adr (gB G) 19 a2))]) hx hb dX2_letDayPass_6 rfl hl (by decide) rfl (fun ls hl => ?_)
  obtain ⟨w7, hf, h⟩ := bd0_el h
  refine l_X2_letDayPass_7 hC rfl hcs hF a1 ha1 a2 ha2 LF 0 w1 w7 hf _ _ _ hP hS (lv_sub hl [1, 2, 3, 0] rfl) (fun H locs ls hP hS hl => ?_)
  refine lv_aload_n hx hb dX2_letDayPass_51 rfl (lv_at hl 0 rfl) ?_
  obtain ⟨w8, hf, h⟩ := bd0_el h
  refine c_onv (c_runV (b := adr (gB G) 19 a2) (As := []) (rest := []) hx hb hml hown hts hE hP hS (c_X1_endDay l G hF a2 ha2 w7 w8 hf) (c_rec hE hP (hp_sh hP hF a2 19 ha2) (by decide) rfl rfl) w5_159 miX1_endDay ⟨Nat.le_of_ble_eq_true rfl, Nat.le_of_ble_eq_true rfl⟩ rfl hl.1 rfl (Nat.le_of_ble_eq_true rfl) dX2_letDayPass_52 hcs) hS (fun H locs hP hS => ?_)
  exact e_v hx hb hr hlocks hP hS (Nat.le_of_ble_eq_true rfl) (Nat.le_of_ble_eq_true rfl) (so_el h) dX2_letDayPass_55

def f_X3_copy_L34 (z0 : Nat) (z1 : Nat) : Nat → Int32 → Mm → Option (Mm)
  | 0, _, _ => none
  | n + 1, u2, w => br (16 ≤ u2) (some w) (br (16 ≤ u2) (some w) (gd (vB u2 16) (gd (vB u2 16) (sq (pI w 23 z0 u2.toNatClampNeg (gI w 23 z1 u2.toNatClampNeg)) (fun w7 => sq (u2 + 1) (fun x8 => f_X3_copy_L34 z0 z1 n x8 w7))))))

def f_X3_copy (a0 : Nat) (a1 : Nat) (w : Mm) : Option (Mm) := sq (pI w 22 a0 0 (gI w 22 a1 0)) (fun w1 => sq (pI w1 22 a0 1 (gI w1 22 a1 1)) (fun w2 => sq (pI w2 22 a0 2 (gI w2 22 a1 2)) (fun w3 => sq (pI w3 22 a0 3 (gI w3 22 a1 3)) (fun w4 => bd0 (f_X3_copy_L34 a0 a1 LF 0 w4) (fun w9 => some w9)))))

theorem miX3_copy : MI RX3 yX3_copy cX3_copy 3 none 1 := ⟨w4_80, w4_81, w1_10, w4_82, rfl, by decide +kernel, by decide +kernel, by decide +kernel⟩
set_option maxHeartbeats 4000000 in
set_option maxRecDepth 100000 in
theorem l_X3_copy_34 {p : Program} {l : Launch} {e : Env} {R : Room} {s : State} {m : MethodId} {args : Array Value} {below : List Frame} {meth : Method} {c : Code} {cells slots : Nat} {Q : State → Prop} {G : GG} (hC : CX p s m args c meth G cX3_copy 3 none RX3) (hR : R = { frames := 0, cells := 0, slots := 0, locals := 0 }) (hcs : cells ≤ R.cells ∧ slots ≤ R.slots) (hF : gF G = true) (z0 : Nat) (hz0 : z0 < cnt 22) (z1 : Nat) (hz1 : z1 < cnt 22) : ∀ (n : Nat) (u2 : Int32) (w : Mm) (w' : Mm), f_X3_copy_L34 z0 z1 n u2 w = some w' → ∀ (H : Heap) (locs : List Loc) (ls : Array Slot), HP G w H → va_S (Ab G) s.heap H locs → lv_has ls 3 [(0, .ref (adr (gB G) 22 z0)), (1, .ref (adr (gB G) 22 z1)), (2, .int u2)] → (∀ (H : Heap) (locs : List Loc) (ls : Array Slot), HP G w' H → va_S (Ab G) s.heap H locs → lv_has ls 3 [] → W p l e R s m args below meth c H locs cells slots Q (F0 m 70 ls [])) → W p l e R s m args below meth c H locs cells slots Q (F0 m 34 ls []) := by
  subst hR
  obtain ⟨hx, hb, hml, hr, hown, hlocks, hts, hE⟩ := id hC
  intro n
  induction n with
  | zero =>
    intro u2 w w' h
    rw [f_X3_copy_L34] at h
    cases h
  | succ n ih =>
    intro u2 w w' h H locs ls hP hS hl k0
    rw [f_X3_copy_L34] at h
    refine lv_iload_n hx hb dX3_copy_34 rfl (lv_at hl 2 rfl) ?_
    refine lv_aload_n hx hb dX3_copy_35 rfl (lv_at hl 0 rfl) ?_
    refine k_get (ci := 2) (v := .ref (adr (gB G) 23 z0)) hx hb hts hE inX3 hown hP (hp_sh hP hF z0 22 hz0) (by decide) rfl rfl 4 (by decide) w1_181 rfl rfl dX3_copy_36 ?_
    refine k_alen (v := 16) hx hb hE hP (hp_sh hP hF z0 23 hz0) (by decide) rfl 0 rfl rfl dX3_copy_39 ?_
    refine lv_icmp_ge (tgt := 70) hx hb dX3_copy_40 (by decide) (fun cc => ?_) (fun cc => ?_)
    · have h := br_el h cc
      cases h
      exact k0 _ _ _ hP hS (lv_sub hl [] rfl)
    · have h := br_er h cc
      refine lv_iload_n hx hb dX3_copy_43 rfl (lv_at hl 2 rfl) ?_
      refine lv_aload_n hx hb dX3_copy_44 rfl (lv_at hl 1 rfl) ?_
      refine k_get (ci := 2) (v := .ref (adr (gB G) 23 z1)) hx hb hts hE inX3 hown hP (hp_sh hP hF z1 22 hz1) (by decide) rfl rfl 4 (by decide) w1_181 rfl rfl dX3_copy_45 ?_
      refine k_alen (v := 16) hx hb hE hP (hp_sh hP hF z1 23 hz1) (by decide) rfl 0 rfl rfl dX3_copy_48 ?_
      refine lv_icmp_ge (tgt := 70) hx hb dX3_copy_49 (by decide) (fun cc => ?_) (fun cc => ?_)
      · have h := br_el h cc
        cases h
        exact k0 _ _ _ hP hS (lv_sub hl [] rfl)
      · have h := br_er h cc
        refine lv_aload_n hx hb dX3_copy_52 rfl (lv_at hl 0 rfl) ?_
        refine k_get (ci := 2) (v := .ref (adr (gB G) 23 z0)) hx hb hts hE inX3 hown hP (hp_sh hP hF z0 22 hz0) (by decide) rfl rfl 4 (by decide) w1_181 rfl rfl dX3_copy_53 ?_
        refine lv_iload_n hx hb dX3_copy_56 rfl (lv_at hl 2 rfl) ?_
        refine lv_aload_n hx hb dX3_copy_57 rfl (lv_at hl 1 rfl) ?_
        refine k_get (ci := 2) (v := .ref (adr (gB G) 23 z1)) hx hb hts hE inX3 hown hP (hp_sh hP hF z1 22 hz1) (by decide) rfl rfl 4 (by decide) w1_181 rfl rfl dX3_copy_58 ?_
        refine lv_iload_n hx hb dX3_copy_61 rfl (lv_at hl 2 rfl) ?_
        obtain ⟨g5, h⟩ := gd_el h
        refine k_iald hx hb hE hP (hp_sh hP hF z1 23 hz1) (by decide) rfl g5 dX3_copy_62 ?_
        obtain ⟨g6, h⟩ := gd_el h
        refine k_iast hx hb hE hP hS (hp_sh hP hF z0 23 hz0) (by decide) rfl rfl g6 dX3_copy_63 (fun w7 H locs e hP hS => ?_)
        have h := sq_at h e
        obtain ⟨x8, e⟩ : ∃ z : Int32, z = u2 + 1 := ⟨_, rfl⟩
        have h := sq_at h e
        refine lv_iinc (v := x8) (lv' := [(2, .int x8), (0, .ref (adr (gB G) 22 z0)), (1, .ref (adr (gB G) 22 z1))]) hx hb dX3_copy_64 hl (k := 2) rfl (by rw [e]; rfl) (by decide) rfl (fun ls hl => ?_)
        refine lv_goto (tgt := 34) hx hb dX3_copy_67 (by decide) ?_
        exact ih x8 w7 w' h _ _ _ hP hS (lv_sub hl [1, 2, 0] rfl) k0

set_option maxHeartbeats 4000000 in
set_option maxRecDepth 100000 in
theorem c_X3_copy (l : Launch) (G : GG) (hF : gF G = true) (a0 : Nat) (ha0 : a0 < cnt 22) (a1 : Nat) (ha1 : a1 < cnt 22) (w : Mm) (w' : Mm) (h : f_X3_copy a0 a1 w = some w') : Kv l G yX3_copy cX3_copy 3 none { frames := 0, cells := 0, slots := 0, locals := 0 } [.ref (adr (gB G) 22 a0), .ref (adr (gB G) 22 a1)] w w' := by
  refine k_of (by decide +kernel) (Nat.le_of_ble_eq_true rfl) ?_
  intro p e s m args below meth c ls hx hb hml hr hown hlocks hts hin hP hE hl
  have hC : CX p s m args c meth G cX3_copy 3 none RX3 := ⟨hx, hb, hml, hr, hown, hlocks, hts, hE⟩
  have hS : va_S (Ab G) s.heap s.heap [] := va_S.rf
  have hcs : 0 ≤ 0 ∧ 0 ≤ 0 := ⟨Nat.zero_le _, Nat.zero_le _⟩
  have hl : lv_has ls 3 [(0, .ref (adr (gB G) 22 a0)), (1, .ref (adr (gB G) 22 a1))] := hl
  unfold f_X3_copy at h
  refine lv_aload_n hx hb dX3_copy_0 rfl (lv_at hl 0 rfl) ?_
  refine lv_aload_n hx hb dX3_copy_1 rfl (lv_at hl 1 rfl) ?_
  refine k_get (ci := 2) (v := .int (gI w 22 a1 0)) hx hb hts hE inX3 hown hP (hp_sh hP hF a1 22 ha1) (by decide) rfl rfl 0 (by decide) w1_167 rfl rfl dX3_copy_2 ?_
  refine k_put (ci := 2) (ty := .int) (v := .int (gI w 22 a1 0)) (w1 := pI w 22 a0 0 (gI w 22 a1 0)) hx hb hts hE inX3 tyX3 tyX3_ok nmX3 hown hP hS (hp_sh hP hF a0 22 ha0) (by decide) rfl rfl 0 (by decide) w1_167 rfl rfl rfl rfl rfl (Nat.le_of_ble_eq_true rfl) loc_pI (wce_pI.trans rfl) dX3_copy_5 (fun w1 H locs e hP hS => ?_)
  have h := sq_at h e
  refine lv_aload_n hx hb dX3_copy_8 rfl (lv_at hl 0 rfl) ?_
  refine lv_aload_n hx hb dX3_copy_9 rfl (lv_at hl 1 rfl) ?_
  refine k_get (ci := 2) (v := .int (gI w1 22 a1 1)) hx hb hts hE inX3 hown hP (hp_sh hP hF a1 22 ha1) (by decide) rfl rfl 1 (by decide) w1_170 rfl rfl dX3_copy_10 ?_
  refine k_put (ci := 2) (ty := .int) (v := .int (gI w1 22 a1 1)) (w1 := pI w1 22 a0 1 (gI w1 22 a1 1)) hx hb hts hE inX3 tyX3 tyX3_ok nmX3 hown hP hS (hp_sh hP hF a0 22 ha0) (by decide) rfl rfl 1 (by decide) w1_170 rfl rfl rfl rfl rfl (Nat.le_of_ble_eq_true rfl) loc_pI (wce_pI.trans rfl) dX3_copy_13 (fun w2 H locs e hP hS => ?_)
  have h := sq_at h e
  refine lv_aload_n hx hb dX3_copy_16 rfl (lv_at hl 0 rfl) ?_
  refine lv_aload_n hx hb dX3_copy_17 rfl (lv_at hl 1 rfl) ?_
  refine k_get (ci := 2) (v := .int (gI w2 22 a1 2)) hx hb hts hE inX3 hown hP (hp_sh hP hF a1 22 ha1) (by decide) rfl rfl 2 (by decide) w1_174 rfl rfl dX3_copy_18 ?_
  refine k_put (ci := 2) (ty := .int) (v := .int (gI w2 22 a1 2)) (w1 := pI w2 22 a0 2 (gI w2 22 a1 2)) hx hb hts hE inX3 tyX3 tyX3_ok nmX3 hown hP hS (hp_sh hP hF a0 22 ha0) (by decide) rfl rfl 2 (by decide) w1_174 rfl rfl rfl rfl rfl (Nat.le_of_ble_eq_true rfl) loc_pI (wce_pI.trans rfl) dX3_copy_21 (fun w3 H locs e hP hS => ?_)
  have h := sq_at h e
  refine lv_aload_n hx hb dX3_copy_24 rfl (lv_at hl 0 rfl) ?_
  refine lv_aload_n hx hb dX3_copy_25 rfl (lv_at hl 1 rfl) ?_
  refine k_get (ci := 2) (v := .int (gI w3 22 a1 3)) hx hb hts hE inX3 hown hP (hp_sh hP hF a1 22 ha1) (by decide) rfl rfl 3 (by decide) w1_178 rfl rfl dX3_copy_26 ?_
  refine k_put (ci := 2) (ty := .int) (v := .int (gI w3 22 a1 3)) (w1 := pI w3 22 a0 3 (gI w3 22 a1 3)) hx hb hts hE inX3 tyX3 tyX3_ok nmX3 hown hP hS (hp_sh hP hF a0 22 ha0) (by decide) rfl rfl 3 (by decide) w1_178 rfl rfl rfl rfl rfl (Nat.le_of_ble_eq_true rfl) loc_pI (wce_pI.trans rfl) dX3_copy_29 (fun w4 H locs e hP hS => ?_)
  have h := sq_at h e
  refine lv_iconst (v := 0) hx hb dX3_copy_32 (by decide) ?_
  refine lv_istore_n (i := 2) (lv' := [(2, .int 0), (0, .ref (adr (gB G) 22 a0)), (1, .ref (adr (gB G) 22 a1))]) hx hb dX3_copy_33 rfl hl (by decide) rfl (fun ls hl => ?_)
  obtain ⟨w9, hf, h⟩ := bd0_el h
  refine l_X3_copy_34 hC rfl hcs hF a0 ha0 a1 ha1 LF 0 w4 w9 hf _ _ _ hP hS (lv_sub hl [1, 2, 0] rfl) (fun H locs ls hP hS hl => ?_)
  exact e_v hx hb hr hlocks hP hS (Nat.le_of_ble_eq_true rfl) (Nat.le_of_ble_eq_true rfl) (so_el h) dX3_copy_70

def f_X9_copy (a0 : Nat) (a1 : Nat) (w : Mm) : Option (Mm) := sq (pI w 24 a0 0 (gI w 24 a1 0)) (fun w1 => sq (pI w1 24 a0 1 (gI w1 24 a1 1)) (fun w2 => sq (pI w2 24 a0 2 (gI w2 24 a1 2)) (fun w3 => sq (pI w3 24 a0 3 (gI w3 24 a1 3)) (fun w4 => some w4))))

theorem miX9_copy : MI RX9 yX9_copy cX9_copy 2 none 1 := ⟨w4_84, w4_85, w1_11, w4_86, rfl, by decide +kernel, by decide +kernel, by decide +kernel⟩
set_option maxHeartbeats 4000000 in
set_option maxRecDepth 100000 in
theorem c_X9_copy (l : Launch) (G : GG) (hF : gF G = true) (a0 : Nat) (ha0 : a0 < cnt 24) (a1 : Nat) (ha1 : a1 < cnt 24) (w : Mm) (w' : Mm) (h : f_X9_copy a0 a1 w = some w') : Kv l G yX9_copy cX9_copy 2 none { frames := 0, cells := 0, slots := 0, locals := 0 } [.ref (adr (gB G) 24 a0), .ref (adr (gB G) 24 a1)] w w' := by
  refine k_of (by decide +kernel) (Nat.le_of_ble_eq_true rfl) ?_
  intro p e s m args below meth c ls hx hb hml hr hown hlocks hts hin hP hE hl
  have hC : CX p s m args c meth G cX9_copy 2 none RX9 := ⟨hx, hb, hml, hr, hown, hlocks, hts, hE⟩
  have hS : va_S (Ab G) s.heap s.heap [] := va_S.rf
  have hcs : 0 ≤ 0 ∧ 0 ≤ 0 := ⟨Nat.zero_le _, Nat.zero_le _⟩
  have hl : lv_has ls 2 [(0, .ref (adr (gB G) 24 a0)), (1, .ref (adr (gB G) 24 a1))] := hl
  unfold f_X9_copy at h
  refine lv_aload_n hx hb dX9_copy_0 rfl (lv_at hl 0 rfl) ?_
  refine lv_aload_n hx hb dX9_copy_1 rfl (lv_at hl 1 rfl) ?_
  refine k_get (ci := 7) (v := .int (gI w 24 a1 0)) hx hb hts hE inX9 hown hP (hp_sh hP hF a1 24 ha1) (by decide) rfl rfl 0 (by decide) w1_198 rfl rfl dX9_copy_2 ?_
  refine k_put (ci := 7) (ty := .int) (v := .int (gI w 24 a1 0)) (w1 := pI w 24 a0 0 (gI w 24 a1 0)) hx hb hts hE inX9 tyX9 tyX9_ok nmX9 hown hP hS (hp_sh hP hF a0 24 ha0) (by decide) rfl rfl 0 (by decide) w1_198 rfl rfl rfl rfl rfl (Nat.le_of_ble_eq_true rfl) loc_pI (wce_pI.trans rfl) dX9_copy_5 (fun w1 H locs e hP hS => ?_)
  have h := sq_at h e
  refine lv_aload_n hx hb dX9_copy_8 rfl (lv_at hl 0 rfl) ?_
  refine lv_aload_n hx hb dX9_copy_9 rfl (lv_at hl 1 rfl) ?_
  refine k_get (ci := 7) (v := .int (gI w1 24 a1 1)) hx hb hts hE inX9 hown hP (hp_sh hP hF a1 24 ha1) (by decide) rfl rfl 1 (by decide) w1_201 rfl rfl dX9_copy_10 ?_
  refine k_put (ci := 7) (ty := .int) (v := .int (gI w1 24 a1 1)) (w1 := pI w1 24 a0 1 (gI w1 24 a1 1)) hx hb hts hE inX9 tyX9 tyX9_ok nmX9 hown hP hS (hp_sh hP hF a0 24 ha0) (by decide) rfl rfl 1 (by decide) w1_201 rfl rfl rfl rfl rfl (Nat.le_of_ble_eq_true rfl) loc_pI (wce_pI.trans rfl) dX9_copy_13 (fun w2 H locs e hP hS => ?_)
  have h := sq_at h e
  refine lv_aload_n hx hb dX9_copy_16 rfl (lv_at hl 0 rfl) ?_
  refine lv_aload_n hx hb dX9_copy_17 rfl (lv_at hl 1 rfl) ?_
  refine k_get (ci := 7) (v := .int (gI w2 24 a1 2)) hx hb hts hE inX9 hown hP (hp_sh hP hF a1 24 ha1) (by decide) rfl rfl 2 (by decide) w1_204 rfl rfl dX9_copy_18 ?_
  refine k_put (ci := 7) (ty := .int) (v := .int (gI w2 24 a1 2)) (w1 := pI w2 24 a0 2 (gI w2 24 a1 2)) hx hb hts hE inX9 tyX9 tyX9_ok nmX9 hown hP hS (hp_sh hP hF a0 24 ha0) (by decide) rfl rfl 2 (by decide) w1_204 rfl rfl rfl rfl rfl (Nat.le_of_ble_eq_true rfl) loc_pI (wce_pI.trans rfl) dX9_copy_21 (fun w3 H locs e hP hS => ?_)
  have h := sq_at h e
  refine lv_aload_n hx hb dX9_copy_24 rfl (lv_at hl 0 rfl) ?_
  refine lv_aload_n hx hb dX9_copy_25 rfl (lv_at hl 1 rfl) ?_
  refine k_get (ci := 7) (v := .int (gI w3 24 a1 3)) hx hb hts hE inX9 hown hP (hp_sh hP hF a1 24 ha1) (by decide) rfl rfl 3 (by decide) w1_207 rfl rfl dX9_copy_26 ?_
  refine k_put (ci := 7) (ty := .int) (v := .int (gI w3 24 a1 3)) (w1 := pI w3 24 a0 3 (gI w3 24 a1 3)) hx hb hts hE inX9 tyX9 tyX9_ok nmX9 hown hP hS (hp_sh hP hF a0 24 ha0) (by decide) rfl rfl 3 (by decide) w1_207 rfl rfl rfl rfl rfl (Nat.le_of_ble_eq_true rfl) loc_pI (wce_pI.trans rfl) dX9_copy_29 (fun w4 H locs e hP hS => ?_)
  have h := sq_at h e
  exact e_v hx hb hr hlocks hP hS (Nat.le_of_ble_eq_true rfl) (Nat.le_of_ble_eq_true rfl) (so_el h) dX9_copy_32

def f_X1_copy_L18 (z0 : Nat) (z1 : Nat) : Nat → Int32 → Mm → Option (Mm)
  | 0, _, _ => none
  | n + 1, u2, w => br (8 ≤ u2) (some w) (br (8 ≤ u2) (some w) (gd (vB u2 8) (gd (vB u2 8) (bd0 (f_X3_copy (8 * z0 + u2.toNatClampNeg) (8 * z1 + u2.toNatClampNeg) w) (fun w5 => sq (u2 + 1) (fun x6 => f_X1_copy_L18 z0 z1 n x6 w5))))))

def f_X1_copy_L59 (z0 : Nat) (z1 : Nat) : Nat → Int32 → Mm → Option (Mm)
  | 0, _, _ => none
  | n + 1, u2, w => br (8 ≤ u2) (some w) (br (8 ≤ u2) (some w) (gd (vB u2 8) (gd (vB u2 8) (bd0 (f_X9_copy (8 * z0 + u2.toNatClampNeg) (8 * z1 + u2.toNatClampNeg) w) (fun w10 => sq (u2 + 1) (fun x11 => f_X1_copy_L59 z0 z1 n x11 w10))))))

def f_X1_copy (a0 : Nat) (a1 : Nat) (w : Mm) : Option (Mm) := sq (pI w 19 a0 2 (gI w 19 a1 2)) (fun w1 => sq (pI w1 19 a0 3 (gI w1 19 a1 3)) (fun w2 => bd0 (f_X1_copy_L18 a0 a1 LF 0 w2) (fun w7 => bd0 (f_X1_copy_L59 a0 a1 LF 0 w7) (fun w12 => sq (pI w12 19 a0 4 (gI w12 19 a1 4)) (fun w13 => sq (pI w13 19 a0 5 (gI w13 19 a1 5)) (fun w14 => sq (pI w14 19 a0 6 (gI w14 19 a1 6)) (fun w15 => sq (pI w15 19 a0 7 (gI w15 19 a1 7)) (fun w16 => sq (pI w16 19 a0 8 (gI w16 19 a1 8)) (fun w17 => some w17)))))))))

theorem miX1_copy : MI RX1 yX1_copy cX1_copy 3 none 1 := ⟨w4_76, w4_77, w1_9, w4_78, rfl, by decide +kernel, by decide +kernel, by decide +kernel⟩
set_option maxHeartbeats 4000000 in
set_option maxRecDepth 100000 in
theorem l_X1_copy_18 {p : Program} {l : Launch} {e : Env} {R : Room} {s : State} {m : MethodId} {args : Array Value} {below : List Frame} {meth : Method} {c : Code} {cells slots : Nat} {Q : State → Prop} {G : GG} (hC : CX p s m args c meth G cX1_copy 3 none RX1) (hR : R = { frames := 1, cells := 0, slots := 0, locals := 22 }) (hcs : cells ≤ R.cells ∧ slots ≤ R.slots) (hF : gF G = true) (z0 : Nat) (hz0 : z0 < cnt 19) (z1 : Nat) (hz1 : z1 < cnt 19) : ∀ (n : Nat) (u2 : Int32) (w : Mm) (w' : Mm), f_X1_copy_L18 z0 z1 n u2 w = some w' → ∀ (H : Heap) (locs : List Loc) (ls : Array Slot), HP G w H → va_S (Ab G) s.heap H locs → lv_has ls 3 [(0, .ref (adr (gB G) 19 z0)), (1, .ref (adr (gB G) 19 z1)), (2, .int u2)] → (∀ (H : Heap) (locs : List Loc) (ls : Array Slot), HP G w' H → va_S (Ab G) s.heap H locs → lv_has ls 3 [(0, .ref (adr (gB G) 19 z0)), (1, .ref (adr (gB G) 19 z1))] → W p l e R s m args below meth c H locs cells slots Q (F0 m 57 ls [])) → W p l e R s m args below meth c H locs cells slots Q (F0 m 18 ls []) := by
  subst hR
  obtain ⟨hx, hb, hml, hr, hown, hlocks, hts, hE⟩ := id hC
  intro n
  induction n with
  | zero =>
    intro u2 w w' h
    rw [f_X1_copy_L18] at h
    cases h
  | succ n ih =>
    intro u2 w w' h H locs ls hP hS hl k0
    rw [f_X1_copy_L18] at h
    refine lv_iload_n hx hb dX1_copy_18 rfl (lv_at hl 2 rfl) ?_
    refine lv_aload_n hx hb dX1_copy_19 rfl (lv_at hl 0 rfl) ?_
    refine k_get (ci := 0) (v := .ref (adr (gB G) 20 z0)) hx hb hts hE inX1 hown hP (hp_sh hP hF z0 19 hz0) (by decide) rfl rfl 0 (by decide) w1_219 rfl rfl dX1_copy_20 ?_
    refine k_alen (v := 8) hx hb hE hP (hp_sh hP hF z0 20 hz0) (by decide) rfl 4 rfl rfl dX1_copy_23 ?_
    refine lv_icmp_ge (tgt := 57) hx hb dX1_copy_24 (by decide) (fun cc => ?_) (fun cc => ?_)
    · have h := br_el h cc
      cases h
      exact k0 _ _ _ hP hS (lv_sub hl [0, 1] rfl)
    · have h := br_er h cc
      refine lv_iload_n hx hb dX1_copy_27 rfl (lv_at hl 2 rfl) ?_
      refine lv_aload_n hx hb dX1_copy_28 rfl (lv_at hl 1 rfl) ?_
      refine k_get (ci := 0) (v := .ref (adr (gB G) 20 z1)) hx hb hts hE inX1 hown hP (hp_sh hP hF z1 19 hz1) (by decide) rfl rfl 0 (by decide) w1_219 rfl rfl dX1_copy_29 ?_
      refine k_alen (v := 8) hx hb hE hP (hp_sh hP hF z1 20 hz1) (by decide) rfl 4 rfl rfl dX1_copy_32 ?_
      refine lv_icmp_ge (tgt := 57) hx hb dX1_copy_33 (by decide) (fun cc => ?_) (fun cc => ?_)
      · have h := br_el h cc
        cases h
        exact k0 _ _ _ hP hS (lv_sub hl [0, 1] rfl)
      · have h := br_er h cc
        refine lv_aload_n hx hb dX1_copy_36 rfl (lv_at hl 0 rfl) ?_
        refine k_get (ci := 0) (v := .ref (adr (gB G) 20 z0)) hx hb hts hE inX1 hown hP (hp_sh hP hF z0 19 hz0) (by decide) rfl rfl 0 (by decide) w1_219 rfl rfl dX1_copy_37 ?_
        refine lv_iload_n hx hb dX1_copy_40 rfl (lv_at hl 2 rfl) ?_
        obtain ⟨g3, h⟩ := gd_el h
        refine k_aald (t0 := 4) hx hb hE hP (hp_sh hP hF z0 20 hz0) (by decide) rfl rfl g3 dX1_copy_41 ?_
        refine k_aref (b0 := gB G) (c0 := 22) (k0 := z0) g3 (by decide) ?_
        refine lv_aload_n hx hb dX1_copy_42 rfl (lv_at hl 1 rfl) ?_
        refine k_get (ci := 0) (v := .ref (adr (gB G) 20 z1)) hx hb hts hE inX1 hown hP (hp_sh hP hF z1 19 hz1) (by decide) rfl rfl 0 (by decide) w1_219 rfl rfl dX1_copy_43 ?_
        refine lv_iload_n hx hb dX1_copy_46 rfl (lv_at hl 2 rfl) ?_
        obtain ⟨g4, h⟩ := gd_el h
        refine k_aald (t0 := 4) hx hb hE hP (hp_sh hP hF z1 20 hz1) (by decide) rfl rfl g4 dX1_copy_47 ?_
        refine k_aref (b0 := gB G) (c0 := 22) (k0 := z1) g4 (by decide) ?_
        obtain ⟨w5, hf, h⟩ := bd0_el h
        refine c_onv (c_runV (b := adr (gB G) 22 (8 * z0 + u2.toNatClampNeg)) (As := [.ref (adr (gB G) 22 (8 * z1 + u2.toNatClampNeg))]) (rest := []) hx hb hml hown hts hE hP hS (c_X3_copy l G hF (8 * z0 + u2.toNatClampNeg) (key8 hz0 g3) (8 * z1 + u2.toNatClampNeg) (key8 hz1 g4) w w5 hf) (c_rec hE hP (hp_sh hP hF (8 * z0 + u2.toNatClampNeg) 22 (key8 hz0 g3)) (by decide) rfl rfl) w4_79 miX3_copy ⟨Nat.le_of_ble_eq_true rfl, Nat.le_of_ble_eq_true rfl⟩ rfl hl.1 rfl (Nat.le_of_ble_eq_true rfl) dX1_copy_48 hcs) hS (fun H locs hP hS => ?_)
        obtain ⟨x6, e⟩ : ∃ z : Int32, z = u2 + 1 := ⟨_, rfl⟩
        have h := sq_at h e
        refine lv_iinc (v := x6) (lv' := [(2, .int x6), (0, .ref (adr (gB G) 19 z0)), (1, .ref (adr (gB G) 19 z1))]) hx hb dX1_copy_51 hl (k := 2) rfl (by rw [e]; rfl) (by decide) rfl (fun ls hl => ?_)
        refine lv_goto (tgt := 18) hx hb dX1_copy_54 (by decide) ?_
        exact ih x6 w5 w' h _ _ _ hP hS (lv_sub hl [1, 2, 0] rfl) k0

set_option maxHeartbeats 4000000 in
set_option maxRecDepth 100000 in
theorem l_X1_copy_59 {p : Program} {l : Launch} {e : Env} {R : Room} {s : State} {m : MethodId} {args : Array Value} {below : List Frame} {meth : Method} {c : Code} {cells slots : Nat} {Q : State → Prop} {G : GG} (hC : CX p s m args c meth G cX1_copy 3 none RX1) (hR : R = { frames := 1, cells := 0, slots := 0, locals := 22 }) (hcs : cells ≤ R.cells ∧ slots ≤ R.slots) (hF : gF G = true) (z0 : Nat) (hz0 : z0 < cnt 19) (z1 : Nat) (hz1 : z1 < cnt 19) : ∀ (n : Nat) (u2 : Int32) (w : Mm) (w' : Mm), f_X1_copy_L59 z0 z1 n u2 w = some w' → ∀ (H : Heap) (locs : List Loc) (ls : Array Slot), HP G w H → va_S (Ab G) s.heap H locs → lv_has ls 3 [(0, .ref (adr (gB G) 19 z0)), (1, .ref (adr (gB G) 19 z1)), (2, .int u2)] → (∀ (H : Heap) (locs : List Loc) (ls : Array Slot), HP G w' H → va_S (Ab G) s.heap H locs → lv_has ls 3 [(0, .ref (adr (gB G) 19 z0)), (1, .ref (adr (gB G) 19 z1))] → W p l e R s m args below meth c H locs cells slots Q (F0 m 98 ls [])) → W p l e R s m args below meth c H locs cells slots Q (F0 m 59 ls []) := by
  subst hR
  obtain ⟨hx, hb, hml, hr, hown, hlocks, hts, hE⟩ := id hC
  intro n
  induction n with
  | zero =>
    intro u2 w w' h
    rw [f_X1_copy_L59] at h
    cases h
  | succ n ih =>
    intro u2 w w' h H locs ls hP hS hl k0
    rw [f_X1_copy_L59] at h
    refine lv_iload_n hx hb dX1_copy_59 rfl (lv_at hl 2 rfl) ?_
    refine lv_aload_n hx hb dX1_copy_60 rfl (lv_at hl 0 rfl) ?_
    refine k_get (ci := 0) (v := .ref (adr (gB G) 21 z0)) hx hb hts hE inX1 hown hP (hp_sh hP hF z0 19 hz0) (by decide) rfl rfl 1 (by decide) w1_220 rfl rfl dX1_copy_61 ?_
    refine k_alen (v := 8) hx hb hE hP (hp_sh hP hF z0 21 hz0) (by decide) rfl 5 rfl rfl dX1_copy_64 ?_
    refine lv_icmp_ge (tgt := 98) hx hb dX1_copy_65 (by decide) (fun cc => ?_) (fun cc => ?_)
    · have h := br_el h cc
      cases h
      exact k0 _ _ _ hP hS (lv_sub hl [0, 1] rfl)
    · have h := br_er h cc
      refine lv_iload_n hx hb dX1_copy_68 rfl (lv_at hl 2 rfl) ?_
      refine lv_aload_n hx hb dX1_copy_69 rfl (lv_at hl 1 rfl) ?_
      refine k_get (ci := 0) (v := .ref (adr (gB G) 21 z1)) hx hb hts hE inX1 hown hP (hp_sh hP hF z1 19 hz1) (by decide) rfl rfl 1 (by decide) w1_220 rfl rfl dX1_copy_70 ?_
      refine k_alen (v := 8) hx hb hE hP (hp_sh hP hF z1 21 hz1) (by decide) rfl 5 rfl rfl dX1_copy_73 ?_
      refine lv_icmp_ge (tgt := 98) hx hb dX1_copy_74 (by decide) (fun cc => ?_) (fun cc => ?_)
      · have h := br_el h cc
        cases h
        exact k0 _ _ _ hP hS (lv_sub hl [0, 1] rfl)
      · have h := br_er h cc
        refine lv_aload_n hx hb dX1_copy_77 rfl (lv_at hl 0 rfl) ?_
        refine k_get (ci := 0) (v := .ref (adr (gB G) 21 z0)) hx hb hts hE inX1 hown hP (hp_sh hP hF z0 19 hz0) (by decide) rfl rfl 1 (by decide) w1_220 rfl rfl dX1_copy_78 ?_
        refine lv_iload_n hx hb dX1_copy_81 rfl (lv_at hl 2 rfl) ?_
        obtain ⟨g8, h⟩ := gd_el h
        refine k_aald (t0 := 5) hx hb hE hP (hp_sh hP hF z0 21 hz0) (by decide) rfl rfl g8 dX1_copy_82 ?_
        refine k_aref (b0 := gB G) (c0 := 24) (k0 := z0) g8 (by decide) ?_
        refine lv_aload_n hx hb dX1_copy_83 rfl (lv_at hl 1 rfl) ?_
        refine k_get (ci := 0) (v := .ref (adr (gB G) 21 z1)) hx hb hts hE inX1 hown hP (hp_sh hP hF z1 19 hz1) (by decide) rfl rfl 1 (by decide) w1_220 rfl rfl dX1_copy_84 ?_
        refine lv_iload_n hx hb dX1_copy_87 rfl (lv_at hl 2 rfl) ?_
        obtain ⟨g9, h⟩ := gd_el h
        refine k_aald (t0 := 5) hx hb hE hP (hp_sh hP hF z1 21 hz1) (by decide) rfl rfl g9 dX1_copy_88 ?_
        refine k_aref (b0 := gB G) (c0 := 24) (k0 := z1) g9 (by decide) ?_
        obtain ⟨w10, hf, h⟩ := bd0_el h
        refine c_onv (c_runV (b := adr (gB G) 24 (8 * z0 + u2.toNatClampNeg)) (As := [.ref (adr (gB G) 24 (8 * z1 + u2.toNatClampNeg))]) (rest := []) hx hb hml hown hts hE hP hS (c_X9_copy l G hF (8 * z0 + u2.toNatClampNeg) (key8 hz0 g8) (8 * z1 + u2.toNatClampNeg) (key8 hz1 g9) w w10 hf) (c_rec hE hP (hp_sh hP hF (8 * z0 + u2.toNatClampNeg) 24 (key8 hz0 g8)) (by decide) rfl rfl) w4_83 miX9_copy ⟨Nat.le_of_ble_eq_true rfl, Nat.le_of_ble_eq_true rfl⟩ rfl hl.1 rfl (Nat.le_of_ble_eq_true rfl) dX1_copy_89 hcs) hS (fun H locs hP hS => ?_)
        obtain ⟨x11, e⟩ : ∃ z : Int32, z = u2 + 1 := ⟨_, rfl⟩
        have h := sq_at h e
        refine lv_iinc (v := x11) (lv' := [(2, .int x11), (0, .ref (adr (gB G) 19 z0)), (1, .ref (adr (gB G) 19 z1))]) hx hb dX1_copy_92 hl (k := 2) rfl (by rw [e]; rfl) (by decide) rfl (fun ls hl => ?_)
        refine lv_goto (tgt := 59) hx hb dX1_copy_95 (by decide) ?_
        exact ih x11 w10 w' h _ _ _ hP hS (lv_sub hl [1, 2, 0] rfl) k0

set_option maxHeartbeats 4000000 in
set_option maxRecDepth 100000 in
theorem c_X1_copy (l : Launch) (G : GG) (hF : gF G = true) (a0 : Nat) (ha0 : a0 < cnt 19) (a1 : Nat) (ha1 : a1 < cnt 19) (w : Mm) (w' : Mm) (h : f_X1_copy a0 a1 w = some w') : Kv l G yX1_copy cX1_copy 3 none { frames := 1, cells := 0, slots := 0, locals := 22 } [.ref (adr (gB G) 19 a0), .ref (adr (gB G) 19 a1)] w w' := by
  refine k_of (by decide +kernel) (Nat.le_of_ble_eq_true rfl) ?_
  intro p e s m args below meth c ls hx hb hml hr hown hlocks hts hin hP hE hl
  have hC : CX p s m args c meth G cX1_copy 3 none RX1 := ⟨hx, hb, hml, hr, hown, hlocks, hts, hE⟩
  have hS : va_S (Ab G) s.heap s.heap [] := va_S.rf
  have hcs : 0 ≤ 0 ∧ 0 ≤ 0 := ⟨Nat.zero_le _, Nat.zero_le _⟩
  have hl : lv_has ls 3 [(0, .ref (adr (gB G) 19 a0)), (1, .ref (adr (gB G) 19 a1))] := hl
  unfold f_X1_copy at h
  refine lv_aload_n hx hb dX1_copy_0 rfl (lv_at hl 0 rfl) ?_
  refine lv_aload_n hx hb dX1_copy_1 rfl (lv_at hl 1 rfl) ?_
  refine k_get (ci := 0) (v := .int (gI w 19 a1 2)) hx hb hts hE inX1 hown hP (hp_sh hP hF a1 19 ha1) (by decide) rfl rfl 2 (by decide) w1_221 rfl rfl dX1_copy_2 ?_
  refine k_put (ci := 0) (ty := .int) (v := .int (gI w 19 a1 2)) (w1 := pI w 19 a0 2 (gI w 19 a1 2)) hx hb hts hE inX1 tyX1 tyX1_ok nmX1 hown hP hS (hp_sh hP hF a0 19 ha0) (by decide) rfl rfl 2 (by decide) w1_221 rfl rfl rfl rfl rfl (Nat.le_of_ble_eq_true rfl) loc_pI (wce_pI.trans rfl) dX1_copy_5 (fun w1 H locs e hP hS => ?_)
  have h := sq_at h e
  refine lv_aload_n hx hb dX1_copy_8 rfl (lv_at hl 0 rfl) ?_
  refine lv_aload_n hx hb dX1_copy_9 rfl (lv_at hl 1 rfl) ?_
  refine k_get (ci := 0) (v := .int (gI w1 19 a1 3)) hx hb hts hE inX1 hown hP (hp_sh hP hF a1 19 ha1) (by decide) rfl rfl 3 (by decide) w1_223 rfl rfl dX1_copy_10 ?_
  refine k_put (ci := 0) (ty := .int) (v := .int (gI w1 19 a1 3)) (w1 := pI w1 19 a0 3 (gI w1 19 a1 3)) hx hb hts hE inX1 tyX1 tyX1_ok nmX1 hown hP hS (hp_sh hP hF a0 19 ha0) (by decide) rfl rfl 3 (by decide) w1_223 rfl rfl rfl rfl rfl (Nat.le_of_ble_eq_true rfl) loc_pI (wce_pI.trans rfl) dX1_copy_13 (fun w2 H locs e hP hS => ?_)
  have h := sq_at h e
  refine lv_iconst (v := 0) hx hb dX1_copy_16 (by decide) ?_
  refine lv_istore_n (i := 2) (lv' := [(2, .int 0), (0, .ref (adr (gB G) 19 a0)), (1, .ref (adr (gB G) 19 a1))]) hx hb dX1_copy_17 rfl hl (by decide) rfl (fun ls hl => ?_)
  obtain ⟨w7, hf, h⟩ := bd0_el h
  refine l_X1_copy_18 hC rfl hcs hF a0 ha0 a1 ha1 LF 0 w2 w7 hf _ _ _ hP hS (lv_sub hl [1, 2, 0] rfl) (fun H locs ls hP hS hl => ?_)
  refine lv_iconst (v := 0) hx hb dX1_copy_57 (by decide) ?_
  refine lv_istore_n (i := 2) (lv' := [(2, .int 0), (0, .ref (adr (gB G) 19 a0)), (1, .ref (adr (gB G) 19 a1))]) hx hb dX1_copy_58 rfl hl (by decide) rfl (fun ls hl => ?_)
  obtain ⟨w12, hf, h⟩ := bd0_el h
  refine l_X1_copy_59 hC rfl hcs hF a0 ha0 a1 ha1 LF 0 w7 w12 hf _ _ _ hP hS (lv_sub hl [1, 2, 0] rfl) (fun H locs ls hP hS hl => ?_)
  refine lv_aload_n hx hb dX1_copy_98 rfl (lv_at hl 0 rfl) ?_
  refine lv_aload_n hx hb dX1_copy_99 rfl (lv_at hl 1 rfl) ?_
  refine k_get (ci := 0) (v := .int (gI w12 19 a1 4)) hx hb hts hE inX1 hown hP (hp_sh hP hF a1 19 ha1) (by decide) rfl rfl 4 (by decide) w1_226 rfl rfl dX1_copy_100 ?_
  refine k_put (ci := 0) (ty := .int) (v := .int (gI w12 19 a1 4)) (w1 := pI w12 19 a0 4 (gI w12 19 a1 4)) hx hb hts hE inX1 tyX1 tyX1_ok nmX1 hown hP hS (hp_sh hP hF a0 19 ha0) (by decide) rfl rfl 4 (by decide) w1_226 rfl rfl rfl rfl rfl (Nat.le_of_ble_eq_true rfl) loc_pI (wce_pI.trans rfl) dX1_copy_103 (fun w13 H locs e hP hS => ?_)
  have h := sq_at h e
  refine lv_aload_n hx hb dX1_copy_106 rfl (lv_at hl 0 rfl) ?_
  refine lv_aload_n hx hb dX1_copy_107 rfl (lv_at hl 1 rfl) ?_
  refine k_get (ci := 0) (v := .int (gI w13 19 a1 5)) hx hb hts hE inX1 hown hP (hp_sh hP hF a1 19 ha1) (by decide) rfl rfl 5 (by decide) w1_228 rfl rfl dX1_copy_108 ?_
  refine k_put (ci := 0) (ty := .int) (v := .int (gI w13 19 a1 5)) (w1 := pI w13 19 a0 5 (gI w13 19 a1 5)) hx hb hts hE inX1 tyX1 tyX1_ok nmX1 hown hP hS (hp_sh hP hF a0 19 ha0) (by decide) rfl rfl 5 (by decide) w1_228 rfl rfl rfl rfl rfl (Nat.le_of_ble_eq_true rfl) loc_pI (wce_pI.trans rfl) dX1_copy_111 (fun w14 H locs e hP hS => ?_)
  have h := sq_at h e
  refine lv_aload_n hx hb dX1_copy_114 rfl (lv_at hl 0 rfl) ?_
  refine lv_aload_n hx hb dX1_copy_115 rfl (lv_at hl 1 rfl) ?_
  refine k_get (ci := 0) (v := .int (gI w14 19 a1 6)) hx hb hts hE inX1 hown hP (hp_sh hP hF a1 19 ha1) (by decide) rfl rfl 6 (by decide) w1_233 rfl rfl dX1_copy_116 ?_
  refine k_put (ci := 0) (ty := .int) (v := .int (gI w14 19 a1 6)) (w1 := pI w14 19 a0 6 (gI w14 19 a1 6)) hx hb hts hE inX1 tyX1 tyX1_ok nmX1 hown hP hS (hp_sh hP hF a0 19 ha0) (by decide) rfl rfl 6 (by decide) w1_233 rfl rfl rfl rfl rfl (Nat.le_of_ble_eq_true rfl) loc_pI (wce_pI.trans rfl) dX1_copy_119 (fun w15 H locs e hP hS => ?_)
  have h := sq_at h e
  refine lv_aload_n hx hb dX1_copy_122 rfl (lv_at hl 0 rfl) ?_
  refine lv_aload_n hx hb dX1_copy_123 rfl (lv_at hl 1 rfl) ?_
  refine k_get (ci := 0) (v := .int (gI w15 19 a1 7)) hx hb hts hE inX1 hown hP (hp_sh hP hF a1 19 ha1) (by decide) rfl rfl 7 (by decide) w1_237 rfl rfl dX1_copy_124 ?_
  refine k_put (ci := 0) (ty := .int) (v := .int (gI w15 19 a1 7)) (w1 := pI w15 19 a0 7 (gI w15 19 a1 7)) hx hb hts hE inX1 tyX1 tyX1_ok nmX1 hown hP hS (hp_sh hP hF a0 19 ha0) (by decide) rfl rfl 7 (by decide) w1_237 rfl rfl rfl rfl rfl (Nat.le_of_ble_eq_true rfl) loc_pI (wce_pI.trans rfl) dX1_copy_127 (fun w16 H locs e hP hS => ?_)
  have h := sq_at h e
  refine lv_aload_n hx hb dX1_copy_130 rfl (lv_at hl 0 rfl) ?_
  refine lv_aload_n hx hb dX1_copy_131 rfl (lv_at hl 1 rfl) ?_
  refine k_get (ci := 0) (v := .int (gI w16 19 a1 8)) hx hb hts hE inX1 hown hP (hp_sh hP hF a1 19 ha1) (by decide) rfl rfl 8 (by decide) w1_239 rfl rfl dX1_copy_132 ?_
  refine k_put (ci := 0) (ty := .int) (v := .int (gI w16 19 a1 8)) (w1 := pI w16 19 a0 8 (gI w16 19 a1 8)) hx hb hts hE inX1 tyX1 tyX1_ok nmX1 hown hP hS (hp_sh hP hF a0 19 ha0) (by decide) rfl rfl 8 (by decide) w1_239 rfl rfl rfl rfl rfl (Nat.le_of_ble_eq_true rfl) loc_pI (wce_pI.trans rfl) dX1_copy_135 (fun w17 H locs e hP hS => ?_)
  have h := sq_at h e
  exact e_v hx hb hr hlocks hP hS (Nat.le_of_ble_eq_true rfl) (Nat.le_of_ble_eq_true rfl) (so_el h) dX1_copy_138

def f_X12_tryTelling (a1 : Int32) (a2 : Int32) (w : Mm) : Option (Mm) := bd0 (f_X1_copy 1 0 w) (fun w1 => bd1 (f_X6_carry 1 a1 a2 w1) (fun r2 w3 => some w3))

theorem miX12_tryTelling : MI RX12 yX12_tryTelling cX12_tryTelling 3 none 2 := ⟨w4_73, (tb_sel 21 rfl rfl), w1_1, w4_74, rfl, by decide +kernel, by decide +kernel, by decide +kernel⟩
set_option maxHeartbeats 4000000 in
set_option maxRecDepth 100000 in
theorem c_X12_tryTelling (l : Launch) (G : GG) (hF : gF G = true) (a1 : Int32) (a2 : Int32) (w : Mm) (w' : Mm) (h : f_X12_tryTelling a1 a2 w = some w') : Kv l G yX12_tryTelling cX12_tryTelling 3 none { frames := 4, cells := 0, slots := 0, locals := 93 } [.ref (adr (gB G) 1 0), .int a1, .int a2] w w' := by
  refine k_of (by decide +kernel) (Nat.le_of_ble_eq_true rfl) ?_
  intro p e s m args below meth c ls hx hb hml hr hown hlocks hts hin hP hE hl
  have hC : CX p s m args c meth G cX12_tryTelling 3 none RX12 := ⟨hx, hb, hml, hr, hown, hlocks, hts, hE⟩
  have hS : va_S (Ab G) s.heap s.heap [] := va_S.rf
  have hcs : 0 ≤ 0 ∧ 0 ≤ 0 := ⟨Nat.zero_le _, Nat.zero_le _⟩
  have hl : lv_has ls 3 [(0, .ref (adr (gB G) 1 0)), (1, .int a1), (2, .int a2)] := hl
  unfold f_X12_tryTelling at h
  refine lv_aload_n hx hb dX12_tryTelling_0 rfl (lv_at hl 0 rfl) ?_
  refine k_get (ci := 10) (v := .ref (adr (gB G) 19 1)) hx hb hts hE inX12 hown hP (hp_sh hP hF 0 1 (by decide)) (by decide) rfl rfl 6 (by decide) w2_90 rfl rfl dX12_tryTelling_1 ?_
  refine lv_aload_n hx hb dX12_tryTelling_4 rfl (lv_at hl 0 rfl) ?_
  refine k_get (ci := 10) (v := .ref (adr (gB G) 19 0)) hx hb hts hE inX12 hown hP (hp_sh hP hF 0 1 (by decide)) (by decide) rfl rfl 5 (by decide) w2_89 rfl rfl dX12_tryTelling_5 ?_
  obtain ⟨w1, hf, h⟩ := bd0_el h
  refine c_onv (c_runV (b := adr (gB G) 19 1) (As := [.ref (adr (gB G) 19 0)]) (rest := []) hx hb hml hown hts hE hP hS (c_X1_copy l G hF 1 (by decide) 0 (by decide) w w1 hf) (c_rec hE hP (hp_sh hP hF 1 19 (by decide)) (by decide) rfl rfl) w4_75 miX1_copy ⟨Nat.le_of_ble_eq_true rfl, Nat.le_of_ble_eq_true rfl⟩ rfl hl.1 rfl (Nat.le_of_ble_eq_true rfl) dX12_tryTelling_8 hcs) hS (fun H locs hP hS => ?_)
  refine lv_aload_n hx hb dX12_tryTelling_11 rfl (lv_at hl 0 rfl) ?_
  refine k_get (ci := 10) (v := .ref (adr (gB G) 11 0)) hx hb hts hE inX12 hown hP (hp_sh hP hF 0 1 (by decide)) (by decide) rfl rfl 3 (by decide) w2_87 rfl rfl dX12_tryTelling_12 ?_
  refine lv_aload_n hx hb dX12_tryTelling_15 rfl (lv_at hl 0 rfl) ?_
  refine k_get (ci := 10) (v := .ref (adr (gB G) 19 1)) hx hb hts hE inX12 hown hP (hp_sh hP hF 0 1 (by decide)) (by decide) rfl rfl 6 (by decide) w2_90 rfl rfl dX12_tryTelling_16 ?_
  refine lv_iload_n hx hb dX12_tryTelling_19 rfl (lv_at hl 1 rfl) ?_
  refine lv_iload_n hx hb dX12_tryTelling_20 rfl (lv_at hl 2 rfl) ?_
  obtain ⟨r2, w3, hf, h⟩ := bd1_el h
  refine c_oni (c_runV (b := adr (gB G) 11 0) (As := [.ref (adr (gB G) 19 1), .int a1, .int a2]) (rest := []) hx hb hml hown hts hE hP hS (c_X6_carry l G hF 1 (by decide) a1 a2 w1 r2 w3 hf) (c_rec hE hP (hp_sh hP hF 0 11 (by decide)) (by decide) rfl rfl) w4_87 miX6_carry ⟨Nat.le_of_ble_eq_true rfl, Nat.le_of_ble_eq_true rfl⟩ rfl hl.1 rfl (Nat.le_of_ble_eq_true rfl) dX12_tryTelling_21 hcs) hS (fun H locs hP hS => ?_)
  refine lv_pop hx hb dX12_tryTelling_24 rfl ?_
  exact e_v hx hb hr hlocks hP hS (Nat.le_of_ble_eq_true rfl) (Nat.le_of_ble_eq_true rfl) (so_el h) dX12_tryTelling_25

def f_X6_hedgesReached_L4 : Nat → Int32 → Int32 → Mm → Option (Int32 × Mm)
  | 0, _, _, _ => none
  | n + 1, u2, u1, w => br (8 ≤ u2) (some (u1, w)) (gd (vB u2 8) (br ((gI w 15 0 u2.toNatClampNeg) ≤ 0) (sq (u2 + 1) (fun x2 => f_X6_hedgesReached_L4 n x2 u1 w)) (sq (u1 + 1) (fun x3 => sq (u2 + 1) (fun x4 => f_X6_hedgesReached_L4 n x4 x3 w)))))

def f_X6_hedgesReached (w : Mm) : Option (Int32 × Mm) := bd1 (f_X6_hedgesReached_L4 LF 0 0 w) (fun y5 w6 => some (y5, w6))

theorem miX6_hedgesReached : MI RX6 yX6_hedgesReached cX6_hedgesReached 3 (some .int) 0 := ⟨w5_171, w5_172, w1_7, w5_173, rfl, by decide +kernel, by decide +kernel, by decide +kernel⟩
set_option maxHeartbeats 4000000 in
set_option maxRecDepth 100000 in
theorem l_X6_hedgesReached_4 {p : Program} {l : Launch} {e : Env} {R : Room} {s : State} {m : MethodId} {args : Array Value} {below : List Frame} {meth : Method} {c : Code} {cells slots : Nat} {Q : State → Prop} {G : GG} (hC : CX p s m args c meth G cX6_hedgesReached 3 (some .int) RX6) (hR : R = { frames := 0, cells := 0, slots := 0, locals := 0 }) (hcs : cells ≤ R.cells ∧ slots ≤ R.slots) (hF : gF G = true)  : ∀ (n : Nat) (u2 : Int32) (u1 : Int32) (w : Mm) (v1 : Int32) (w' : Mm), f_X6_hedgesReached_L4  n u2 u1 w = some (v1, w') → ∀ (H : Heap) (locs : List Loc) (ls : Array Slot), HP G w H → va_S (Ab G) s.heap H locs → lv_has ls 3 [(0, .ref (adr (gB G) 11 0)), (2, .int u2), (1, .int u1)] → (∀ (H : Heap) (locs : List Loc) (ls : Array Slot), HP G w' H → va_S (Ab G) s.heap H locs → lv_has ls 3 [(1, .int v1)] → W p l e R s m args below meth c H locs cells slots Q (F0 m 31 ls [])) → W p l e R s m args below meth c H locs cells slots Q (F0 m 4 ls []) := by
  subst hR
  obtain ⟨hx, hb, hml, hr, hown, hlocks, hts, hE⟩ := id hC
  intro n
  induction n with
  | zero =>
    intro u2 u1 w v1 w' h
    rw [f_X6_hedgesReached_L4] at h
    cases h
  | succ n ih =>
    intro u2 u1 w v1 w' h H locs ls hP hS hl k0
    rw [f_X6_hedgesReached_L4] at h
    refine lv_iload_n hx hb dX6_hedgesReached_4 rfl (lv_at hl 1 rfl) ?_
    refine lv_aload_n hx hb dX6_hedgesReached_5 rfl (lv_at hl 0 rfl) ?_
    refine k_get (ci := 4) (v := .ref (adr (gB G) 15 0)) hx hb hts hE inX6 hown hP (hp_sh hP hF 0 11 (by decide)) (by decide) rfl rfl 4 (by decide) w1_120 rfl rfl dX6_hedgesReached_6 ?_
    refine k_alen (v := 8) hx hb hE hP (hp_sh hP hF 0 15 (by decide)) (by decide) rfl 0 rfl rfl dX6_hedgesReached_9 ?_
    refine lv_icmp_ge (tgt := 31) hx hb dX6_hedgesReached_10 (by decide) (fun cc => ?_) (fun cc => ?_)
    · have h := br_el h cc
      cases h
      exact k0 _ _ _ hP hS (lv_sub hl [2] rfl)
    · have h := br_er h cc
      refine lv_aload_n hx hb dX6_hedgesReached_13 rfl (lv_at hl 0 rfl) ?_
      refine k_get (ci := 4) (v := .ref (adr (gB G) 15 0)) hx hb hts hE inX6 hown hP (hp_sh hP hF 0 11 (by decide)) (by decide) rfl rfl 4 (by decide) w1_120 rfl rfl dX6_hedgesReached_14 ?_
      refine lv_iload_n hx hb dX6_hedgesReached_17 rfl (lv_at hl 1 rfl) ?_
      obtain ⟨g1, h⟩ := gd_el h
      refine k_iald hx hb hE hP (hp_sh hP hF 0 15 (by decide)) (by decide) rfl g1 dX6_hedgesReached_18 ?_
      refine lv_if_le (tgt := 25) hx hb dX6_hedgesReached_19 (by decide) (fun cc => ?_) (fun cc => ?_)
      · have h := br_el h cc
        obtain ⟨x2, e⟩ : ∃ z : Int32, z = u2 + 1 := ⟨_, rfl⟩
        have h := sq_at h e
        refine lv_iinc (v := x2) (lv' := [(2, .int x2), (0, .ref (adr (gB G) 11 0)), (1, .int u1)]) hx hb dX6_hedgesReached_25 hl (k := 1) rfl (by rw [e]; rfl) (by decide) rfl (fun ls hl => ?_)
        refine lv_goto (tgt := 4) hx hb dX6_hedgesReached_28 (by decide) ?_
        exact ih x2 u1 w v1 w' h _ _ _ hP hS (lv_sub hl [1, 0, 2] rfl) k0
      · have h := br_er h cc
        obtain ⟨x3, e⟩ : ∃ z : Int32, z = u1 + 1 := ⟨_, rfl⟩
        have h := sq_at h e
        refine lv_iinc (v := x3) (lv' := [(1, .int x3), (0, .ref (adr (gB G) 11 0)), (2, .int u2)]) hx hb dX6_hedgesReached_22 hl (k := 2) rfl (by rw [e]; rfl) (by decide) rfl (fun ls hl => ?_)
        obtain ⟨x4, e⟩ : ∃ z : Int32, z = u2 + 1 := ⟨_, rfl⟩
        have h := sq_at h e
        refine lv_iinc (v := x4) (lv' := [(2, .int x4), (1, .int x3), (0, .ref (adr (gB G) 11 0))]) hx hb dX6_hedgesReached_25 hl (k := 2) rfl (by rw [e]; rfl) (by decide) rfl (fun ls hl => ?_)
        refine lv_goto (tgt := 4) hx hb dX6_hedgesReached_28 (by decide) ?_
        exact ih x4 x3 w v1 w' h _ _ _ hP hS (lv_sub hl [2, 0, 1] rfl) k0

set_option maxHeartbeats 4000000 in
set_option maxRecDepth 100000 in
theorem c_X6_hedgesReached (l : Launch) (G : GG) (hF : gF G = true)  (w : Mm) (r : Int32) (w' : Mm) (h : f_X6_hedgesReached  w = some (r, w')) : Ki l G yX6_hedgesReached cX6_hedgesReached 3 (some .int) { frames := 0, cells := 0, slots := 0, locals := 0 } [.ref (adr (gB G) 11 0)] w r w' := by
  refine k_of (by decide +kernel) (Nat.le_of_ble_eq_true rfl) ?_
  intro p e s m args below meth c ls hx hb hml hr hown hlocks hts hin hP hE hl
  have hC : CX p s m args c meth G cX6_hedgesReached 3 (some .int) RX6 := ⟨hx, hb, hml, hr, hown, hlocks, hts, hE⟩
  have hS : va_S (Ab G) s.heap s.heap [] := va_S.rf
  have hcs : 0 ≤ 0 ∧ 0 ≤ 0 := ⟨Nat.zero_le _, Nat.zero_le _⟩
  have hl : lv_has ls 3 [(0, .ref (adr (gB G) 11 0))] := hl
  unfold f_X6_hedgesReached at h
  refine lv_iconst (v := 0) hx hb dX6_hedgesReached_0 (by decide) ?_
  refine lv_istore_n (i := 1) (lv' := [(1, .int 0), (0, .ref (adr (gB G) 11 0))]) hx hb dX6_hedgesReached_1 rfl hl (by decide) rfl (fun ls hl => ?_)
  refine lv_iconst (v := 0) hx hb dX6_hedgesReached_2 (by decide) ?_
  refine lv_istore_n (i := 2) (lv' := [(2, .int 0), (1, .int 0), (0, .ref (adr (gB G) 11 0))]) hx hb dX6_hedgesReached_3 rfl hl (by decide) rfl (fun ls hl => ?_)
  obtain ⟨y5, w6, hf, h⟩ := bd1_el h
  refine l_X6_hedgesReached_4 hC rfl hcs hF LF 0 0 w y5 w6 hf _ _ _ hP hS (lv_sub hl [2, 0, 1] rfl) (fun H locs ls hP hS hl => ?_)
  refine lv_iload_n hx hb dX6_hedgesReached_31 rfl (lv_at hl 0 rfl) ?_
  exact e_i hx hb hr rfl hlocks hP hS (Nat.le_of_ble_eq_true rfl) (Nat.le_of_ble_eq_true rfl) (Prod.mk.inj (so_el h)) dX6_hedgesReached_32

def f_X6_firstLoudnessAt (a1 : Int32) (w : Mm) : Option (Int32 × Mm) := br (a1 < 0) (some (0, w)) (br (a1 < 8) (gd (vB a1 8) (some (gI w 15 0 a1.toNatClampNeg, w))) (some (0, w)))

theorem miX6_firstLoudnessAt : MI RX6 yX6_firstLoudnessAt cX6_firstLoudnessAt 2 (some .int) 1 := ⟨w5_182, w5_183, w1_7, w5_184, rfl, by decide +kernel, by decide +kernel, by decide +kernel⟩
set_option maxHeartbeats 4000000 in
set_option maxRecDepth 100000 in
theorem c_X6_firstLoudnessAt (l : Launch) (G : GG) (hF : gF G = true) (a1 : Int32) (w : Mm) (r : Int32) (w' : Mm) (h : f_X6_firstLoudnessAt a1 w = some (r, w')) : Ki l G yX6_firstLoudnessAt cX6_firstLoudnessAt 2 (some .int) { frames := 0, cells := 0, slots := 0, locals := 0 } [.ref (adr (gB G) 11 0), .int a1] w r w' := by
  refine k_of (by decide +kernel) (Nat.le_of_ble_eq_true rfl) ?_
  intro p e s m args below meth c ls hx hb hml hr hown hlocks hts hin hP hE hl
  have hC : CX p s m args c meth G cX6_firstLoudnessAt 2 (some .int) RX6 := ⟨hx, hb, hml, hr, hown, hlocks, hts, hE⟩
  have hS : va_S (Ab G) s.heap s.heap [] := va_S.rf
  have hcs : 0 ≤ 0 ∧ 0 ≤ 0 := ⟨Nat.zero_le _, Nat.zero_le _⟩
  have hl : lv_has ls 2 [(0, .ref (adr (gB G) 11 0)), (1, .int a1)] := hl
  unfold f_X6_firstLoudnessAt at h
  refine lv_iload_n hx hb dX6_firstLoudnessAt_0 rfl (lv_at hl 1 rfl) ?_
  refine lv_if_lt (tgt := 13) hx hb dX6_firstLoudnessAt_1 (by decide) (fun cc => ?_) (fun cc => ?_)
  · have h := br_el h cc
    refine lv_iconst (v := 0) hx hb dX6_firstLoudnessAt_13 (by decide) ?_
    refine lv_goto (tgt := 23) hx hb dX6_firstLoudnessAt_14 (by decide) ?_
    exact e_i hx hb hr rfl hlocks hP hS (Nat.le_of_ble_eq_true rfl) (Nat.le_of_ble_eq_true rfl) (Prod.mk.inj (so_el h)) dX6_firstLoudnessAt_23
  · have h := br_er h cc
    refine lv_iload_n hx hb dX6_firstLoudnessAt_4 rfl (lv_at hl 1 rfl) ?_
    refine lv_aload_n hx hb dX6_firstLoudnessAt_5 rfl (lv_at hl 0 rfl) ?_
    refine k_get (ci := 4) (v := .ref (adr (gB G) 15 0)) hx hb hts hE inX6 hown hP (hp_sh hP hF 0 11 (by decide)) (by decide) rfl rfl 4 (by decide) w1_120 rfl rfl dX6_firstLoudnessAt_6 ?_
    refine k_alen (v := 8) hx hb hE hP (hp_sh hP hF 0 15 (by decide)) (by decide) rfl 0 rfl rfl dX6_firstLoudnessAt_9 ?_
    refine lv_icmp_lt (tgt := 17) hx hb dX6_firstLoudnessAt_10 (by decide) (fun cc => ?_) (fun cc => ?_)
    · have h := br_el h cc
      refine lv_aload_n hx hb dX6_firstLoudnessAt_17 rfl (lv_at hl 0 rfl) ?_
      refine k_get (ci := 4) (v := .ref (adr (gB G) 15 0)) hx hb hts hE inX6 hown hP (hp_sh hP hF 0 11 (by decide)) (by decide) rfl rfl 4 (by decide) w1_120 rfl rfl dX6_firstLoudnessAt_18 ?_
      refine lv_iload_n hx hb dX6_firstLoudnessAt_21 rfl (lv_at hl 1 rfl) ?_
      obtain ⟨g1, h⟩ := gd_el h
      refine k_iald hx hb hE hP (hp_sh hP hF 0 15 (by decide)) (by decide) rfl g1 dX6_firstLoudnessAt_22 ?_
      exact e_i hx hb hr rfl hlocks hP hS (Nat.le_of_ble_eq_true rfl) (Nat.le_of_ble_eq_true rfl) (Prod.mk.inj (so_el h)) dX6_firstLoudnessAt_23
    · have h := br_er h cc
      refine lv_iconst (v := 0) hx hb dX6_firstLoudnessAt_13 (by decide) ?_
      refine lv_goto (tgt := 23) hx hb dX6_firstLoudnessAt_14 (by decide) ?_
      exact e_i hx hb hr rfl hlocks hP hS (Nat.le_of_ble_eq_true rfl) (Nat.le_of_ble_eq_true rfl) (Prod.mk.inj (so_el h)) dX6_firstLoudnessAt_23

def f_X6_cameAgainTo (a1 : Int32) (w : Mm) : Option (Int32 × Mm) := br (a1 < 0) (some (0, w)) (br (8 ≤ a1) (some (0, w)) (gd (vB a1 8) (br ((gI w 16 0 a1.toNatClampNeg) = 0) (some (0, w)) (some (1, w)))))

theorem miX6_cameAgainTo : MI RX6 yX6_cameAgainTo cX6_cameAgainTo 2 (some .boolean) 1 := ⟨w5_193, w5_194, w1_7, w5_195, rfl, by decide +kernel, by decide +kernel, by decide +kernel⟩
set_option maxHeartbeats 4000000 in
set_option maxRecDepth 100000 in
theorem c_X6_cameAgainTo (l : Launch) (G : GG) (hF : gF G = true) (a1 : Int32) (w : Mm) (r : Int32) (w' : Mm) (h : f_X6_cameAgainTo a1 w = some (r, w')) : Ki l G yX6_cameAgainTo cX6_cameAgainTo 2 (some .boolean) { frames := 0, cells := 0, slots := 0, locals := 0 } [.ref (adr (gB G) 11 0), .int a1] w r w' := by
  refine k_of (by decide +kernel) (Nat.le_of_ble_eq_true rfl) ?_
  intro p e s m args below meth c ls hx hb hml hr hown hlocks hts hin hP hE hl
  have hC : CX p s m args c meth G cX6_cameAgainTo 2 (some .boolean) RX6 := ⟨hx, hb, hml, hr, hown, hlocks, hts, hE⟩
  have hS : va_S (Ab G) s.heap s.heap [] := va_S.rf
  have hcs : 0 ≤ 0 ∧ 0 ≤ 0 := ⟨Nat.zero_le _, Nat.zero_le _⟩
  have hl : lv_has ls 2 [(0, .ref (adr (gB G) 11 0)), (1, .int a1)] := hl
  unfold f_X6_cameAgainTo at h
  refine lv_iload_n hx hb dX6_cameAgainTo_0 rfl (lv_at hl 1 rfl) ?_
  refine lv_if_lt (tgt := 26) hx hb dX6_cameAgainTo_1 (by decide) (fun cc => ?_) (fun cc => ?_)
  · have h := br_el h cc
    refine lv_iconst (v := 0) hx hb dX6_cameAgainTo_26 (by decide) ?_
    exact e_i hx hb hr rfl hlocks hP hS (Nat.le_of_ble_eq_true rfl) (Nat.le_of_ble_eq_true rfl) (Prod.mk.inj (so_el h)) dX6_cameAgainTo_27
  · have h := br_er h cc
    refine lv_iload_n hx hb dX6_cameAgainTo_4 rfl (lv_at hl 1 rfl) ?_
    refine lv_aload_n hx hb dX6_cameAgainTo_5 rfl (lv_at hl 0 rfl) ?_
    refine k_get (ci := 4) (v := .ref (adr (gB G) 16 0)) hx hb hts hE inX6 hown hP (hp_sh hP hF 0 11 (by decide)) (by decide) rfl rfl 5 (by decide) w1_121 rfl rfl dX6_cameAgainTo_6 ?_
    refine k_alen (v := 8) hx hb hE hP (hp_sh hP hF 0 16 (by decide)) (by decide) rfl 3 rfl rfl dX6_cameAgainTo_9 ?_
    refine lv_icmp_ge (tgt := 26) hx hb dX6_cameAgainTo_10 (by decide) (fun cc => ?_) (fun cc => ?_)
    · have h := br_el h cc
      refine lv_iconst (v := 0) hx hb dX6_cameAgainTo_26 (by decide) ?_
      exact e_i hx hb hr rfl hlocks hP hS (Nat.le_of_ble_eq_true rfl) (Nat.le_of_ble_eq_true rfl) (Prod.mk.inj (so_el h)) dX6_cameAgainTo_27
    · have h := br_er h cc
      refine lv_aload_n hx hb dX6_cameAgainTo_13 rfl (lv_at hl 0 rfl) ?_
      refine k_get (ci := 4) (v := .ref (adr (gB G) 16 0)) hx hb hts hE inX6 hown hP (hp_sh hP hF 0 11 (by decide)) (by decide) rfl rfl 5 (by decide) w1_121 rfl rfl dX6_cameAgainTo_14 ?_
      refine lv_iload_n hx hb dX6_cameAgainTo_17 rfl (lv_at hl 1 rfl) ?_
      obtain ⟨g1, h⟩ := gd_el h
      refine k_zald hx hb hE hP (hp_sh hP hF 0 16 (by decide)) (by decide) rfl g1 dX6_cameAgainTo_18 ?_
      refine lv_if_eq (tgt := 26) hx hb dX6_cameAgainTo_19 (by decide) (fun cc => ?_) (fun cc => ?_)
      · have h := br_el h cc
        refine lv_iconst (v := 0) hx hb dX6_cameAgainTo_26 (by decide) ?_
        exact e_i hx hb hr rfl hlocks hP hS (Nat.le_of_ble_eq_true rfl) (Nat.le_of_ble_eq_true rfl) (Prod.mk.inj (so_el h)) dX6_cameAgainTo_27
      · have h := br_er h cc
        refine lv_iconst (v := 1) hx hb dX6_cameAgainTo_22 (by decide) ?_
        refine lv_goto (tgt := 27) hx hb dX6_cameAgainTo_23 (by decide) ?_
        exact e_i hx hb hr rfl hlocks hP hS (Nat.le_of_ble_eq_true rfl) (Nat.le_of_ble_eq_true rfl) (Prod.mk.inj (so_el h)) dX6_cameAgainTo_27

def f_X1_departuresAt (a0 : Nat) (a1 : Int32) (w : Mm) : Option (Int32 × Mm) := bd1 (f_X1_rose a0 a1 w) (fun r1 w2 => on (r1) (some (0, w2)) (fun k3 => gd (decide (k3 < 16)) (some (gI w2 24 k3 3, w2))))

theorem miX1_departuresAt : MI RX1 yX1_departuresAt cX1_departuresAt 3 (some .int) 1 := ⟨w5_212, w5_213, w1_9, w5_214, rfl, by decide +kernel, by decide +kernel, by decide +kernel⟩
set_option maxHeartbeats 4000000 in
set_option maxRecDepth 100000 in
theorem c_X1_departuresAt (l : Launch) (G : GG) (hF : gF G = true) (a0 : Nat) (ha0 : a0 < cnt 19) (a1 : Int32) (w : Mm) (r : Int32) (w' : Mm) (h : f_X1_departuresAt a0 a1 w = some (r, w')) : Ki l G yX1_departuresAt cX1_departuresAt 3 (some .int) { frames := 1, cells := 0, slots := 0, locals := 21 } [.ref (adr (gB G) 19 a0), .int a1] w r w' := by
  refine k_of (by decide +kernel) (Nat.le_of_ble_eq_true rfl) ?_
  intro p e s m args below meth c ls hx hb hml hr hown hlocks hts hin hP hE hl
  have hC : CX p s m args c meth G cX1_departuresAt 3 (some .int) RX1 := ⟨hx, hb, hml, hr, hown, hlocks, hts, hE⟩
  have hS : va_S (Ab G) s.heap s.heap [] := va_S.rf
  have hcs : 0 ≤ 0 ∧ 0 ≤ 0 := ⟨Nat.zero_le _, Nat.zero_le _⟩
  have hl : lv_has ls 3 [(0, .ref (adr (gB G) 19 a0)), (1, .int a1)] := hl
  unfold f_X1_departuresAt at h
  refine lv_aload_n hx hb dX1_departuresAt_0 rfl (lv_at hl 0 rfl) ?_
  refine lv_iload_n hx hb dX1_departuresAt_1 rfl (lv_at hl 1 rfl) ?_
  obtain ⟨r1, w2, hf, h⟩ := bd1_el h
  refine c_onq (c_runV (b := adr (gB G) 19 a0) (As := [.int a1]) (rest := []) hx hb hml hown hts hE hP hS (c_X1_rose l G hF a0 ha0 a1 w r1 w2 hf) (c_rec hE hP (hp_sh hP hF a0 19 ha0) (by decide) rfl rfl) w3_215 miX1_rose ⟨Nat.le_of_ble_eq_true rfl, Nat.le_of_ble_eq_true rfl⟩ rfl hl.1 rfl (Nat.le_of_ble_eq_true rfl) dX1_departuresAt_2 hcs) hS (fun H locs hP hS => ?_)
  refine k_astore_n (i := 2) (lv' := [(2, va_rf (r1.map (adr (gB G) 24))), (0, .ref (adr (gB G) 19 a0)), (1, .int a1)]) hx hb dX1_departuresAt_5 rfl hl (by decide) (by simp [kR, cat_rf, cat_ref, cat_int, cat_long, cat_null]) (fun ls hl => ?_)
  refine k_aload_n hx hb dX1_departuresAt_6 rfl (lv_at hl 0 rfl) ?_
  rcases ho : r1 with _ | k3
  · have h := on_n h ho
    refine k_ifnonnull_n hx hb rfl dX1_departuresAt_7 ?_
    rw [ho] at hl
    have hl : lv_has ls 3 [(2, .null), (0, .ref (adr (gB G) 19 a0)), (1, .int a1)] := hl
    refine lv_iconst (v := 0) hx hb dX1_departuresAt_10 (by decide) ?_
    refine lv_goto (tgt := 18) hx hb dX1_departuresAt_11 (by decide) ?_
    exact e_i hx hb hr rfl hlocks hP hS (Nat.le_of_ble_eq_true rfl) (Nat.le_of_ble_eq_true rfl) (Prod.mk.inj (so_el h)) dX1_departuresAt_18
  · have h := on_s h ho
    obtain ⟨g4, h⟩ := gd_el h
    refine k_ifnonnull_s (tgt := 14) hx hb rfl dX1_departuresAt_7 (by decide) ?_
    rw [ho] at hl
    have hl : lv_has ls 3 [(2, .ref (adr (gB G) 24 k3)), (0, .ref (adr (gB G) 19 a0)), (1, .int a1)] := hl
    refine lv_aload_n hx hb dX1_departuresAt_14 rfl (lv_at hl 0 rfl) ?_
    refine k_get (ci := 7) (v := .int (gI w2 24 k3 3)) hx hb hts hE inX9 hown hP (hp_sh hP hF k3 24 (of_decide_eq_true g4)) (by decide) rfl rfl 3 (by decide) w1_208 rfl rfl dX1_departuresAt_15 ?_
    exact e_i hx hb hr rfl hlocks hP hS (Nat.le_of_ble_eq_true rfl) (Nat.le_of_ble_eq_true rfl) (Prod.mk.inj (so_el h)) dX1_departuresAt_18

def f_X1_petalsInAll_L4 (z0 : Nat) : Nat → Int32 → Int64 → Mm → Option (Int64 × Mm)
  | 0, _, _, _ => none
  | n + 1, u3, u1, w => br ((gI w 19 z0 3) ≤ u3) (some (u1, w)) (bd1 (f_X1_petalsAt z0 u3 w) (fun r1 w2 => sq (u1 + r1.toInt64) (fun x3 => sq (u3 + 1) (fun x4 => f_X1_petalsInAll_L4 z0 n x4 x3 w2))))

def f_X1_petalsInAll (a0 : Nat) (w : Mm) : Option (Int64 × Mm) := bd1 (f_X1_petalsInAll_L4 a0 LF 0 0 w) (fun y5 w6 => some (y5, w6))

theorem miX1_petalsInAll : MI RX1 yX1_petalsInAll cX1_petalsInAll 4 (some .long) 0 := ⟨w3_224, w3_225, w1_9, w3_226, rfl, by decide +kernel, by decide +kernel, by decide +kernel⟩
set_option maxHeartbeats 4000000 in
set_option maxRecDepth 100000 in
theorem l_X1_petalsInAll_4 {p : Program} {l : Launch} {e : Env} {R : Room} {s : State} {m : MethodId} {args : Array Value} {below : List Frame} {meth : Method} {c : Code} {cells slots : Nat} {Q : State → Prop} {G : GG} (hC : CX p s m args c meth G cX1_petalsInAll 4 (some .long) RX1) (hR : R = { frames := 2, cells := 0, slots := 0, locals := 43 }) (hcs : cells ≤ R.cells ∧ slots ≤ R.slots) (hF : gF G = true) (z0 : Nat) (hz0 : z0 < cnt 19) : ∀ (n : Nat) (u3 : Int32) (u1 : Int64) (w : Mm) (v1 : Int64) (w' : Mm), f_X1_petalsInAll_L4 z0 n u3 u1 w = some (v1, w') → ∀ (H : Heap) (locs : List Loc) (ls : Array Slot), HP G w H → va_S (Ab G) s.heap H locs → lv_has ls 4 [(0, .ref (adr (gB G) 19 z0)), (3, .int u3), (1, .long u1)] → (∀ (H : Heap) (locs : List Loc) (ls : Array Slot), HP G w' H → va_S (Ab G) s.heap H locs → lv_has ls 4 [(1, .long v1)] → W p l e R s m args below meth c H locs cells slots Q (F0 m 27 ls [])) → W p l e R s m args below meth c H locs cells slots Q (F0 m 4 ls []) := by
  subst hR
  obtain ⟨hx, hb, hml, hr, hown, hlocks, hts, hE⟩ := id hC
  intro n
  induction n with
  | zero =>
    intro u3 u1 w v1 w' h
    rw [f_X1_petalsInAll_L4] at h
    cases h
  | succ n ih =>
    intro u3 u1 w v1 w' h H locs ls hP hS hl k0
    rw [f_X1_petalsInAll_L4] at h
    refine lv_iload_n hx hb dX1_petalsInAll_4 rfl (lv_at hl 1 rfl) ?_
    refine lv_aload_n hx hb dX1_petalsInAll_5 rfl (lv_at hl 0 rfl) ?_
    refine k_get (ci := 0) (v := .int (gI w 19 z0 3)) hx hb hts hE inX1 hown hP (hp_sh hP hF z0 19 hz0) (by decide) rfl rfl 3 (by decide) w1_223 rfl rfl dX1_petalsInAll_6 ?_
    refine lv_icmp_ge (tgt := 27) hx hb dX1_petalsInAll_9 (by decide) (fun cc => ?_) (fun cc => ?_)
    · have h := br_el h cc
      cases h
      exact k0 _ _ _ hP hS (lv_sub hl [2] rfl)
    · have h := br_er h cc
      refine lv_lload_n hx hb dX1_petalsInAll_12 rfl (lv_at hl 2 rfl) ?_
      refine lv_aload_n hx hb dX1_petalsInAll_13 rfl (lv_at hl 0 rfl) ?_
      refine lv_iload_n hx hb dX1_petalsInAll_14 rfl (lv_at hl 1 rfl) ?_
      obtain ⟨r1, w2, hf, h⟩ := bd1_el h
      refine c_oni (c_runV (b := adr (gB G) 19 z0) (As := [.int u3]) (rest := [.long u1]) hx hb hml hown hts hE hP hS (c_X1_petalsAt l G hF z0 hz0 u3 w r1 w2 hf) (c_rec hE hP (hp_sh hP hF z0 19 hz0) (by decide) rfl rfl) w3_211 miX1_petalsAt ⟨Nat.le_of_ble_eq_true rfl, Nat.le_of_ble_eq_true rfl⟩ rfl hl.1 rfl (Nat.le_of_ble_eq_true rfl) dX1_petalsInAll_15 hcs) hS (fun H locs hP hS => ?_)
      refine lv_i2l hx hb dX1_petalsInAll_18 rfl ?_
      refine lv_ladd hx hb dX1_petalsInAll_19 ?_
      refine lv_topl (fun x3 e => ?_)
      have h := sq_at h e
      refine lv_lstore_n (i := 1) (lv' := [(1, .long x3), (0, .ref (adr (gB G) 19 z0)), (3, .int u3)]) hx hb dX1_petalsInAll_20 rfl hl (by decide) rfl (fun ls hl => ?_)
      obtain ⟨x4, e⟩ : ∃ z : Int32, z = u3 + 1 := ⟨_, rfl⟩
      have h := sq_at h e
      refine lv_iinc (v := x4) (lv' := [(3, .int x4), (1, .long x3), (0, .ref (adr (gB G) 19 z0))]) hx hb dX1_petalsInAll_21 hl (k := 2) rfl (by rw [e]; rfl) (by decide) rfl (fun ls hl => ?_)
      refine lv_goto (tgt := 4) hx hb dX1_petalsInAll_24 (by decide) ?_
      exact ih x4 x3 w2 v1 w' h _ _ _ hP hS (lv_sub hl [2, 0, 1] rfl) k0

set_option maxHeartbeats 4000000 in
set_option maxRecDepth 100000 in
theorem c_X1_petalsInAll (l : Launch) (G : GG) (hF : gF G = true) (a0 : Nat) (ha0 : a0 < cnt 19) (w : Mm) (r : Int64) (w' : Mm) (h : f_X1_petalsInAll a0 w = some (r, w')) : Kl l G yX1_petalsInAll cX1_petalsInAll 4 (some .long) { frames := 2, cells := 0, slots := 0, locals := 43 } [.ref (adr (gB G) 19 a0)] w r w' := by
  refine k_of (by decide +kernel) (Nat.le_of_ble_eq_true rfl) ?_
  intro p e s m args below meth c ls hx hb hml hr hown hlocks hts hin hP hE hl
  have hC : CX p s m args c meth G cX1_petalsInAll 4 (some .long) RX1 := ⟨hx, hb, hml, hr, hown, hlocks, hts, hE⟩
  have hS : va_S (Ab G) s.heap s.heap [] := va_S.rf
  have hcs : 0 ≤ 0 ∧ 0 ≤ 0 := ⟨Nat.zero_le _, Nat.zero_le _⟩
  have hl : lv_has ls 4 [(0, .ref (adr (gB G) 19 a0))] := hl
  unfold f_X1_petalsInAll at h
  refine lv_lconst (v := 0) hx hb dX1_petalsInAll_0 (by decide) ?_
  refine lv_lstore_n (i := 1) (lv' := [(1, .long 0), (0, .ref (adr (gB G) 19 a0))]) hx hb dX1_petalsInAll_1 rfl hl (by decide) rfl (fun ls hl => ?_)
  refine lv_iconst (v := 0) hx hb dX1_petalsInAll_2 (by decide) ?_
  refine lv_istore_n (i := 3) (lv' := [(3, .int 0), (1, .long 0), (0, .ref (adr (gB G) 19 a0))]) hx hb dX1_petalsInAll_3 rfl hl (by decide) rfl (fun ls hl => ?_)
  obtain ⟨y5, w6, hf, h⟩ := bd1_el h
  refine l_X1_petalsInAll_4 hC rfl hcs hF a0 ha0 LF 0 0 w y5 w6 hf _ _ _ hP hS (lv_sub hl [2, 0, 1] rfl) (fun H locs ls hP hS hl => ?_)
  refine lv_lload_n hx hb dX1_petalsInAll_27 rfl (lv_at hl 0 rfl) ?_
  exact e_l hx hb hr hlocks hP hS (Nat.le_of_ble_eq_true rfl) (Nat.le_of_ble_eq_true rfl) (Prod.mk.inj (so_el h)) dX1_petalsInAll_28

def f_X12_digested (a0 : Int64) (a2 : Int32) (w : Mm) : Option (Int64 × Mm) := some ((a0 * 31) + a2.toInt64, w)

theorem miX12_digested : MS yX12_digested cX12_digested 3 (some .long) 2 := ⟨w3_233, w1_1, w3_234, by decide +kernel, by decide +kernel, by decide +kernel⟩
set_option maxHeartbeats 4000000 in
set_option maxRecDepth 100000 in
theorem c_X12_digested (l : Launch) (G : GG) (hF : gF G = true) (a0 : Int64) (a2 : Int32) (w : Mm) (r : Int64) (w' : Mm) (h : f_X12_digested a0 a2 w = some (r, w')) : Kl l G yX12_digested cX12_digested 3 (some .long) { frames := 0, cells := 0, slots := 0, locals := 0 } [.long a0, .int a2] w r w' := by
  refine k_of (by decide +kernel) (Nat.le_of_ble_eq_true rfl) ?_
  intro p e s m args below meth c ls hx hb hml hr hown hlocks hts hin hP hE hl
  have hC : CX p s m args c meth G cX12_digested 3 (some .long) RX12 := ⟨hx, hb, hml, hr, hown, hlocks, hts, hE⟩
  have hS : va_S (Ab G) s.heap s.heap [] := va_S.rf
  have hcs : 0 ≤ 0 ∧ 0 ≤ 0 := ⟨Nat.zero_le _, Nat.zero_le _⟩
  have hl : lv_has ls 3 [(0, .long a0), (2, .int a2)] := hl
  unfold f_X12_digested at h
  refine lv_lload_n hx hb dX12_digested_0 rfl (lv_at hl 0 rfl) ?_
  refine lv_ldc2 (v := 31) hx hb hown (hts _ w3_235) dX12_digested_1 ?_
  refine lv_lmul hx hb dX12_digested_4 ?_
  refine lv_iload_n hx hb dX12_digested_5 rfl (lv_at hl 1 rfl) ?_
  refine lv_i2l hx hb dX12_digested_6 rfl ?_
  refine lv_ladd hx hb dX12_digested_7 ?_
  exact e_l hx hb hr hlocks hP hS (Nat.le_of_ble_eq_true rfl) (Nat.le_of_ble_eq_true rfl) (Prod.mk.inj (so_el h)) dX12_digested_8

def f_X15_thrown (w : Mm) : Option (Int32 × Mm) := some (gI w 32 0 0, w)

theorem miX15_thrown : MI RX15 yX15_thrown cX15_thrown 1 (some .int) 0 := ⟨w6_192, w6_193, w1_14, w6_194, rfl, by decide +kernel, by decide +kernel, by decide +kernel⟩
set_option maxHeartbeats 4000000 in
set_option maxRecDepth 100000 in
theorem c_X15_thrown (l : Launch) (G : GG) (hF : gF G = true)  (w : Mm) (r : Int32) (w' : Mm) (h : f_X15_thrown  w = some (r, w')) : Ki l G yX15_thrown cX15_thrown 1 (some .int) { frames := 0, cells := 0, slots := 0, locals := 0 } [.ref (adr (gB G) 32 0)] w r w' := by
  refine k_of (by decide +kernel) (Nat.le_of_ble_eq_true rfl) ?_
  intro p e s m args below meth c ls hx hb hml hr hown hlocks hts hin hP hE hl
  have hC : CX p s m args c meth G cX15_thrown 1 (some .int) RX15 := ⟨hx, hb, hml, hr, hown, hlocks, hts, hE⟩
  have hS : va_S (Ab G) s.heap s.heap [] := va_S.rf
  have hcs : 0 ≤ 0 ∧ 0 ≤ 0 := ⟨Nat.zero_le _, Nat.zero_le _⟩
  have hl : lv_has ls 1 [(0, .ref (adr (gB G) 32 0))] := hl
  unfold f_X15_thrown at h
  refine lv_aload_n hx hb dX15_thrown_0 rfl (lv_at hl 0 rfl) ?_
  refine k_get (ci := 13) (v := .int (gI w 32 0 0)) hx hb hts hE inX15 hown hP (hp_sh hP hF 0 32 (by decide)) (by decide) rfl rfl 0 (by decide) w6_114 rfl rfl dX15_thrown_1 ?_
  exact e_i hx hb hr rfl hlocks hP hS (Nat.le_of_ble_eq_true rfl) (Nat.le_of_ble_eq_true rfl) (Prod.mk.inj (so_el h)) dX15_thrown_4

def f_X15_no (a1 : Int32) (w : Mm) : Option (Int32 × Mm) := sq (pI w 32 0 0 a1) (fun w1 => some (0, w1))

theorem miX15_no : MI RX15 yX15_no cX15_no 2 (some .int) 1 := ⟨w6_201, (tb_sel 34 rfl rfl), w1_14, w6_202, rfl, by decide +kernel, by decide +kernel, by decide +kernel⟩
set_option maxHeartbeats 4000000 in
set_option maxRecDepth 100000 in
theorem c_X15_no (l : Launch) (G : GG) (hF : gF G = true) (a1 : Int32) (w : Mm) (r : Int32) (w' : Mm) (h : f_X15_no a1 w = some (r, w')) : Ki l G yX15_no cX15_no 2 (some .int) { frames := 0, cells := 0, slots := 0, locals := 0 } [.ref (adr (gB G) 32 0), .int a1] w r w' := by
  refine k_of (by decide +kernel) (Nat.le_of_ble_eq_true rfl) ?_
  intro p e s m args below meth c ls hx hb hml hr hown hlocks hts hin hP hE hl
  have hC : CX p s m args c meth G cX15_no 2 (some .int) RX15 := ⟨hx, hb, hml, hr, hown, hlocks, hts, hE⟩
  have hS : va_S (Ab G) s.heap s.heap [] := va_S.rf
  have hcs : 0 ≤ 0 ∧ 0 ≤ 0 := ⟨Nat.zero_le _, Nat.zero_le _⟩
  have hl : lv_has ls 2 [(0, .ref (adr (gB G) 32 0)), (1, .int a1)] := hl
  unfold f_X15_no at h
  refine lv_aload_n hx hb dX15_no_0 rfl (lv_at hl 0 rfl) ?_
  refine lv_iload_n hx hb dX15_no_1 rfl (lv_at hl 1 rfl) ?_
  refine k_put (ci := 13) (ty := .int) (v := .int a1) (w1 := pI w 32 0 0 a1) hx hb hts hE inX15 tyX15 tyX15_ok nmX15 hown hP hS (hp_sh hP hF 0 32 (by decide)) (by decide) rfl rfl 0 (by decide) w6_114 rfl rfl rfl rfl rfl (Nat.le_of_ble_eq_true rfl) loc_pI (wce_pI.trans rfl) dX15_no_2 (fun w1 H locs e hP hS => ?_)
  have h := sq_at h e
  refine lv_iconst (v := 0) hx hb dX15_no_5 (by decide) ?_
  exact e_i hx hb hr rfl hlocks hP hS (Nat.le_of_ble_eq_true rfl) (Nat.le_of_ble_eq_true rfl) (Prod.mk.inj (so_el h)) dX15_no_6

def f_X15_isNot (a1 : Int32) (w : Mm) : Option (Int32 × Mm) := sq (pI w 32 0 0 a1) (fun w1 => some (0, w1))

theorem miX15_isNot : MI RX15 yX15_isNot cX15_isNot 2 (some .boolean) 1 := ⟨w8_218, (tb_sel 84 rfl rfl), w1_14, w8_219, rfl, by decide +kernel, by decide +kernel, by decide +kernel⟩
set_option maxHeartbeats 4000000 in
set_option maxRecDepth 100000 in
theorem c_X15_isNot (l : Launch) (G : GG) (hF : gF G = true) (a1 : Int32) (w : Mm) (r : Int32) (w' : Mm) (h : f_X15_isNot a1 w = some (r, w')) : Ki l G yX15_isNot cX15_isNot 2 (some .boolean) { frames := 0, cells := 0, slots := 0, locals := 0 } [.ref (adr (gB G) 32 0), .int a1] w r w' := by
  refine k_of (by decide +kernel) (Nat.le_of_ble_eq_true rfl) ?_
  intro p e s m args below meth c ls hx hb hml hr hown hlocks hts hin hP hE hl
  have hC : CX p s m args c meth G cX15_isNot 2 (some .boolean) RX15 := ⟨hx, hb, hml, hr, hown, hlocks, hts, hE⟩
  have hS : va_S (Ab G) s.heap s.heap [] := va_S.rf
  have hcs : 0 ≤ 0 ∧ 0 ≤ 0 := ⟨Nat.zero_le _, Nat.zero_le _⟩
  have hl : lv_has ls 2 [(0, .ref (adr (gB G) 32 0)), (1, .int a1)] := hl
  unfold f_X15_isNot at h
  refine lv_aload_n hx hb dX15_isNot_0 rfl (lv_at hl 0 rfl) ?_
  refine lv_iload_n hx hb dX15_isNot_1 rfl (lv_at hl 1 rfl) ?_
  refine k_put (ci := 13) (ty := .int) (v := .int a1) (w1 := pI w 32 0 0 a1) hx hb hts hE inX15 tyX15 tyX15_ok nmX15 hown hP hS (hp_sh hP hF 0 32 (by decide)) (by decide) rfl rfl 0 (by decide) w6_114 rfl rfl rfl rfl rfl (Nat.le_of_ble_eq_true rfl) loc_pI (wce_pI.trans rfl) dX15_isNot_2 (fun w1 H locs e hP hS => ?_)
  have h := sq_at h e
  refine lv_iconst (v := 0) hx hb dX15_isNot_5 (by decide) ?_
  exact e_i hx hb hr rfl hlocks hP hS (Nat.le_of_ble_eq_true rfl) (Nat.le_of_ble_eq_true rfl) (Prod.mk.inj (so_el h)) dX15_isNot_6

def f_X15_ok (a1 : Int32) (w : Mm) : Option (Int32 × Mm) := sq (pI w 32 0 0 0) (fun w1 => some (a1, w1))

theorem miX15_ok : MI RX15 yX15_ok cX15_ok 2 (some .int) 1 := ⟨w8_6, (tb_sel 70 rfl rfl), w1_14, w8_7, rfl, by decide +kernel, by decide +kernel, by decide +kernel⟩
set_option maxHeartbeats 4000000 in
set_option maxRecDepth 100000 in
theorem c_X15_ok (l : Launch) (G : GG) (hF : gF G = true) (a1 : Int32) (w : Mm) (r : Int32) (w' : Mm) (h : f_X15_ok a1 w = some (r, w')) : Ki l G yX15_ok cX15_ok 2 (some .int) { frames := 0, cells := 0, slots := 0, locals := 0 } [.ref (adr (gB G) 32 0), .int a1] w r w' := by
  refine k_of (by decide +kernel) (Nat.le_of_ble_eq_true rfl) ?_
  intro p e s m args below meth c ls hx hb hml hr hown hlocks hts hin hP hE hl
  have hC : CX p s m args c meth G cX15_ok 2 (some .int) RX15 := ⟨hx, hb, hml, hr, hown, hlocks, hts, hE⟩
  have hS : va_S (Ab G) s.heap s.heap [] := va_S.rf
  have hcs : 0 ≤ 0 ∧ 0 ≤ 0 := ⟨Nat.zero_le _, Nat.zero_le _⟩
  have hl : lv_has ls 2 [(0, .ref (adr (gB G) 32 0)), (1, .int a1)] := hl
  unfold f_X15_ok at h
  refine lv_aload_n hx hb dX15_ok_0 rfl (lv_at hl 0 rfl) ?_
  refine lv_iconst (v := 0) hx hb dX15_ok_1 (by decide) ?_
  refine k_put (ci := 13) (ty := .int) (v := .int 0) (w1 := pI w 32 0 0 0) hx hb hts hE inX15 tyX15 tyX15_ok nmX15 hown hP hS (hp_sh hP hF 0 32 (by decide)) (by decide) rfl rfl 0 (by decide) w6_114 rfl rfl rfl rfl rfl (Nat.le_of_ble_eq_true rfl) loc_pI (wce_pI.trans rfl) dX15_ok_2 (fun w1 H locs e hP hS => ?_)
  have h := sq_at h e
  refine lv_iload_n hx hb dX15_ok_5 rfl (lv_at hl 1 rfl) ?_
  exact e_i hx hb hr rfl hlocks hP hS (Nat.le_of_ble_eq_true rfl) (Nat.le_of_ble_eq_true rfl) (Prod.mk.inj (so_el h)) dX15_ok_6

def f_X15_isIn (a0 : Int32) (a1 : Int32) (a2 : Int32) (w : Mm) : Option (Int32 × Mm) := br (a0 < a1) (some (0, w)) (br (a2 < a0) (some (0, w)) (some (1, w)))

theorem miX15_isIn : MS yX15_isIn cX15_isIn 3 (some .boolean) 3 := ⟨w6_208, w1_14, w6_209, by decide +kernel, by decide +kernel, by decide +kernel⟩
set_option maxHeartbeats 4000000 in
set_option maxRecDepth 100000 in
theorem c_X15_isIn (l : Launch) (G : GG) (hF : gF G = true) (a0 : Int32) (a1 : Int32) (a2 : Int32) (w : Mm) (r : Int32) (w' : Mm) (h : f_X15_isIn a0 a1 a2 w = some (r, w')) : Ki l G yX15_isIn cX15_isIn 3 (some .boolean) { frames := 0, cells := 0, slots := 0, locals := 0 } [.int a0, .int a1, .int a2] w r w' := by
  refine k_of (by decide +kernel) (Nat.le_of_ble_eq_true rfl) ?_
  intro p e s m args below meth c ls hx hb hml hr hown hlocks hts hin hP hE hl
  have hC : CX p s m args c meth G cX15_isIn 3 (some .boolean) RX15 := ⟨hx, hb, hml, hr, hown, hlocks, hts, hE⟩
  have hS : va_S (Ab G) s.heap s.heap [] := va_S.rf
  have hcs : 0 ≤ 0 ∧ 0 ≤ 0 := ⟨Nat.zero_le _, Nat.zero_le _⟩
  have hl : lv_has ls 3 [(0, .int a0), (1, .int a1), (2, .int a2)] := hl
  unfold f_X15_isIn at h
  refine lv_iload_n hx hb dX15_isIn_0 rfl (lv_at hl 0 rfl) ?_
  refine lv_iload_n hx hb dX15_isIn_1 rfl (lv_at hl 1 rfl) ?_
  refine lv_icmp_lt (tgt := 14) hx hb dX15_isIn_2 (by decide) (fun cc => ?_) (fun cc => ?_)
  · have h := br_el h cc
    refine lv_iconst (v := 0) hx hb dX15_isIn_14 (by decide) ?_
    exact e_i hx hb hr rfl hlocks hP hS (Nat.le_of_ble_eq_true rfl) (Nat.le_of_ble_eq_true rfl) (Prod.mk.inj (so_el h)) dX15_isIn_15
  · have h := br_er h cc
    refine lv_iload_n hx hb dX15_isIn_5 rfl (lv_at hl 0 rfl) ?_
    refine lv_iload_n hx hb dX15_isIn_6 rfl (lv_at hl 2 rfl) ?_
    refine lv_icmp_gt (tgt := 14) hx hb dX15_isIn_7 (by decide) (fun cc => ?_) (fun cc => ?_)
    · have h := br_el h cc
      refine lv_iconst (v := 0) hx hb dX15_isIn_14 (by decide) ?_
      exact e_i hx hb hr rfl hlocks hP hS (Nat.le_of_ble_eq_true rfl) (Nat.le_of_ble_eq_true rfl) (Prod.mk.inj (so_el h)) dX15_isIn_15
    · have h := br_er h cc
      refine lv_iconst (v := 1) hx hb dX15_isIn_10 (by decide) ?_
      refine lv_goto (tgt := 15) hx hb dX15_isIn_11 (by decide) ?_
      exact e_i hx hb hr rfl hlocks hP hS (Nat.le_of_ble_eq_true rfl) (Nat.le_of_ble_eq_true rfl) (Prod.mk.inj (so_el h)) dX15_isIn_15

def f_X15_both (a0 : Int32) (a1 : Int32) (a2 : Int32) (w : Mm) : Option (Int32 × Mm) := br (a0 = 19) (some (a1 &&& a2, w)) (br (a0 = 21) (some (jmmin a1 a2, w)) (br (a0 = 22) (some (jmmax a1 a2, w)) (br (a0 = 34) (some (a1 + a2, w)) (br (a0 = 35) (some (a1 - a2, w)) (br (a0 = 36) (some (a1 * a2, w)) (br (a0 = 37) (br (a2 = 0) (some (0, w)) (gd (decide (¬ a2 = 0)) (some (a1 / a2, w)))) (br (a0 = 38) (br (a2 ≤ a1) (some (0, w)) (some (1, w))) (br (a0 = 39) (br (a1 ≤ a2) (some (0, w)) (some (1, w))) (br (a0 = 42) (br (a1 = a2) (some (1, w)) (some (0, w))) (br (a0 = 43) (br (a2 < a1) (some (0, w)) (some (1, w))) (br (a0 = 44) (br (a1 < a2) (some (0, w)) (some (1, w))) (some (a1 ||| a2, w)))))))))))))

theorem miX15_both : MS yX15_both cX15_both 3 (some .int) 3 := ⟨w8_187, w1_14, w8_188, by decide +kernel, by decide +kernel, by decide +kernel⟩
set_option maxHeartbeats 4000000 in
set_option maxRecDepth 100000 in
theorem c_X15_both (l : Launch) (G : GG) (hF : gF G = true) (a0 : Int32) (a1 : Int32) (a2 : Int32) (w : Mm) (r : Int32) (w' : Mm) (h : f_X15_both a0 a1 a2 w = some (r, w')) : Ki l G yX15_both cX15_both 3 (some .int) { frames := 1, cells := 0, slots := 0, locals := 21 } [.int a0, .int a1, .int a2] w r w' := by
  refine k_of (by decide +kernel) (Nat.le_of_ble_eq_true rfl) ?_
  intro p e s m args below meth c ls hx hb hml hr hown hlocks hts hin hP hE hl
  have hC : CX p s m args c meth G cX15_both 3 (some .int) RX15 := ⟨hx, hb, hml, hr, hown, hlocks, hts, hE⟩
  have hS : va_S (Ab G) s.heap s.heap [] := va_S.rf
  have hcs : 0 ≤ 0 ∧ 0 ≤ 0 := ⟨Nat.zero_le _, Nat.zero_le _⟩
  have hl : lv_has ls 3 [(0, .int a0), (1, .int a1), (2, .int a2)] := hl
  unfold f_X15_both at h
  refine lv_iload_n hx hb dX15_both_0 rfl (lv_at hl 0 rfl) ?_
  by_cases c0 : a0 = 19
  · have h := br_el h c0
    refine k_tab (tgt := 211) hx hb dX15_both_1 (by decide) (by have cq := c0; (rw [cq]; decide)) ?_
    refine lv_iload_n hx hb dX15_both_211 rfl (lv_at hl 1 rfl) ?_
    refine lv_iload_n hx hb dX15_both_212 rfl (lv_at hl 2 rfl) ?_
    refine lv_iand hx hb dX15_both_213 ?_
    exact e_i hx hb hr rfl hlocks hP hS (Nat.le_of_ble_eq_true rfl) (Nat.le_of_ble_eq_true rfl) (Prod.mk.inj (so_el h)) dX15_both_214
  · have h := br_er h c0
    by_cases c1 : a0 = 21
    · have h := br_el h c1
      refine k_tab (tgt := 144) hx hb dX15_both_1 (by decide) (by have cq := c1; (rw [cq]; decide)) ?_
      refine lv_iload_n hx hb dX15_both_144 rfl (lv_at hl 1 rfl) ?_
      refine lv_iload_n hx hb dX15_both_145 rfl (lv_at hl 2 rfl) ?_
      refine k_mmin hx hb hml hown hts (x := a1) (y := a2) w7_122 (Nat.le_of_ble_eq_true rfl) (Nat.le_of_ble_eq_true rfl) hl.1 (Nat.le_of_ble_eq_true rfl) hcs.1 hcs.2 dX15_both_146 ?_
      exact e_i hx hb hr rfl hlocks hP hS (Nat.le_of_ble_eq_true rfl) (Nat.le_of_ble_eq_true rfl) (Prod.mk.inj (so_el h)) dX15_both_149
    · have h := br_er h c1
      by_cases c2 : a0 = 22
      · have h := br_el h c2
        refine k_tab (tgt := 150) hx hb dX15_both_1 (by decide) (by have cq := c2; (rw [cq]; decide)) ?_
        refine lv_iload_n hx hb dX15_both_150 rfl (lv_at hl 1 rfl) ?_
        refine lv_iload_n hx hb dX15_both_151 rfl (lv_at hl 2 rfl) ?_
        refine k_mmax hx hb hml hown hts (x := a1) (y := a2) w8_189 (Nat.le_of_ble_eq_true rfl) (Nat.le_of_ble_eq_true rfl) hl.1 (Nat.le_of_ble_eq_true rfl) hcs.1 hcs.2 dX15_both_152 ?_
        exact e_i hx hb hr rfl hlocks hP hS (Nat.le_of_ble_eq_true rfl) (Nat.le_of_ble_eq_true rfl) (Prod.mk.inj (so_el h)) dX15_both_155
      · have h := br_er h c2
        by_cases c3 : a0 = 34
        · have h := br_el h c3
          refine k_tab (tgt := 120) hx hb dX15_both_1 (by decide) (by have cq := c3; (rw [cq]; decide)) ?_
          refine lv_iload_n hx hb dX15_both_120 rfl (lv_at hl 1 rfl) ?_
          refine lv_iload_n hx hb dX15_both_121 rfl (lv_at hl 2 rfl) ?_
          refine lv_iadd hx hb dX15_both_122 ?_
          exact e_i hx hb hr rfl hlocks hP hS (Nat.le_of_ble_eq_true rfl) (Nat.le_of_ble_eq_true rfl) (Prod.mk.inj (so_el h)) dX15_both_123
        · have h := br_er h c3
          by_cases c4 : a0 = 35
          · have h := br_el h c4
            refine k_tab (tgt := 124) hx hb dX15_both_1 (by decide) (by have cq := c4; (rw [cq]; decide)) ?_
            refine lv_iload_n hx hb dX15_both_124 rfl (lv_at hl 1 rfl) ?_
            refine lv_iload_n hx hb dX15_both_125 rfl (lv_at hl 2 rfl) ?_
            refine lv_isub hx hb dX15_both_126 ?_
            exact e_i hx hb hr rfl hlocks hP hS (Nat.le_of_ble_eq_true rfl) (Nat.le_of_ble_eq_true rfl) (Prod.mk.inj (so_el h)) dX15_both_127
          · have h := br_er h c4
            by_cases c5 : a0 = 36
            · have h := br_el h c5
              refine k_tab (tgt := 128) hx hb dX15_both_1 (by decide) (by have cq := c5; (rw [cq]; decide)) ?_
              refine lv_iload_n hx hb dX15_both_128 rfl (lv_at hl 1 rfl) ?_
              refine lv_iload_n hx hb dX15_both_129 rfl (lv_at hl 2 rfl) ?_
              refine lv_imul hx hb dX15_both_130 ?_
              exact e_i hx hb hr rfl hlocks hP hS (Nat.le_of_ble_eq_true rfl) (Nat.le_of_ble_eq_true rfl) (Prod.mk.inj (so_el h)) dX15_both_131
            · have h := br_er h c5
              by_cases c6 : a0 = 37
              · have h := br_el h c6
                refine k_tab (tgt := 132) hx hb dX15_both_1 (by decide) (by have cq := c6; (rw [cq]; decide)) ?_
                refine lv_iload_n hx hb dX15_both_132 rfl (lv_at hl 2 rfl) ?_
                refine lv_if_ne (tgt := 140) hx hb dX15_both_133 (by decide) (fun cc => ?_) (fun cc => ?_)
                · have h := br_er h cc
                  refine lv_iload_n hx hb dX15_both_140 rfl (lv_at hl 1 rfl) ?_
                  refine lv_iload_n hx hb dX15_both_141 rfl (lv_at hl 2 rfl) ?_
                  obtain ⟨g, h⟩ := gd_el h
                  refine lv_idiv hx hb dX15_both_142 (of_decide_eq_true g) ?_
                  exact e_i hx hb hr rfl hlocks hP hS (Nat.le_of_ble_eq_true rfl) (Nat.le_of_ble_eq_true rfl) (Prod.mk.inj (so_el h)) dX15_both_143
                · have h := br_el h cc
                  refine lv_iconst (v := 0) hx hb dX15_both_136 (by decide) ?_
                  refine lv_goto (tgt := 143) hx hb dX15_both_137 (by decide) ?_
                  exact e_i hx hb hr rfl hlocks hP hS (Nat.le_of_ble_eq_true rfl) (Nat.le_of_ble_eq_true rfl) (Prod.mk.inj (so_el h)) dX15_both_143
              · have h := br_er h c6
                by_cases c7 : a0 = 38
                · have h := br_el h c7
                  refine k_tab (tgt := 156) hx hb dX15_both_1 (by decide) (by have cq := c7; (rw [cq]; decide)) ?_
                  refine lv_iload_n hx hb dX15_both_156 rfl (lv_at hl 1 rfl) ?_
                  refine lv_iload_n hx hb dX15_both_157 rfl (lv_at hl 2 rfl) ?_
                  refine lv_icmp_ge (tgt := 165) hx hb dX15_both_158 (by decide) (fun cc => ?_) (fun cc => ?_)
                  · have h := br_el h cc
                    refine lv_iconst (v := 0) hx hb dX15_both_165 (by decide) ?_
                    exact e_i hx hb hr rfl hlocks hP hS (Nat.le_of_ble_eq_true rfl) (Nat.le_of_ble_eq_true rfl) (Prod.mk.inj (so_el h)) dX15_both_166
                  · have h := br_er h cc
                    refine lv_iconst (v := 1) hx hb dX15_both_161 (by decide) ?_
                    refine lv_goto (tgt := 166) hx hb dX15_both_162 (by decide) ?_
                    exact e_i hx hb hr rfl hlocks hP hS (Nat.le_of_ble_eq_true rfl) (Nat.le_of_ble_eq_true rfl) (Prod.mk.inj (so_el h)) dX15_both_166
                · have h := br_er h c7
                  by_cases c8 : a0 = 39
                  · have h := br_el h c8
                    refine k_tab (tgt := 167) hx hb dX15_both_1 (by decide) (by have cq := c8; (rw [cq]; decide)) ?_
                    refine lv_iload_n hx hb dX15_both_167 rfl (lv_at hl 1 rfl) ?_
                    refine lv_iload_n hx hb dX15_both_168 rfl (lv_at hl 2 rfl) ?_
                    refine lv_icmp_le (tgt := 176) hx hb dX15_both_169 (by decide) (fun cc => ?_) (fun cc => ?_)
                    · have h := br_el h cc
                      refine lv_iconst (v := 0) hx hb dX15_both_176 (by decide) ?_
                      exact e_i hx hb hr rfl hlocks hP hS (Nat.le_of_ble_eq_true rfl) (Nat.le_of_ble_eq_true rfl) (Prod.mk.inj (so_el h)) dX15_both_177
                    · have h := br_er h cc
                      refine lv_iconst (v := 1) hx hb dX15_both_172 (by decide) ?_
                      refine lv_goto (tgt := 177) hx hb dX15_both_173 (by decide) ?_
                      exact e_i hx hb hr rfl hlocks hP hS (Nat.le_of_ble_eq_true rfl) (Nat.le_of_ble_eq_true rfl) (Prod.mk.inj (so_el h)) dX15_both_177
                  · have h := br_er h c8
                    by_cases c9 : a0 = 42
                    · have h := br_el h c9
                      refine k_tab (tgt := 178) hx hb dX15_both_1 (by decide) (by have cq := c9; (rw [cq]; decide)) ?_
                      refine lv_iload_n hx hb dX15_both_178 rfl (lv_at hl 1 rfl) ?_
                      refine lv_iload_n hx hb dX15_both_179 rfl (lv_at hl 2 rfl) ?_
                      refine lv_icmp_ne (tgt := 187) hx hb dX15_both_180 (by decide) (fun cc => ?_) (fun cc => ?_)
                      · have h := br_er h cc
                        refine lv_iconst (v := 0) hx hb dX15_both_187 (by decide) ?_
                        exact e_i hx hb hr rfl hlocks hP hS (Nat.le_of_ble_eq_true rfl) (Nat.le_of_ble_eq_true rfl) (Prod.mk.inj (so_el h)) dX15_both_188
                      · have h := br_el h cc
                        refine lv_iconst (v := 1) hx hb dX15_both_183 (by decide) ?_
                        refine lv_goto (tgt := 188) hx hb dX15_both_184 (by decide) ?_
                        exact e_i hx hb hr rfl hlocks hP hS (Nat.le_of_ble_eq_true rfl) (Nat.le_of_ble_eq_true rfl) (Prod.mk.inj (so_el h)) dX15_both_188
                    · have h := br_er h c9
                      by_cases c10 : a0 = 43
                      · have h := br_el h c10
                        refine k_tab (tgt := 189) hx hb dX15_both_1 (by decide) (by have cq := c10; (rw [cq]; decide)) ?_
                        refine lv_iload_n hx hb dX15_both_189 rfl (lv_at hl 1 rfl) ?_
                        refine lv_iload_n hx hb dX15_both_190 rfl (lv_at hl 2 rfl) ?_
                        refine lv_icmp_gt (tgt := 198) hx hb dX15_both_191 (by decide) (fun cc => ?_) (fun cc => ?_)
                        · have h := br_el h cc
                          refine lv_iconst (v := 0) hx hb dX15_both_198 (by decide) ?_
                          exact e_i hx hb hr rfl hlocks hP hS (Nat.le_of_ble_eq_true rfl) (Nat.le_of_ble_eq_true rfl) (Prod.mk.inj (so_el h)) dX15_both_199
                        · have h := br_er h cc
                          refine lv_iconst (v := 1) hx hb dX15_both_194 (by decide) ?_
                          refine lv_goto (tgt := 199) hx hb dX15_both_195 (by decide) ?_
                          exact e_i hx hb hr rfl hlocks hP hS (Nat.le_of_ble_eq_true rfl) (Nat.le_of_ble_eq_true rfl) (Prod.mk.inj (so_el h)) dX15_both_199
                      · have h := br_er h c10
                        by_cases c11 : a0 = 44
                        · have h := br_el h c11
                          refine k_tab (tgt := 200) hx hb dX15_both_1 (by decide) (by have cq := c11; (rw [cq]; decide)) ?_
                          refine lv_iload_n hx hb dX15_both_200 rfl (lv_at hl 1 rfl) ?_
                          refine lv_iload_n hx hb dX15_both_201 rfl (lv_at hl 2 rfl) ?_
                          refine lv_icmp_lt (tgt := 209) hx hb dX15_both_202 (by decide) (fun cc => ?_) (fun cc => ?_)
                          · have h := br_el h cc
                            refine lv_iconst (v := 0) hx hb dX15_both_209 (by decide) ?_
                            exact e_i hx hb hr rfl hlocks hP hS (Nat.le_of_ble_eq_true rfl) (Nat.le_of_ble_eq_true rfl) (Prod.mk.inj (so_el h)) dX15_both_210
                          · have h := br_er h cc
                            refine lv_iconst (v := 1) hx hb dX15_both_205 (by decide) ?_
                            refine lv_goto (tgt := 210) hx hb dX15_both_206 (by decide) ?_
                            exact e_i hx hb hr rfl hlocks hP hS (Nat.le_of_ble_eq_true rfl) (Nat.le_of_ble_eq_true rfl) (Prod.mk.inj (so_el h)) dX15_both_210
                        · have h := br_er h c11
                          refine k_tabD (vs := [19, 21, 22, 34, 35, 36, 37, 38, 39, 42, 43, 44]) (tgt := 215) hx hb dX15_both_1 (by decide) (by decide) (by decide) (fun q0 => ( fun q => Or.elim q (fun q => c0 (q)) (fun q => Or.elim q (fun q => c1 (q)) (fun q => Or.elim q (fun q => c2 (q)) (fun q => Or.elim q (fun q => c3 (q)) (fun q => Or.elim q (fun q => c4 (q)) (fun q => Or.elim q (fun q => c5 (q)) (fun q => Or.elim q (fun q => c6 (q)) (fun q => Or.elim q (fun q => c7 (q)) (fun q => Or.elim q (fun q => c8 (q)) (fun q => Or.elim q (fun q => c9 (q)) (fun q => Or.elim q (fun q => c10 (q)) (fun q => c11 (q))))))))))))) (by simpa only [List.mem_cons, List.not_mem_nil, or_false] using q0)) ?_
                          refine lv_iload_n hx hb dX15_both_215 rfl (lv_at hl 1 rfl) ?_
                          refine lv_iload_n hx hb dX15_both_216 rfl (lv_at hl 2 rfl) ?_
                          refine lv_ior hx hb dX15_both_217 ?_
                          exact e_i hx hb hr rfl hlocks hP hS (Nat.le_of_ble_eq_true rfl) (Nat.le_of_ble_eq_true rfl) (Prod.mk.inj (so_el h)) dX15_both_218

def f_X15_isLetter (a0 : Int32) (w : Mm) : Option (Int32 × Mm) := br (a0 < 97) (some (0, w)) (br (122 < a0) (some (0, w)) (some (1, w)))

theorem miX15_isLetter : MS yX15_isLetter cX15_isLetter 1 (some .boolean) 1 := ⟨w6_231, w1_14, w6_232, by decide +kernel, by decide +kernel, by decide +kernel⟩
set_option maxHeartbeats 4000000 in
set_option maxRecDepth 100000 in
theorem c_X15_isLetter (l : Launch) (G : GG) (hF : gF G = true) (a0 : Int32) (w : Mm) (r : Int32) (w' : Mm) (h : f_X15_isLetter a0 w = some (r, w')) : Ki l G yX15_isLetter cX15_isLetter 1 (some .boolean) { frames := 0, cells := 0, slots := 0, locals := 0 } [.int a0] w r w' := by
  refine k_of (by decide +kernel) (Nat.le_of_ble_eq_true rfl) ?_
  intro p e s m args below meth c ls hx hb hml hr hown hlocks hts hin hP hE hl
  have hC : CX p s m args c meth G cX15_isLetter 1 (some .boolean) RX15 := ⟨hx, hb, hml, hr, hown, hlocks, hts, hE⟩
  have hS : va_S (Ab G) s.heap s.heap [] := va_S.rf
  have hcs : 0 ≤ 0 ∧ 0 ≤ 0 := ⟨Nat.zero_le _, Nat.zero_le _⟩
  have hl : lv_has ls 1 [(0, .int a0)] := hl
  unfold f_X15_isLetter at h
  refine lv_iload_n hx hb dX15_isLetter_0 rfl (lv_at hl 0 rfl) ?_
  refine lv_bipush (v := 97) hx hb dX15_isLetter_1 (by decide) ?_
  refine lv_icmp_lt (tgt := 16) hx hb dX15_isLetter_3 (by decide) (fun cc => ?_) (fun cc => ?_)
  · have h := br_el h cc
    refine lv_iconst (v := 0) hx hb dX15_isLetter_16 (by decide) ?_
    exact e_i hx hb hr rfl hlocks hP hS (Nat.le_of_ble_eq_true rfl) (Nat.le_of_ble_eq_true rfl) (Prod.mk.inj (so_el h)) dX15_isLetter_17
  · have h := br_er h cc
    refine lv_iload_n hx hb dX15_isLetter_6 rfl (lv_at hl 0 rfl) ?_
    refine lv_bipush (v := 122) hx hb dX15_isLetter_7 (by decide) ?_
    refine lv_icmp_gt (tgt := 16) hx hb dX15_isLetter_9 (by decide) (fun cc => ?_) (fun cc => ?_)
    · have h := br_el h cc
      refine lv_iconst (v := 0) hx hb dX15_isLetter_16 (by decide) ?_
      exact e_i hx hb hr rfl hlocks hP hS (Nat.le_of_ble_eq_true rfl) (Nat.le_of_ble_eq_true rfl) (Prod.mk.inj (so_el h)) dX15_isLetter_17
    · have h := br_er h cc
      refine lv_iconst (v := 1) hx hb dX15_isLetter_12 (by decide) ?_
      refine lv_goto (tgt := 17) hx hb dX15_isLetter_13 (by decide) ?_
      exact e_i hx hb hr rfl hlocks hP hS (Nat.le_of_ble_eq_true rfl) (Nat.le_of_ble_eq_true rfl) (Prod.mk.inj (so_el h)) dX15_isLetter_17

def f_X15_isDigit (a0 : Int32) (w : Mm) : Option (Int32 × Mm) := br (a0 < 48) (some (0, w)) (br (57 < a0) (some (0, w)) (some (1, w)))

theorem miX15_isDigit : MS yX15_isDigit cX15_isDigit 1 (some .boolean) 1 := ⟨w6_234, w1_14, w6_235, by decide +kernel, by decide +kernel, by decide +kernel⟩
set_option maxHeartbeats 4000000 in
set_option maxRecDepth 100000 in
theorem c_X15_isDigit (l : Launch) (G : GG) (hF : gF G = true) (a0 : Int32) (w : Mm) (r : Int32) (w' : Mm) (h : f_X15_isDigit a0 w = some (r, w')) : Ki l G yX15_isDigit cX15_isDigit 1 (some .boolean) { frames := 0, cells := 0, slots := 0, locals := 0 } [.int a0] w r w' := by
  refine k_of (by decide +kernel) (Nat.le_of_ble_eq_true rfl) ?_
  intro p e s m args below meth c ls hx hb hml hr hown hlocks hts hin hP hE hl
  have hC : CX p s m args c meth G cX15_isDigit 1 (some .boolean) RX15 := ⟨hx, hb, hml, hr, hown, hlocks, hts, hE⟩
  have hS : va_S (Ab G) s.heap s.heap [] := va_S.rf
  have hcs : 0 ≤ 0 ∧ 0 ≤ 0 := ⟨Nat.zero_le _, Nat.zero_le _⟩
  have hl : lv_has ls 1 [(0, .int a0)] := hl
  unfold f_X15_isDigit at h
  refine lv_iload_n hx hb dX15_isDigit_0 rfl (lv_at hl 0 rfl) ?_
  refine lv_bipush (v := 48) hx hb dX15_isDigit_1 (by decide) ?_
  refine lv_icmp_lt (tgt := 16) hx hb dX15_isDigit_3 (by decide) (fun cc => ?_) (fun cc => ?_)
  · have h := br_el h cc
    refine lv_iconst (v := 0) hx hb dX15_isDigit_16 (by decide) ?_
    exact e_i hx hb hr rfl hlocks hP hS (Nat.le_of_ble_eq_true rfl) (Nat.le_of_ble_eq_true rfl) (Prod.mk.inj (so_el h)) dX15_isDigit_17
  · have h := br_er h cc
    refine lv_iload_n hx hb dX15_isDigit_6 rfl (lv_at hl 0 rfl) ?_
    refine lv_bipush (v := 57) hx hb dX15_isDigit_7 (by decide) ?_
    refine lv_icmp_gt (tgt := 16) hx hb dX15_isDigit_9 (by decide) (fun cc => ?_) (fun cc => ?_)
    · have h := br_el h cc
      refine lv_iconst (v := 0) hx hb dX15_isDigit_16 (by decide) ?_
      exact e_i hx hb hr rfl hlocks hP hS (Nat.le_of_ble_eq_true rfl) (Nat.le_of_ble_eq_true rfl) (Prod.mk.inj (so_el h)) dX15_isDigit_17
    · have h := br_er h cc
      refine lv_iconst (v := 1) hx hb dX15_isDigit_12 (by decide) ?_
      refine lv_goto (tgt := 17) hx hb dX15_isDigit_13 (by decide) ?_
      exact e_i hx hb hr rfl hlocks hP hS (Nat.le_of_ble_eq_true rfl) (Nat.le_of_ble_eq_true rfl) (Prod.mk.inj (so_el h)) dX15_isDigit_17

def f_X15_byteOf (a1 : Int32) (w : Mm) : Option (Int32 × Mm) := br ((gI w 32 0 2) ≤ a1) (some ((-1), w)) (gd (vB a1 2000) (some (gI w 33 0 a1.toNatClampNeg, w)))

theorem miX15_byteOf : MI RX15 yX15_byteOf cX15_byteOf 2 (some .int) 1 := ⟨w6_224, (tb_sel 37 rfl rfl), w1_14, w6_225, rfl, by decide +kernel, by decide +kernel, by decide +kernel⟩
set_option maxHeartbeats 4000000 in
set_option maxRecDepth 100000 in
theorem c_X15_byteOf (l : Launch) (G : GG) (hF : gF G = true) (a1 : Int32) (w : Mm) (r : Int32) (w' : Mm) (h : f_X15_byteOf a1 w = some (r, w')) : Ki l G yX15_byteOf cX15_byteOf 2 (some .int) { frames := 0, cells := 0, slots := 0, locals := 0 } [.ref (adr (gB G) 32 0), .int a1] w r w' := by
  refine k_of (by decide +kernel) (Nat.le_of_ble_eq_true rfl) ?_
  intro p e s m args below meth c ls hx hb hml hr hown hlocks hts hin hP hE hl
  have hC : CX p s m args c meth G cX15_byteOf 2 (some .int) RX15 := ⟨hx, hb, hml, hr, hown, hlocks, hts, hE⟩
  have hS : va_S (Ab G) s.heap s.heap [] := va_S.rf
  have hcs : 0 ≤ 0 ∧ 0 ≤ 0 := ⟨Nat.zero_le _, Nat.zero_le _⟩
  have hl : lv_has ls 2 [(0, .ref (adr (gB G) 32 0)), (1, .int a1)] := hl
  unfold f_X15_byteOf at h
  refine lv_iload_n hx hb dX15_byteOf_0 rfl (lv_at hl 1 rfl) ?_
  refine lv_aload_n hx hb dX15_byteOf_1 rfl (lv_at hl 0 rfl) ?_
  refine k_get (ci := 13) (v := .int (gI w 32 0 2)) hx hb hts hE inX15 hown hP (hp_sh hP hF 0 32 (by decide)) (by decide) rfl rfl 2 (by decide) w6_116 rfl rfl dX15_byteOf_2 ?_
  refine lv_icmp_ge (tgt := 17) hx hb dX15_byteOf_5 (by decide) (fun cc => ?_) (fun cc => ?_)
  · have h := br_el h cc
    refine lv_iconst (v := (-1)) hx hb dX15_byteOf_17 (by decide) ?_
    exact e_i hx hb hr rfl hlocks hP hS (Nat.le_of_ble_eq_true rfl) (Nat.le_of_ble_eq_true rfl) (Prod.mk.inj (so_el h)) dX15_byteOf_18
  · have h := br_er h cc
    refine lv_aload_n hx hb dX15_byteOf_8 rfl (lv_at hl 0 rfl) ?_
    refine k_get (ci := 13) (v := .ref (adr (gB G) 33 0)) hx hb hts hE inX15 hown hP (hp_sh hP hF 0 32 (by decide)) (by decide) rfl rfl 1 (by decide) w6_115 rfl rfl dX15_byteOf_9 ?_
    refine lv_iload_n hx hb dX15_byteOf_12 rfl (lv_at hl 1 rfl) ?_
    obtain ⟨g1, h⟩ := gd_el h
    refine k_iald hx hb hE hP (hp_sh hP hF 0 33 (by decide)) (by decide) rfl g1 dX15_byteOf_13 ?_
    refine lv_goto (tgt := 18) hx hb dX15_byteOf_14 (by decide) ?_
    exact e_i hx hb hr rfl hlocks hP hS (Nat.le_of_ble_eq_true rfl) (Nat.le_of_ble_eq_true rfl) (Prod.mk.inj (so_el h)) dX15_byteOf_18

def f_X15_is (a1 : Int32) (w : Mm) : Option (Int32 × Mm) := gd (vB (gI w 32 0 9) 401) (br ((gI w 34 0 (gI w 32 0 9).toNatClampNeg) = a1) (some (1, w)) (some (0, w)))

theorem miX15_is : MI RX15 yX15_is cX15_is 2 (some .boolean) 1 := ⟨w7_112, (tb_sel 41 rfl rfl), w1_14, w7_113, rfl, by decide +kernel, by decide +kernel, by decide +kernel⟩
set_option maxHeartbeats 4000000 in
set_option maxRecDepth 100000 in
theorem c_X15_is (l : Launch) (G : GG) (hF : gF G = true) (a1 : Int32) (w : Mm) (r : Int32) (w' : Mm) (h : f_X15_is a1 w = some (r, w')) : Ki l G yX15_is cX15_is 2 (some .boolean) { frames := 0, cells := 0, slots := 0, locals := 0 } [.ref (adr (gB G) 32 0), .int a1] w r w' := by
  refine k_of (by decide +kernel) (Nat.le_of_ble_eq_true rfl) ?_
  intro p e s m args below meth c ls hx hb hml hr hown hlocks hts hin hP hE hl
  have hC : CX p s m args c meth G cX15_is 2 (some .boolean) RX15 := ⟨hx, hb, hml, hr, hown, hlocks, hts, hE⟩
  have hS : va_S (Ab G) s.heap s.heap [] := va_S.rf
  have hcs : 0 ≤ 0 ∧ 0 ≤ 0 := ⟨Nat.zero_le _, Nat.zero_le _⟩
  have hl : lv_has ls 2 [(0, .ref (adr (gB G) 32 0)), (1, .int a1)] := hl
  unfold f_X15_is at h
  refine lv_aload_n hx hb dX15_is_0 rfl (lv_at hl 0 rfl) ?_
  refine k_get (ci := 13) (v := .ref (adr (gB G) 34 0)) hx hb hts hE inX15 hown hP (hp_sh hP hF 0 32 (by decide)) (by decide) rfl rfl 4 (by decide) w6_118 rfl rfl dX15_is_1 ?_
  refine lv_aload_n hx hb dX15_is_4 rfl (lv_at hl 0 rfl) ?_
  refine k_get (ci := 13) (v := .int (gI w 32 0 9)) hx hb hts hE inX15 hown hP (hp_sh hP hF 0 32 (by decide)) (by decide) rfl rfl 9 (by decide) w6_123 rfl rfl dX15_is_5 ?_
  obtain ⟨g1, h⟩ := gd_el h
  refine k_iald hx hb hE hP (hp_sh hP hF 0 34 (by decide)) (by decide) rfl g1 dX15_is_8 ?_
  refine lv_iload_n hx hb dX15_is_9 rfl (lv_at hl 1 rfl) ?_
  refine lv_icmp_ne (tgt := 17) hx hb dX15_is_10 (by decide) (fun cc => ?_) (fun cc => ?_)
  · have h := br_er h cc
    refine lv_iconst (v := 0) hx hb dX15_is_17 (by decide) ?_
    exact e_i hx hb hr rfl hlocks hP hS (Nat.le_of_ble_eq_true rfl) (Nat.le_of_ble_eq_true rfl) (Prod.mk.inj (so_el h)) dX15_is_18
  · have h := br_el h cc
    refine lv_iconst (v := 1) hx hb dX15_is_13 (by decide) ?_
    refine lv_goto (tgt := 18) hx hb dX15_is_14 (by decide) ?_
    exact e_i hx hb hr rfl hlocks hP hS (Nat.le_of_ble_eq_true rfl) (Nat.le_of_ble_eq_true rfl) (Prod.mk.inj (so_el h)) dX15_is_18

def f_X15_isSign (a1 : Int32) (w : Mm) : Option (Int32 × Mm) := gd (vB (gI w 32 0 9) 401) (br ((gI w 34 0 (gI w 32 0 9).toNatClampNeg) = (50 + a1)) (some (1, w)) (some (0, w)))

theorem miX15_isSign : MI RX15 yX15_isSign cX15_isSign 2 (some .boolean) 1 := ⟨w7_157, (tb_sel 52 rfl rfl), w1_14, w7_158, rfl, by decide +kernel, by decide +kernel, by decide +kernel⟩
set_option maxHeartbeats 4000000 in
set_option maxRecDepth 100000 in
theorem c_X15_isSign (l : Launch) (G : GG) (hF : gF G = true) (a1 : Int32) (w : Mm) (r : Int32) (w' : Mm) (h : f_X15_isSign a1 w = some (r, w')) : Ki l G yX15_isSign cX15_isSign 2 (some .boolean) { frames := 0, cells := 0, slots := 0, locals := 0 } [.ref (adr (gB G) 32 0), .int a1] w r w' := by
  refine k_of (by decide +kernel) (Nat.le_of_ble_eq_true rfl) ?_
  intro p e s m args below meth c ls hx hb hml hr hown hlocks hts hin hP hE hl
  have hC : CX p s m args c meth G cX15_isSign 2 (some .boolean) RX15 := ⟨hx, hb, hml, hr, hown, hlocks, hts, hE⟩
  have hS : va_S (Ab G) s.heap s.heap [] := va_S.rf
  have hcs : 0 ≤ 0 ∧ 0 ≤ 0 := ⟨Nat.zero_le _, Nat.zero_le _⟩
  have hl : lv_has ls 2 [(0, .ref (adr (gB G) 32 0)), (1, .int a1)] := hl
  unfold f_X15_isSign at h
  refine lv_aload_n hx hb dX15_isSign_0 rfl (lv_at hl 0 rfl) ?_
  refine k_get (ci := 13) (v := .ref (adr (gB G) 34 0)) hx hb hts hE inX15 hown hP (hp_sh hP hF 0 32 (by decide)) (by decide) rfl rfl 4 (by decide) w6_118 rfl rfl dX15_isSign_1 ?_
  refine lv_aload_n hx hb dX15_isSign_4 rfl (lv_at hl 0 rfl) ?_
  refine k_get (ci := 13) (v := .int (gI w 32 0 9)) hx hb hts hE inX15 hown hP (hp_sh hP hF 0 32 (by decide)) (by decide) rfl rfl 9 (by decide) w6_123 rfl rfl dX15_isSign_5 ?_
  obtain ⟨g1, h⟩ := gd_el h
  refine k_iald hx hb hE hP (hp_sh hP hF 0 34 (by decide)) (by decide) rfl g1 dX15_isSign_8 ?_
  refine lv_bipush (v := 50) hx hb dX15_isSign_9 (by decide) ?_
  refine lv_iload_n hx hb dX15_isSign_11 rfl (lv_at hl 1 rfl) ?_
  refine lv_iadd hx hb dX15_isSign_12 ?_
  refine lv_icmp_ne (tgt := 20) hx hb dX15_isSign_13 (by decide) (fun cc => ?_) (fun cc => ?_)
  · have h := br_er h cc
    refine lv_iconst (v := 0) hx hb dX15_isSign_20 (by decide) ?_
    exact e_i hx hb hr rfl hlocks hP hS (Nat.le_of_ble_eq_true rfl) (Nat.le_of_ble_eq_true rfl) (Prod.mk.inj (so_el h)) dX15_isSign_21
  · have h := br_el h cc
    refine lv_iconst (v := 1) hx hb dX15_isSign_16 (by decide) ?_
    refine lv_goto (tgt := 21) hx hb dX15_isSign_17 (by decide) ?_
    exact e_i hx hb hr rfl hlocks hP hS (Nat.le_of_ble_eq_true rfl) (Nat.le_of_ble_eq_true rfl) (Prod.mk.inj (so_el h)) dX15_isSign_21

def f_X15_eat (a1 : Int32) (w : Mm) : Option (Int32 × Mm) := bd1 (f_X15_is a1 w) (fun r1 w2 => br (r1 = 0) (some (0, w2)) (sq (pI w2 32 0 9 ((gI w2 32 0 9) + 1)) (fun w3 => some (1, w3))))

theorem miX15_eat : MI RX15 yX15_eat cX15_eat 2 (some .boolean) 1 := ⟨w7_129, (tb_sel 45 rfl rfl), w1_14, w7_130, rfl, by decide +kernel, by decide +kernel, by decide +kernel⟩
set_option maxHeartbeats 4000000 in
set_option maxRecDepth 100000 in
theorem c_X15_eat (l : Launch) (G : GG) (hF : gF G = true) (a1 : Int32) (w : Mm) (r : Int32) (w' : Mm) (h : f_X15_eat a1 w = some (r, w')) : Ki l G yX15_eat cX15_eat 2 (some .boolean) { frames := 1, cells := 0, slots := 0, locals := 21 } [.ref (adr (gB G) 32 0), .int a1] w r w' := by
  refine k_of (by decide +kernel) (Nat.le_of_ble_eq_true rfl) ?_
  intro p e s m args below meth c ls hx hb hml hr hown hlocks hts hin hP hE hl
  have hC : CX p s m args c meth G cX15_eat 2 (some .boolean) RX15 := ⟨hx, hb, hml, hr, hown, hlocks, hts, hE⟩
  have hS : va_S (Ab G) s.heap s.heap [] := va_S.rf
  have hcs : 0 ≤ 0 ∧ 0 ≤ 0 := ⟨Nat.zero_le _, Nat.zero_le _⟩
  have hl : lv_has ls 2 [(0, .ref (adr (gB G) 32 0)), (1, .int a1)] := hl
  unfold f_X15_eat at h
  refine lv_aload_n hx hb dX15_eat_0 rfl (lv_at hl 0 rfl) ?_
  refine lv_iload_n hx hb dX15_eat_1 rfl (lv_at hl 1 rfl) ?_
  obtain ⟨r1, w2, hf, h⟩ := bd1_el h
  refine c_oni (c_runV (b := adr (gB G) 32 0) (As := [.int a1]) (rest := []) hx hb hml hown hts hE hP hS (c_X15_is l G hF a1 w r1 w2 hf) (c_rec hE hP (hp_sh hP hF 0 32 (by decide)) (by decide) rfl rfl) w7_110 miX15_is ⟨Nat.le_of_ble_eq_true rfl, Nat.le_of_ble_eq_true rfl⟩ rfl hl.1 rfl (Nat.le_of_ble_eq_true rfl) dX15_eat_2 hcs) hS (fun H locs hP hS => ?_)
  refine lv_if_ne (tgt := 10) hx hb dX15_eat_5 (by decide) (fun cc => ?_) (fun cc => ?_)
  · have h := br_er h cc
    refine lv_aload_n hx hb dX15_eat_10 rfl (lv_at hl 0 rfl) ?_
    refine lv_dup hx hb dX15_eat_11 rfl ?_
    refine k_get (ci := 13) (v := .int (gI w2 32 0 9)) hx hb hts hE inX15 hown hP (hp_sh hP hF 0 32 (by decide)) (by decide) rfl rfl 9 (by decide) w6_123 rfl rfl dX15_eat_12 ?_
    refine lv_iconst (v := 1) hx hb dX15_eat_15 (by decide) ?_
    refine lv_iadd hx hb dX15_eat_16 ?_
    refine k_put (ci := 13) (ty := .int) (v := .int ((gI w2 32 0 9) + 1)) (w1 := pI w2 32 0 9 ((gI w2 32 0 9) + 1)) hx hb hts hE inX15 tyX15 tyX15_ok nmX15 hown hP hS (hp_sh hP hF 0 32 (by decide)) (by decide) rfl rfl 9 (by decide) w6_123 rfl rfl rfl rfl rfl (Nat.le_of_ble_eq_true rfl) loc_pI (wce_pI.trans rfl) dX15_eat_17 (fun w3 H locs e hP hS => ?_)
    have h := sq_at h e
    refine lv_iconst (v := 1) hx hb dX15_eat_20 (by decide) ?_
    exact e_i hx hb hr rfl hlocks hP hS (Nat.le_of_ble_eq_true rfl) (Nat.le_of_ble_eq_true rfl) (Prod.mk.inj (so_el h)) dX15_eat_21
  · have h := br_el h cc
    refine lv_iconst (v := 0) hx hb dX15_eat_8 (by decide) ?_
    exact e_i hx hb hr rfl hlocks hP hS (Nat.le_of_ble_eq_true rfl) (Nat.le_of_ble_eq_true rfl) (Prod.mk.inj (so_el h)) dX15_eat_9

def f_X15_eatSign (a1 : Int32) (w : Mm) : Option (Int32 × Mm) := bd1 (f_X15_eat (50 + a1) w) (fun r1 w2 => gd (decide (r1 &&& 1 = r1)) (some (r1, w2)))

theorem miX15_eatSign : MI RX15 yX15_eatSign cX15_eatSign 2 (some .boolean) 1 := ⟨w7_169, (tb_sel 55 rfl rfl), w1_14, w7_170, rfl, by decide +kernel, by decide +kernel, by decide +kernel⟩
set_option maxHeartbeats 4000000 in
set_option maxRecDepth 100000 in
theorem c_X15_eatSign (l : Launch) (G : GG) (hF : gF G = true) (a1 : Int32) (w : Mm) (r : Int32) (w' : Mm) (h : f_X15_eatSign a1 w = some (r, w')) : Ki l G yX15_eatSign cX15_eatSign 2 (some .boolean) { frames := 2, cells := 0, slots := 0, locals := 42 } [.ref (adr (gB G) 32 0), .int a1] w r w' := by
  refine k_of (by decide +kernel) (Nat.le_of_ble_eq_true rfl) ?_
  intro p e s m args below meth c ls hx hb hml hr hown hlocks hts hin hP hE hl
  have hC : CX p s m args c meth G cX15_eatSign 2 (some .boolean) RX15 := ⟨hx, hb, hml, hr, hown, hlocks, hts, hE⟩
  have hS : va_S (Ab G) s.heap s.heap [] := va_S.rf
  have hcs : 0 ≤ 0 ∧ 0 ≤ 0 := ⟨Nat.zero_le _, Nat.zero_le _⟩
  have hl : lv_has ls 2 [(0, .ref (adr (gB G) 32 0)), (1, .int a1)] := hl
  unfold f_X15_eatSign at h
  refine lv_aload_n hx hb dX15_eatSign_0 rfl (lv_at hl 0 rfl) ?_
  refine lv_bipush (v := 50) hx hb dX15_eatSign_1 (by decide) ?_
  refine lv_iload_n hx hb dX15_eatSign_3 rfl (lv_at hl 1 rfl) ?_
  refine lv_iadd hx hb dX15_eatSign_4 ?_
  obtain ⟨r1, w2, hf, h⟩ := bd1_el h
  refine c_oni (c_runV (b := adr (gB G) 32 0) (As := [.int (50 + a1)]) (rest := []) hx hb hml hown hts hE hP hS (c_X15_eat l G hF (50 + a1) w r1 w2 hf) (c_rec hE hP (hp_sh hP hF 0 32 (by decide)) (by decide) rfl rfl) w7_127 miX15_eat ⟨Nat.le_of_ble_eq_true rfl, Nat.le_of_ble_eq_true rfl⟩ rfl hl.1 rfl (Nat.le_of_ble_eq_true rfl) dX15_eatSign_5 hcs) hS (fun H locs hP hS => ?_)
  obtain ⟨g, h⟩ := gd_el h
  exact e_i hx hb hr (nar_z (of_decide_eq_true g)) hlocks hP hS (Nat.le_of_ble_eq_true rfl) (Nat.le_of_ble_eq_true rfl) (Prod.mk.inj (so_el h)) dX15_eatSign_8

def f_X15_eatAs (a1 : Int32) (a2 : Int32) (w : Mm) : Option (Int32 × Mm) := gd (vB (gI w 32 0 9) 401) (sq (pI w 37 0 (gI w 32 0 9).toNatClampNeg a2) (fun w2 => bd1 (f_X15_eat a1 w2) (fun r3 w4 => gd (decide (r3 &&& 1 = r3)) (some (r3, w4)))))

theorem miX15_eatAs : MI RX15 yX15_eatAs cX15_eatAs 3 (some .boolean) 2 := ⟨w7_125, (tb_sel 44 rfl rfl), w1_14, w7_126, rfl, by decide +kernel, by decide +kernel, by decide +kernel⟩
set_option maxHeartbeats 4000000 in
set_option maxRecDepth 100000 in
theorem c_X15_eatAs (l : Launch) (G : GG) (hF : gF G = true) (a1 : Int32) (a2 : Int32) (w : Mm) (r : Int32) (w' : Mm) (h : f_X15_eatAs a1 a2 w = some (r, w')) : Ki l G yX15_eatAs cX15_eatAs 3 (some .boolean) { frames := 2, cells := 0, slots := 0, locals := 42 } [.ref (adr (gB G) 32 0), .int a1, .int a2] w r w' := by
  refine k_of (by decide +kernel) (Nat.le_of_ble_eq_true rfl) ?_
  intro p e s m args below meth c ls hx hb hml hr hown hlocks hts hin hP hE hl
  have hC : CX p s m args c meth G cX15_eatAs 3 (some .boolean) RX15 := ⟨hx, hb, hml, hr, hown, hlocks, hts, hE⟩
  have hS : va_S (Ab G) s.heap s.heap [] := va_S.rf
  have hcs : 0 ≤ 0 ∧ 0 ≤ 0 := ⟨Nat.zero_le _, Nat.zero_le _⟩
  have hl : lv_has ls 3 [(0, .ref (adr (gB G) 32 0)), (1, .int a1), (2, .int a2)] := hl
  unfold f_X15_eatAs at h
  refine lv_aload_n hx hb dX15_eatAs_0 rfl (lv_at hl 0 rfl) ?_
  refine k_get (ci := 13) (v := .ref (adr (gB G) 37 0)) hx hb hts hE inX15 hown hP (hp_sh hP hF 0 32 (by decide)) (by decide) rfl rfl 7 (by decide) w6_121 rfl rfl dX15_eatAs_1 ?_
  refine lv_aload_n hx hb dX15_eatAs_4 rfl (lv_at hl 0 rfl) ?_
  refine k_get (ci := 13) (v := .int (gI w 32 0 9)) hx hb hts hE inX15 hown hP (hp_sh hP hF 0 32 (by decide)) (by decide) rfl rfl 9 (by decide) w6_123 rfl rfl dX15_eatAs_5 ?_
  refine lv_iload_n hx hb dX15_eatAs_8 rfl (lv_at hl 2 rfl) ?_
  obtain ⟨g1, h⟩ := gd_el h
  refine k_iast hx hb hE hP hS (hp_sh hP hF 0 37 (by decide)) (by decide) rfl rfl g1 dX15_eatAs_9 (fun w2 H locs e hP hS => ?_)
  have h := sq_at h e
  refine lv_aload_n hx hb dX15_eatAs_10 rfl (lv_at hl 0 rfl) ?_
  refine lv_iload_n hx hb dX15_eatAs_11 rfl (lv_at hl 1 rfl) ?_
  obtain ⟨r3, w4, hf, h⟩ := bd1_el h
  refine c_oni (c_runV (b := adr (gB G) 32 0) (As := [.int a1]) (rest := []) hx hb hml hown hts hE hP hS (c_X15_eat l G hF a1 w2 r3 w4 hf) (c_rec hE hP (hp_sh hP hF 0 32 (by decide)) (by decide) rfl rfl) w7_127 miX15_eat ⟨Nat.le_of_ble_eq_true rfl, Nat.le_of_ble_eq_true rfl⟩ rfl hl.1 rfl (Nat.le_of_ble_eq_true rfl) dX15_eatAs_12 hcs) hS (fun H locs hP hS => ?_)
  obtain ⟨g, h⟩ := gd_el h
  exact e_i hx hb hr (nar_z (of_decide_eq_true g)) hlocks hP hS (Nat.le_of_ble_eq_true rfl) (Nat.le_of_ble_eq_true rfl) (Prod.mk.inj (so_el h)) dX15_eatAs_15

def f_X15_isDeeper (w : Mm) : Option (Int32 × Mm) := br ((gI w 32 0 10) = 8) (some (0, w)) (sq (pI w 32 0 10 ((gI w 32 0 10) + 1)) (fun w1 => sq (pI w1 32 0 9 ((gI w1 32 0 9) + 1)) (fun w2 => some (1, w2))))

theorem miX15_isDeeper : MI RX15 yX15_isDeeper cX15_isDeeper 1 (some .boolean) 0 := ⟨w7_161, (tb_sel 53 rfl rfl), w1_14, w7_162, rfl, by decide +kernel, by decide +kernel, by decide +kernel⟩
set_option maxHeartbeats 4000000 in
set_option maxRecDepth 100000 in
theorem c_X15_isDeeper (l : Launch) (G : GG) (hF : gF G = true)  (w : Mm) (r : Int32) (w' : Mm) (h : f_X15_isDeeper  w = some (r, w')) : Ki l G yX15_isDeeper cX15_isDeeper 1 (some .boolean) { frames := 0, cells := 0, slots := 0, locals := 0 } [.ref (adr (gB G) 32 0)] w r w' := by
  refine k_of (by decide +kernel) (Nat.le_of_ble_eq_true rfl) ?_
  intro p e s m args below meth c ls hx hb hml hr hown hlocks hts hin hP hE hl
  have hC : CX p s m args c meth G cX15_isDeeper 1 (some .boolean) RX15 := ⟨hx, hb, hml, hr, hown, hlocks, hts, hE⟩
  have hS : va_S (Ab G) s.heap s.heap [] := va_S.rf
  have hcs : 0 ≤ 0 ∧ 0 ≤ 0 := ⟨Nat.zero_le _, Nat.zero_le _⟩
  have hl : lv_has ls 1 [(0, .ref (adr (gB G) 32 0))] := hl
  unfold f_X15_isDeeper at h
  refine lv_aload_n hx hb dX15_isDeeper_0 rfl (lv_at hl 0 rfl) ?_
  refine k_get (ci := 13) (v := .int (gI w 32 0 10)) hx hb hts hE inX15 hown hP (hp_sh hP hF 0 32 (by decide)) (by decide) rfl rfl 10 (by decide) w6_124 rfl rfl dX15_isDeeper_1 ?_
  refine lv_bipush (v := 8) hx hb dX15_isDeeper_4 (by decide) ?_
  refine lv_icmp_ne (tgt := 11) hx hb dX15_isDeeper_6 (by decide) (fun cc => ?_) (fun cc => ?_)
  · have h := br_er h cc
    refine lv_aload_n hx hb dX15_isDeeper_11 rfl (lv_at hl 0 rfl) ?_
    refine lv_dup hx hb dX15_isDeeper_12 rfl ?_
    refine k_get (ci := 13) (v := .int (gI w 32 0 10)) hx hb hts hE inX15 hown hP (hp_sh hP hF 0 32 (by decide)) (by decide) rfl rfl 10 (by decide) w6_124 rfl rfl dX15_isDeeper_13 ?_
    refine lv_iconst (v := 1) hx hb dX15_isDeeper_16 (by decide) ?_
    refine lv_iadd hx hb dX15_isDeeper_17 ?_
    refine k_put (ci := 13) (ty := .int) (v := .int ((gI w 32 0 10) + 1)) (w1 := pI w 32 0 10 ((gI w 32 0 10) + 1)) hx hb hts hE inX15 tyX15 tyX15_ok nmX15 hown hP hS (hp_sh hP hF 0 32 (by decide)) (by decide) rfl rfl 10 (by decide) w6_124 rfl rfl rfl rfl rfl (Nat.le_of_ble_eq_true rfl) loc_pI (wce_pI.trans rfl) dX15_isDeeper_18 (fun w1 H locs e hP hS => ?_)
    have h := sq_at h e
    refine lv_aload_n hx hb dX15_isDeeper_21 rfl (lv_at hl 0 rfl) ?_
    refine lv_dup hx hb dX15_isDeeper_22 rfl ?_
    refine k_get (ci := 13) (v := .int (gI w1 32 0 9)) hx hb hts hE inX15 hown hP (hp_sh hP hF 0 32 (by decide)) (by decide) rfl rfl 9 (by decide) w6_123 rfl rfl dX15_isDeeper_23 ?_
    refine lv_iconst (v := 1) hx hb dX15_isDeeper_26 (by decide) ?_
    refine lv_iadd hx hb dX15_isDeeper_27 ?_
    refine k_put (ci := 13) (ty := .int) (v := .int ((gI w1 32 0 9) + 1)) (w1 := pI w1 32 0 9 ((gI w1 32 0 9) + 1)) hx hb hts hE inX15 tyX15 tyX15_ok nmX15 hown hP hS (hp_sh hP hF 0 32 (by decide)) (by decide) rfl rfl 9 (by decide) w6_123 rfl rfl rfl rfl rfl (Nat.le_of_ble_eq_true rfl) loc_pI (wce_pI.trans rfl) dX15_isDeeper_28 (fun w2 H locs e hP hS => ?_)
    have h := sq_at h e
    refine lv_iconst (v := 1) hx hb dX15_isDeeper_31 (by decide) ?_
    exact e_i hx hb hr rfl hlocks hP hS (Nat.le_of_ble_eq_true rfl) (Nat.le_of_ble_eq_true rfl) (Prod.mk.inj (so_el h)) dX15_isDeeper_32
  · have h := br_el h cc
    refine lv_iconst (v := 0) hx hb dX15_isDeeper_9 (by decide) ?_
    exact e_i hx hb hr rfl hlocks hP hS (Nat.le_of_ble_eq_true rfl) (Nat.le_of_ble_eq_true rfl) (Prod.mk.inj (so_el h)) dX15_isDeeper_10

def f_X15_numberAt_L4 (z1 : Int32) : Nat → Int32 → Int32 → Mm → Option (Int32 × Mm)
  | 0, _, _, _ => none
  | n + 1, u3, u2, w => gd (vB z1 401) (br ((gI w 36 0 z1.toNatClampNeg) ≤ u3) (some (u2, w)) (gd (vB z1 401) (gd (vB ((gI w 35 0 z1.toNatClampNeg) + u3) 2000) (sq (((10 * u2) + (gI w 33 0 ((gI w 35 0 z1.toNatClampNeg) + u3).toNatClampNeg)) - 48) (fun x4 => sq (u3 + 1) (fun x5 => f_X15_numberAt_L4 z1 n x5 x4 w))))))

def f_X15_numberAt (a1 : Int32) (w : Mm) : Option (Int32 × Mm) := bd1 (f_X15_numberAt_L4 a1 LF 0 0 w) (fun y6 w7 => some (y6, w7))

theorem miX15_numberAt : MI RX15 yX15_numberAt cX15_numberAt 4 (some .int) 1 := ⟨w7_149, (tb_sel 50 rfl rfl), w1_14, w7_150, rfl, by decide +kernel, by decide +kernel, by decide +kernel⟩
set_option maxHeartbeats 4000000 in
set_option maxRecDepth 100000 in
theorem l_X15_numberAt_4 {p : Program} {l : Launch} {e : Env} {R : Room} {s : State} {m : MethodId} {args : Array Value} {below : List Frame} {meth : Method} {c : Code} {cells slots : Nat} {Q : State → Prop} {G : GG} (hC : CX p s m args c meth G cX15_numberAt 4 (some .int) RX15) (hR : R = { frames := 0, cells := 0, slots := 0, locals := 0 }) (hcs : cells ≤ R.cells ∧ slots ≤ R.slots) (hF : gF G = true) (z1 : Int32) : ∀ (n : Nat) (u3 : Int32) (u2 : Int32) (w : Mm) (v2 : Int32) (w' : Mm), f_X15_numberAt_L4 z1 n u3 u2 w = some (v2, w') → ∀ (H : Heap) (locs : List Loc) (ls : Array Slot), HP G w H → va_S (Ab G) s.heap H locs → lv_has ls 4 [(0, .ref (adr (gB G) 32 0)), (1, .int z1), (3, .int u3), (2, .int u2)] → (∀ (H : Heap) (locs : List Loc) (ls : Array Slot), HP G w' H → va_S (Ab G) s.heap H locs → lv_has ls 4 [(2, .int v2)] → W p l e R s m args below meth c H locs cells slots Q (F0 m 42 ls [])) → W p l e R s m args below meth c H locs cells slots Q (F0 m 4 ls []) := by
  subst hR
  obtain ⟨hx, hb, hml, hr, hown, hlocks, hts, hE⟩ := id hC
  intro n
  induction n with
  | zero =>
    intro u3 u2 w v2 w' h
    rw [f_X15_numberAt_L4] at h
    cases h
  | succ n ih =>
    intro u3 u2 w v2 w' h H locs ls hP hS hl k0
    rw [f_X15_numberAt_L4] at h
    refine lv_iload_n hx hb dX15_numberAt_4 rfl (lv_at hl 2 rfl) ?_
    refine lv_aload_n hx hb dX15_numberAt_5 rfl (lv_at hl 0 rfl) ?_
    refine k_get (ci := 13) (v := .ref (adr (gB G) 36 0)) hx hb hts hE inX15 hown hP (hp_sh hP hF 0 32 (by decide)) (by decide) rfl rfl 6 (by decide) w6_120 rfl rfl dX15_numberAt_6 ?_
    refine lv_iload_n hx hb dX15_numberAt_9 rfl (lv_at hl 1 rfl) ?_
    obtain ⟨g1, h⟩ := gd_el h
    refine k_iald hx hb hE hP (hp_sh hP hF 0 36 (by decide)) (by decide) rfl g1 dX15_numberAt_10 ?_
    refine lv_icmp_ge (tgt := 42) hx hb dX15_numberAt_11 (by decide) (fun cc => ?_) (fun cc => ?_)
    · have h := br_el h cc
      cases h
      exact k0 _ _ _ hP hS (lv_sub hl [3] rfl)
    · have h := br_er h cc
      refine lv_bipush (v := 10) hx hb dX15_numberAt_14 (by decide) ?_
      refine lv_iload_n hx hb dX15_numberAt_16 rfl (lv_at hl 3 rfl) ?_
      refine lv_imul hx hb dX15_numberAt_17 ?_
      refine lv_aload_n hx hb dX15_numberAt_18 rfl (lv_at hl 0 rfl) ?_
      refine k_get (ci := 13) (v := .ref (adr (gB G) 33 0)) hx hb hts hE inX15 hown hP (hp_sh hP hF 0 32 (by decide)) (by decide) rfl rfl 1 (by decide) w6_115 rfl rfl dX15_numberAt_19 ?_
      refine lv_aload_n hx hb dX15_numberAt_22 rfl (lv_at hl 0 rfl) ?_
      refine k_get (ci := 13) (v := .ref (adr (gB G) 35 0)) hx hb hts hE inX15 hown hP (hp_sh hP hF 0 32 (by decide)) (by decide) rfl rfl 5 (by decide) w6_119 rfl rfl dX15_numberAt_23 ?_
      refine lv_iload_n hx hb dX15_numberAt_26 rfl (lv_at hl 1 rfl) ?_
      obtain ⟨g2, h⟩ := gd_el h
      refine k_iald hx hb hE hP (hp_sh hP hF 0 35 (by decide)) (by decide) rfl g2 dX15_numberAt_27 ?_
      refine lv_iload_n hx hb dX15_numberAt_28 rfl (lv_at hl 2 rfl) ?_
      refine lv_iadd hx hb dX15_numberAt_29 ?_
      obtain ⟨g3, h⟩ := gd_el h
      refine k_iald hx hb hE hP (hp_sh hP hF 0 33 (by decide)) (by decide) rfl g3 dX15_numberAt_30 ?_
      refine lv_iadd hx hb dX15_numberAt_31 ?_
      refine lv_bipush (v := 48) hx hb dX15_numberAt_32 (by decide) ?_
      refine lv_isub hx hb dX15_numberAt_34 ?_
      refine lv_topi (fun x4 e => ?_)
      have h := sq_at h e
      refine lv_istore_n (i := 2) (lv' := [(2, .int x4), (0, .ref (adr (gB G) 32 0)), (1, .int z1), (3, .int u3)]) hx hb dX15_numberAt_35 rfl hl (by decide) rfl (fun ls hl => ?_)
      obtain ⟨x5, e⟩ : ∃ z : Int32, z = u3 + 1 := ⟨_, rfl⟩
      have h := sq_at h e
      refine lv_iinc (v := x5) (lv' := [(3, .int x5), (2, .int x4), (0, .ref (adr (gB G) 32 0)), (1, .int z1)]) hx hb dX15_numberAt_36 hl (k := 3) rfl (by rw [e]; rfl) (by decide) rfl (fun ls hl => ?_)
      refine lv_goto (tgt := 4) hx hb dX15_numberAt_39 (by decide) ?_
      exact ih x5 x4 w v2 w' h _ _ _ hP hS (lv_sub hl [2, 3, 0, 1] rfl) k0

set_option maxHeartbeats 4000000 in
set_option maxRecDepth 100000 in
theorem c_X15_numberAt (l : Launch) (G : GG) (hF : gF G = true) (a1 : Int32) (w : Mm) (r : Int32) (w' : Mm) (h : f_X15_numberAt a1 w = some (r, w')) : Ki l G yX15_numberAt cX15_numberAt 4 (some .int) { frames := 0, cells := 0, slots := 0, locals := 0 } [.ref (adr (gB G) 32 0), .int a1] w r w' := by
  refine k_of (by decide +kernel) (Nat.le_of_ble_eq_true rfl) ?_
  intro p e s m args below meth c ls hx hb hml hr hown hlocks hts hin hP hE hl
  have hC : CX p s m args c meth G cX15_numberAt 4 (some .int) RX15 := ⟨hx, hb, hml, hr, hown, hlocks, hts, hE⟩
  have hS : va_S (Ab G) s.heap s.heap [] := va_S.rf
  have hcs : 0 ≤ 0 ∧ 0 ≤ 0 := ⟨Nat.zero_le _, Nat.zero_le _⟩
  have hl : lv_has ls 4 [(0, .ref (adr (gB G) 32 0)), (1, .int a1)] := hl
  unfold f_X15_numberAt at h
  refine lv_iconst (v := 0) hx hb dX15_numberAt_0 (by decide) ?_
  refine lv_istore_n (i := 2) (lv' := [(2, .int 0), (0, .ref (adr (gB G) 32 0)), (1, .int a1)]) hx hb dX15_numberAt_1 rfl hl (by decide) rfl (fun ls hl => ?_)
  refine lv_iconst (v := 0) hx hb dX15_numberAt_2 (by decide) ?_
  refine lv_istore_n (i := 3) (lv' := [(3, .int 0), (2, .int 0), (0, .ref (adr (gB G) 32 0)), (1, .int a1)]) hx hb dX15_numberAt_3 rfl hl (by decide) rfl (fun ls hl => ?_)
  obtain ⟨y6, w7, hf, h⟩ := bd1_el h
  refine l_X15_numberAt_4 hC rfl hcs hF a1 LF 0 0 w y6 w7 hf _ _ _ hP hS (lv_sub hl [2, 3, 0, 1] rfl) (fun H locs ls hP hS hl => ?_)
  refine lv_iload_n hx hb dX15_numberAt_42 rfl (lv_at hl 0 rfl) ?_
  exact e_i hx hb hr rfl hlocks hP hS (Nat.le_of_ble_eq_true rfl) (Nat.le_of_ble_eq_true rfl) (Prod.mk.inj (so_el h)) dX15_numberAt_43

def f_X15_isSame_L19 (z1 : Int32) (z2 : Int32) : Nat → Int32 → Mm → Option (Nat × Mm)
  | 0, _, _ => none
  | n + 1, u3, w => gd (vB z1 401) (br ((gI w 36 0 z1.toNatClampNeg) ≤ u3) (some ((1 : Nat), w)) (gd (vB z1 401) (gd (vB ((gI w 35 0 z1.toNatClampNeg) + u3) 2000) (gd (vB z2 401) (gd (vB ((gI w 35 0 z2.toNatClampNeg) + u3) 2000) (br ((gI w 33 0 ((gI w 35 0 z1.toNatClampNeg) + u3).toNatClampNeg) = (gI w 33 0 ((gI w 35 0 z2.toNatClampNeg) + u3).toNatClampNeg)) (sq (u3 + 1) (fun x8 => f_X15_isSame_L19 z1 z2 n x8 w)) (some ((0 : Nat), w))))))))

def f_X15_isSame (a1 : Int32) (a2 : Int32) (w : Mm) : Option (Int32 × Mm) := gd (vB a1 401) (gd (vB a2 401) (br ((gI w 36 0 a1.toNatClampNeg) = (gI w 36 0 a2.toNatClampNeg)) (bd1 (f_X15_isSame_L19 a1 a2 LF 0 w) (fun t10 w9 => br (t10 = 0) (some (0, w9)) (some (1, w9)))) (some (0, w))))

theorem miX15_isSame : MI RX15 yX15_isSame cX15_isSame 4 (some .boolean) 2 := ⟨w7_205, (tb_sel 64 rfl rfl), w1_14, w7_206, rfl, by decide +kernel, by decide +kernel, by decide +kernel⟩
set_option maxHeartbeats 4000000 in
set_option maxRecDepth 100000 in
theorem l_X15_isSame_19 {p : Program} {l : Launch} {e : Env} {R : Room} {s : State} {m : MethodId} {args : Array Value} {below : List Frame} {meth : Method} {c : Code} {cells slots : Nat} {Q : State → Prop} {G : GG} (hC : CX p s m args c meth G cX15_isSame 4 (some .boolean) RX15) (hR : R = { frames := 0, cells := 0, slots := 0, locals := 0 }) (hcs : cells ≤ R.cells ∧ slots ≤ R.slots) (hF : gF G = true) (z1 : Int32) (z2 : Int32) : ∀ (n : Nat) (u3 : Int32) (w : Mm) (t : Nat) (w' : Mm), f_X15_isSame_L19 z1 z2 n u3 w = some (t, w') → ∀ (H : Heap) (locs : List Loc) (ls : Array Slot), HP G w H → va_S (Ab G) s.heap H locs → lv_has ls 4 [(0, .ref (adr (gB G) 32 0)), (1, .int z1), (2, .int z2), (3, .int u3)] → (t = 0 → ∀ (H : Heap) (locs : List Loc) (ls : Array Slot), HP G w' H → va_S (Ab G) s.heap H locs → lv_has ls 4 [] → W p l e R s m args below meth c H locs cells slots Q (F0 m 58 ls [])) → (t = 1 → ∀ (H : Heap) (locs : List Loc) (ls : Array Slot), HP G w' H → va_S (Ab G) s.heap H locs → lv_has ls 4 [] → W p l e R s m args below meth c H locs cells slots Q (F0 m 66 ls [])) → W p l e R s m args below meth c H locs cells slots Q (F0 m 19 ls []) := by
  subst hR
  obtain ⟨hx, hb, hml, hr, hown, hlocks, hts, hE⟩ := id hC
  intro n
  induction n with
  | zero =>
    intro u3 w t w' h
    rw [f_X15_isSame_L19] at h
    cases h
  | succ n ih =>
    intro u3 w t w' h H locs ls hP hS hl k0 k1
    rw [f_X15_isSame_L19] at h
    refine lv_iload_n hx hb dX15_isSame_19 rfl (lv_at hl 3 rfl) ?_
    refine lv_aload_n hx hb dX15_isSame_20 rfl (lv_at hl 0 rfl) ?_
    refine k_get (ci := 13) (v := .ref (adr (gB G) 36 0)) hx hb hts hE inX15 hown hP (hp_sh hP hF 0 32 (by decide)) (by decide) rfl rfl 6 (by decide) w6_120 rfl rfl dX15_isSame_21 ?_
    refine lv_iload_n hx hb dX15_isSame_24 rfl (lv_at hl 1 rfl) ?_
    obtain ⟨g3, h⟩ := gd_el h
    refine k_iald hx hb hE hP (hp_sh hP hF 0 36 (by decide)) (by decide) rfl g3 dX15_isSame_25 ?_
    refine lv_icmp_ge (tgt := 66) hx hb dX15_isSame_26 (by decide) (fun cc => ?_) (fun cc => ?_)
    · have h := br_el h cc
      cases h
      exact k1 rfl _ _ _ hP hS (lv_sub hl [] rfl)
    · have h := br_er h cc
      refine lv_aload_n hx hb dX15_isSame_29 rfl (lv_at hl 0 rfl) ?_
      refine k_get (ci := 13) (v := .ref (adr (gB G) 33 0)) hx hb hts hE inX15 hown hP (hp_sh hP hF 0 32 (by decide)) (by decide) rfl rfl 1 (by decide) w6_115 rfl rfl dX15_isSame_30 ?_
      refine lv_aload_n hx hb dX15_isSame_33 rfl (lv_at hl 0 rfl) ?_
      refine k_get (ci := 13) (v := .ref (adr (gB G) 35 0)) hx hb hts hE inX15 hown hP (hp_sh hP hF 0 32 (by decide)) (by decide) rfl rfl 5 (by decide) w6_119 rfl rfl dX15_isSame_34 ?_
      refine lv_iload_n hx hb dX15_isSame_37 rfl (lv_at hl 1 rfl) ?_
      obtain ⟨g4, h⟩ := gd_el h
      refine k_iald hx hb hE hP (hp_sh hP hF 0 35 (by decide)) (by decide) rfl g4 dX15_isSame_38 ?_
      refine lv_iload_n hx hb dX15_isSame_39 rfl (lv_at hl 3 rfl) ?_
      refine lv_iadd hx hb dX15_isSame_40 ?_
      obtain ⟨g5, h⟩ := gd_el h
      refine k_iald hx hb hE hP (hp_sh hP hF 0 33 (by decide)) (by decide) rfl g5 dX15_isSame_41 ?_
      refine lv_aload_n hx hb dX15_isSame_42 rfl (lv_at hl 0 rfl) ?_
      refine k_get (ci := 13) (v := .ref (adr (gB G) 33 0)) hx hb hts hE inX15 hown hP (hp_sh hP hF 0 32 (by decide)) (by decide) rfl rfl 1 (by decide) w6_115 rfl rfl dX15_isSame_43 ?_
      refine lv_aload_n hx hb dX15_isSame_46 rfl (lv_at hl 0 rfl) ?_
      refine k_get (ci := 13) (v := .ref (adr (gB G) 35 0)) hx hb hts hE inX15 hown hP (hp_sh hP hF 0 32 (by decide)) (by decide) rfl rfl 5 (by decide) w6_119 rfl rfl dX15_isSame_47 ?_
      refine lv_iload_n hx hb dX15_isSame_50 rfl (lv_at hl 2 rfl) ?_
      obtain ⟨g6, h⟩ := gd_el h
      refine k_iald hx hb hE hP (hp_sh hP hF 0 35 (by decide)) (by decide) rfl g6 dX15_isSame_51 ?_
      refine lv_iload_n hx hb dX15_isSame_52 rfl (lv_at hl 3 rfl) ?_
      refine lv_iadd hx hb dX15_isSame_53 ?_
      obtain ⟨g7, h⟩ := gd_el h
      refine k_iald hx hb hE hP (hp_sh hP hF 0 33 (by decide)) (by decide) rfl g7 dX15_isSame_54 ?_
      refine lv_icmp_eq (tgt := 60) hx hb dX15_isSame_55 (by decide) (fun cc => ?_) (fun cc => ?_)
      · have h := br_el h cc
        obtain ⟨x8, e⟩ : ∃ z : Int32, z = u3 + 1 := ⟨_, rfl⟩
        have h := sq_at h e
        refine lv_iinc (v := x8) (lv' := [(3, .int x8), (0, .ref (adr (gB G) 32 0)), (1, .int z1), (2, .int z2)]) hx hb dX15_isSame_60 hl (k := 3) rfl (by rw [e]; rfl) (by decide) rfl (fun ls hl => ?_)
        refine lv_goto (tgt := 19) hx hb dX15_isSame_63 (by decide) ?_
        exact ih x8 w t w' h _ _ _ hP hS (lv_sub hl [1, 2, 3, 0] rfl) k0 k1
      · have h := br_er h cc
        cases h
        exact k0 rfl _ _ _ hP hS (lv_sub hl [] rfl)

set_option maxHeartbeats 4000000 in
set_option maxRecDepth 100000 in
theorem c_X15_isSame (l : Launch) (G : GG) (hF : gF G = true) (a1 : Int32) (a2 : Int32) (w : Mm) (r : Int32) (w' : Mm) (h : f_X15_isSame a1 a2 w = some (r, w')) : Ki l G yX15_isSame cX15_isSame 4 (some .boolean) { frames := 0, cells := 0, slots := 0, locals := 0 } [.ref (adr (gB G) 32 0), .int a1, .int a2] w r w' := by
  refine k_of (by decide +kernel) (Nat.le_of_ble_eq_true rfl) ?_
  intro p e s m args below meth c ls hx hb hml hr hown hlocks hts hin hP hE hl
  have hC : CX p s m args c meth G cX15_isSame 4 (some .boolean) RX15 := ⟨hx, hb, hml, hr, hown, hlocks, hts, hE⟩
  have hS : va_S (Ab G) s.heap s.heap [] := va_S.rf
  have hcs : 0 ≤ 0 ∧ 0 ≤ 0 := ⟨Nat.zero_le _, Nat.zero_le _⟩
  have hl : lv_has ls 4 [(0, .ref (adr (gB G) 32 0)), (1, .int a1), (2, .int a2)] := hl
  unfold f_X15_isSame at h
  refine lv_aload_n hx hb dX15_isSame_0 rfl (lv_at hl 0 rfl) ?_
  refine k_get (ci := 13) (v := .ref (adr (gB G) 36 0)) hx hb hts hE inX15 hown hP (hp_sh hP hF 0 32 (by decide)) (by decide) rfl rfl 6 (by decide) w6_120 rfl rfl dX15_isSame_1 ?_
  refine lv_iload_n hx hb dX15_isSame_4 rfl (lv_at hl 1 rfl) ?_
  obtain ⟨g1, h⟩ := gd_el h
  refine k_iald hx hb hE hP (hp_sh hP hF 0 36 (by decide)) (by decide) rfl g1 dX15_isSame_5 ?_
  refine lv_aload_n hx hb dX15_isSame_6 rfl (lv_at hl 0 rfl) ?_
  refine k_get (ci := 13) (v := .ref (adr (gB G) 36 0)) hx hb hts hE inX15 hown hP (hp_sh hP hF 0 32 (by decide)) (by decide) rfl rfl 6 (by decide) w6_120 rfl rfl dX15_isSame_7 ?_
  refine lv_iload_n hx hb dX15_isSame_10 rfl (lv_at hl 2 rfl) ?_
  obtain ⟨g2, h⟩ := gd_el h
  refine k_iald hx hb hE hP (hp_sh hP hF 0 36 (by decide)) (by decide) rfl g2 dX15_isSame_11 ?_
  refine lv_icmp_eq (tgt := 17) hx hb dX15_isSame_12 (by decide) (fun cc => ?_) (fun cc => ?_)
  · have h := br_el h cc
    refine lv_iconst (v := 0) hx hb dX15_isSame_17 (by decide) ?_
    refine lv_istore_n (i := 3) (lv' := [(3, .int 0), (0, .ref (adr (gB G) 32 0)), (1, .int a1), (2, .int a2)]) hx hb dX15_isSame_18 rfl hl (by decide) rfl (fun ls hl => ?_)
    obtain ⟨t10, w9, hf, h⟩ := bd1_el h
    refine l_X15_isSame_19 hC rfl hcs hF a1 a2 LF 0 w t10 w9 hf _ _ _ hP hS (lv_sub hl [1, 2, 3, 0] rfl) (fun ht H locs ls hP hS hl => ?_) (fun ht H locs ls hP hS hl => ?_)
    · have h := br_el h ht
      refine lv_iconst (v := 0) hx hb dX15_isSame_58 (by decide) ?_
      exact e_i hx hb hr rfl hlocks hP hS (Nat.le_of_ble_eq_true rfl) (Nat.le_of_ble_eq_true rfl) (Prod.mk.inj (so_el h)) dX15_isSame_59
    · have h := br_er h (by rw [ht]; decide)
      refine lv_iconst (v := 1) hx hb dX15_isSame_66 (by decide) ?_
      exact e_i hx hb hr rfl hlocks hP hS (Nat.le_of_ble_eq_true rfl) (Nat.le_of_ble_eq_true rfl) (Prod.mk.inj (so_el h)) dX15_isSame_67
  · have h := br_er h cc
    refine lv_iconst (v := 0) hx hb dX15_isSame_15 (by decide) ?_
    exact e_i hx hb hr rfl hlocks hP hS (Nat.le_of_ble_eq_true rfl) (Nat.le_of_ble_eq_true rfl) (Prod.mk.inj (so_el h)) dX15_isSame_16

def f_X15_told_L5 (z1 : Int32) (z2 : Int32) : Nat → Int32 → Int32 → Mm → Option (Nat × Int32 × Mm)
  | 0, _, _, _ => none
  | n + 1, u4, u3, w => br (z1 ≤ u4) (some ((1 : Nat), u3, w)) (gd (vB u4 401) (br ((gI w 37 0 u4.toNatClampNeg) = z2) (bd1 (f_X15_isSame u4 z1 w) (fun r2 w3 => br (r2 = 0) (sq (u3 + 1) (fun x4 => sq (u4 + 1) (fun x5 => f_X15_told_L5 z1 z2 n x5 x4 w3))) (some ((0 : Nat), u3, w3)))) (sq (u4 + 1) (fun x6 => f_X15_told_L5 z1 z2 n x6 u3 w))))

def f_X15_told (a1 : Int32) (a2 : Int32) (w : Mm) : Option (Int32 × Mm) := bd2 (f_X15_told_L5 a1 a2 LF 0 0 w) (fun t9 y7 w8 => br (t9 = 0) (some (y7, w8)) (some ((-1), w8)))

theorem miX15_told : MI RX15 yX15_told cX15_told 5 (some .int) 2 := ⟨w7_201, (tb_sel 63 rfl rfl), w1_14, w7_202, rfl, by decide +kernel, by decide +kernel, by decide +kernel⟩
set_option maxHeartbeats 4000000 in
set_option maxRecDepth 100000 in
theorem l_X15_told_5 {p : Program} {l : Launch} {e : Env} {R : Room} {s : State} {m : MethodId} {args : Array Value} {below : List Frame} {meth : Method} {c : Code} {cells slots : Nat} {Q : State → Prop} {G : GG} (hC : CX p s m args c meth G cX15_told 5 (some .int) RX15) (hR : R = { frames := 1, cells := 0, slots := 0, locals := 23 }) (hcs : cells ≤ R.cells ∧ slots ≤ R.slots) (hF : gF G = true) (z1 : Int32) (z2 : Int32) : ∀ (n : Nat) (u4 : Int32) (u3 : Int32) (w : Mm) (t : Nat) (v3 : Int32) (w' : Mm), f_X15_told_L5 z1 z2 n u4 u3 w = some (t, v3, w') → ∀ (H : Heap) (locs : List Loc) (ls : Array Slot), HP G w H → va_S (Ab G) s.heap H locs → lv_has ls 5 [(0, .ref (adr (gB G) 32 0)), (1, .int z1), (2, .int z2), (4, .int u4), (3, .int u3)] → (t = 0 → ∀ (H : Heap) (locs : List Loc) (ls : Array Slot), HP G w' H → va_S (Ab G) s.heap H locs → lv_has ls 5 [(3, .int v3)] → W p l e R s m args below meth c H locs cells slots Q (F0 m 35 ls [])) → (t = 1 → ∀ (H : Heap) (locs : List Loc) (ls : Array Slot), HP G w' H → va_S (Ab G) s.heap H locs → lv_has ls 5 [] → W p l e R s m args below meth c H locs cells slots Q (F0 m 46 ls [])) → W p l e R s m args below meth c H locs cells slots Q (F0 m 5 ls []) := by
  subst hR
  obtain ⟨hx, hb, hml, hr, hown, hlocks, hts, hE⟩ := id hC
  intro n
  induction n with
  | zero =>
    intro u4 u3 w t v3 w' h
    rw [f_X15_told_L5] at h
    cases h
  | succ n ih =>
    intro u4 u3 w t v3 w' h H locs ls hP hS hl k0 k1
    rw [f_X15_told_L5] at h
    refine lv_iload hx hb dX15_told_5 (lv_at hl 3 rfl) ?_
    refine lv_iload_n hx hb dX15_told_7 rfl (lv_at hl 1 rfl) ?_
    refine lv_icmp_ge (tgt := 46) hx hb dX15_told_8 (by decide) (fun cc => ?_) (fun cc => ?_)
    · have h := br_el h cc
      cases h
      exact k1 rfl _ _ _ hP hS (lv_sub hl [] rfl)
    · have h := br_er h cc
      refine lv_aload_n hx hb dX15_told_11 rfl (lv_at hl 0 rfl) ?_
      refine k_get (ci := 13) (v := .ref (adr (gB G) 37 0)) hx hb hts hE inX15 hown hP (hp_sh hP hF 0 32 (by decide)) (by decide) rfl rfl 7 (by decide) w6_121 rfl rfl dX15_told_12 ?_
      refine lv_iload hx hb dX15_told_15 (lv_at hl 3 rfl) ?_
      obtain ⟨g1, h⟩ := gd_el h
      refine k_iald hx hb hE hP (hp_sh hP hF 0 37 (by decide)) (by decide) rfl g1 dX15_told_17 ?_
      refine lv_iload_n hx hb dX15_told_18 rfl (lv_at hl 2 rfl) ?_
      refine lv_icmp_eq (tgt := 25) hx hb dX15_told_19 (by decide) (fun cc => ?_) (fun cc => ?_)
      · have h := br_el h cc
        refine lv_aload_n hx hb dX15_told_25 rfl (lv_at hl 0 rfl) ?_
        refine lv_iload hx hb dX15_told_26 (lv_at hl 3 rfl) ?_
        refine lv_iload_n hx hb dX15_told_28 rfl (lv_at hl 1 rfl) ?_
        obtain ⟨r2, w3, hf, h⟩ := bd1_el h
        refine c_oni (c_runV (b := adr (gB G) 32 0) (As := [.int u4, .int z1]) (rest := []) hx hb hml hown hts hE hP hS (c_X15_isSame l G hF u4 z1 w r2 w3 hf) (c_rec hE hP (hp_sh hP hF 0 32 (by decide)) (by decide) rfl rfl) w7_203 miX15_isSame ⟨Nat.le_of_ble_eq_true rfl, Nat.le_of_ble_eq_true rfl⟩ rfl hl.1 rfl (Nat.le_of_ble_eq_true rfl) dX15_told_29 hcs) hS (fun H locs hP hS => ?_)
        refine lv_if_eq (tgt := 37) hx hb dX15_told_32 (by decide) (fun cc => ?_) (fun cc => ?_)
        · have h := br_el h cc
          obtain ⟨x4, e⟩ : ∃ z : Int32, z = u3 + 1 := ⟨_, rfl⟩
          have h := sq_at h e
          refine lv_iinc (v := x4) (lv' := [(3, .int x4), (0, .ref (adr (gB G) 32 0)), (1, .int z1), (2, .int z2), (4, .int u4)]) hx hb dX15_told_37 hl (k := 4) rfl (by rw [e]; rfl) (by decide) rfl (fun ls hl => ?_)
          obtain ⟨x5, e⟩ : ∃ z : Int32, z = u4 + 1 := ⟨_, rfl⟩
          have h := sq_at h e
          refine lv_iinc (v := x5) (lv' := [(4, .int x5), (3, .int x4), (0, .ref (adr (gB G) 32 0)), (1, .int z1), (2, .int z2)]) hx hb dX15_told_40 hl (k := 4) rfl (by rw [e]; rfl) (by decide) rfl (fun ls hl => ?_)
          refine lv_goto (tgt := 5) hx hb dX15_told_43 (by decide) ?_
          exact ih x5 x4 w3 t v3 w' h _ _ _ hP hS (lv_sub hl [2, 3, 4, 0, 1] rfl) k0 k1
        · have h := br_er h cc
          cases h
          exact k0 rfl _ _ _ hP hS (lv_sub hl [4] rfl)
      · have h := br_er h cc
        refine lv_goto (tgt := 40) hx hb dX15_told_22 (by decide) ?_
        obtain ⟨x6, e⟩ : ∃ z : Int32, z = u4 + 1 := ⟨_, rfl⟩
        have h := sq_at h e
        refine lv_iinc (v := x6) (lv' := [(4, .int x6), (0, .ref (adr (gB G) 32 0)), (1, .int z1), (2, .int z2), (3, .int u3)]) hx hb dX15_told_40 hl (k := 3) rfl (by rw [e]; rfl) (by decide) rfl (fun ls hl => ?_)
        refine lv_goto (tgt := 5) hx hb dX15_told_43 (by decide) ?_
        exact ih x6 u3 w t v3 w' h _ _ _ hP hS (lv_sub hl [1, 2, 3, 0, 4] rfl) k0 k1

set_option maxHeartbeats 4000000 in
set_option maxRecDepth 100000 in
theorem c_X15_told (l : Launch) (G : GG) (hF : gF G = true) (a1 : Int32) (a2 : Int32) (w : Mm) (r : Int32) (w' : Mm) (h : f_X15_told a1 a2 w = some (r, w')) : Ki l G yX15_told cX15_told 5 (some .int) { frames := 1, cells := 0, slots := 0, locals := 23 } [.ref (adr (gB G) 32 0), .int a1, .int a2] w r w' := by
  refine k_of (by decide +kernel) (Nat.le_of_ble_eq_true rfl) ?_
  intro p e s m args below meth c ls hx hb hml hr hown hlocks hts hin hP hE hl
  have hC : CX p s m args c meth G cX15_told 5 (some .int) RX15 := ⟨hx, hb, hml, hr, hown, hlocks, hts, hE⟩
  have hS : va_S (Ab G) s.heap s.heap [] := va_S.rf
  have hcs : 0 ≤ 0 ∧ 0 ≤ 0 := ⟨Nat.zero_le _, Nat.zero_le _⟩
  have hl : lv_has ls 5 [(0, .ref (adr (gB G) 32 0)), (1, .int a1), (2, .int a2)] := hl
  unfold f_X15_told at h
  refine lv_iconst (v := 0) hx hb dX15_told_0 (by decide) ?_
  refine lv_istore_n (i := 3) (lv' := [(3, .int 0), (0, .ref (adr (gB G) 32 0)), (1, .int a1), (2, .int a2)]) hx hb dX15_told_1 rfl hl (by decide) rfl (fun ls hl => ?_)
  refine lv_iconst (v := 0) hx hb dX15_told_2 (by decide) ?_
  refine lv_istore (i := 4) (lv' := [(4, .int 0), (3, .int 0), (0, .ref (adr (gB G) 32 0)), (1, .int a1), (2, .int a2)]) hx hb dX15_told_3 hl (by decide) rfl (fun ls hl => ?_)
  obtain ⟨t9, y7, w8, hf, h⟩ := bd2_el h
  refine l_X15_told_5 hC rfl hcs hF a1 a2 LF 0 0 w t9 y7 w8 hf _ _ _ hP hS (lv_sub hl [2, 3, 4, 0, 1] rfl) (fun ht H locs ls hP hS hl => ?_) (fun ht H locs ls hP hS hl => ?_)
  · have h := br_el h ht
    refine lv_iload_n hx hb dX15_told_35 rfl (lv_at hl 0 rfl) ?_
    exact e_i hx hb hr rfl hlocks hP hS (Nat.le_of_ble_eq_true rfl) (Nat.le_of_ble_eq_true rfl) (Prod.mk.inj (so_el h)) dX15_told_36
  · have h := br_er h (by rw [ht]; decide)
    refine lv_iconst (v := (-1)) hx hb dX15_told_46 (by decide) ?_
    exact e_i hx hb hr rfl hlocks hP hS (Nat.le_of_ble_eq_true rfl) (Nat.le_of_ble_eq_true rfl) (Prod.mk.inj (so_el h)) dX15_told_47

def f_X15_inRange (a1 : Int32) (a2 : Int32) (a3 : Int32) (w : Mm) : Option (Int32 × Mm) := bd1 (f_X15_numberAt a1 w) (fun r1 w2 => bd1 (f_X15_isIn r1 a2 a3 w2) (fun r3 w4 => br (r3 = 0) (some (5, w4)) (some (0, w4))))

theorem miX15_inRange : MI RX15 yX15_inRange cX15_inRange 4 (some .int) 3 := ⟨w7_225, (tb_sel 69 rfl rfl), w1_14, w7_226, rfl, by decide +kernel, by decide +kernel, by decide +kernel⟩
set_option maxHeartbeats 4000000 in
set_option maxRecDepth 100000 in
theorem c_X15_inRange (l : Launch) (G : GG) (hF : gF G = true) (a1 : Int32) (a2 : Int32) (a3 : Int32) (w : Mm) (r : Int32) (w' : Mm) (h : f_X15_inRange a1 a2 a3 w = some (r, w')) : Ki l G yX15_inRange cX15_inRange 4 (some .int) { frames := 1, cells := 0, slots := 0, locals := 23 } [.ref (adr (gB G) 32 0), .int a1, .int a2, .int a3] w r w' := by
  refine k_of (by decide +kernel) (Nat.le_of_ble_eq_true rfl) ?_
  intro p e s m args below meth c ls hx hb hml hr hown hlocks hts hin hP hE hl
  have hC : CX p s m args c meth G cX15_inRange 4 (some .int) RX15 := ⟨hx, hb, hml, hr, hown, hlocks, hts, hE⟩
  have hS : va_S (Ab G) s.heap s.heap [] := va_S.rf
  have hcs : 0 ≤ 0 ∧ 0 ≤ 0 := ⟨Nat.zero_le _, Nat.zero_le _⟩
  have hl : lv_has ls 4 [(0, .ref (adr (gB G) 32 0)), (1, .int a1), (2, .int a2), (3, .int a3)] := hl
  unfold f_X15_inRange at h
  refine lv_aload_n hx hb dX15_inRange_0 rfl (lv_at hl 0 rfl) ?_
  refine lv_iload_n hx hb dX15_inRange_1 rfl (lv_at hl 1 rfl) ?_
  obtain ⟨r1, w2, hf, h⟩ := bd1_el h
  refine c_oni (c_runV (b := adr (gB G) 32 0) (As := [.int a1]) (rest := []) hx hb hml hown hts hE hP hS (c_X15_numberAt l G hF a1 w r1 w2 hf) (c_rec hE hP (hp_sh hP hF 0 32 (by decide)) (by decide) rfl rfl) w7_147 miX15_numberAt ⟨Nat.le_of_ble_eq_true rfl, Nat.le_of_ble_eq_true rfl⟩ rfl hl.1 rfl (Nat.le_of_ble_eq_true rfl) dX15_inRange_2 hcs) hS (fun H locs hP hS => ?_)
  refine lv_iload_n hx hb dX15_inRange_5 rfl (lv_at hl 2 rfl) ?_
  refine lv_iload_n hx hb dX15_inRange_6 rfl (lv_at hl 3 rfl) ?_
  obtain ⟨r3, w4, hf, h⟩ := bd1_el h
  refine c_oni (c_runS (As := [.int r1, .int a2, .int a3]) (rest := []) hx hb hml hown hts hE hP hS (c_X15_isIn l G hF r1 a2 a3 w2 r3 w4 hf) w6_207 miX15_isIn ⟨Nat.le_of_ble_eq_true rfl, Nat.le_of_ble_eq_true rfl⟩ rfl hl.1 rfl (Nat.le_of_ble_eq_true rfl) dX15_inRange_7 hcs) hS (fun H locs hP hS => ?_)
  refine lv_if_eq (tgt := 17) hx hb dX15_inRange_10 (by decide) (fun cc => ?_) (fun cc => ?_)
  · have h := br_el h cc
    refine lv_iconst (v := 5) hx hb dX15_inRange_17 (by decide) ?_
    exact e_i hx hb hr rfl hlocks hP hS (Nat.le_of_ble_eq_true rfl) (Nat.le_of_ble_eq_true rfl) (Prod.mk.inj (so_el h)) dX15_inRange_18
  · have h := br_er h cc
    refine lv_iconst (v := 0) hx hb dX15_inRange_13 (by decide) ?_
    refine lv_goto (tgt := 18) hx hb dX15_inRange_14 (by decide) ?_
    exact e_i hx hb hr rfl hlocks hP hS (Nat.le_of_ble_eq_true rfl) (Nat.le_of_ble_eq_true rfl) (Prod.mk.inj (so_el h)) dX15_inRange_18

def f_X15_look (a1 : Int32) (a2 : Int32) (a3 : Int32) (w : Mm) : Option (Int32 × Mm) := br (a2 = 0) (br (((-1) : Int32) = (-1)) (br (a3 = 0) (gd (vB a1 401) (sq (pI w 38 0 a1.toNatClampNeg (-1)) (fun w4 => br (((-1) : Int32) = (-1)) (some (3, w4)) (some (0, w4))))) (bd1 (f_X15_told a1 2 w) (fun r5 w6 => br (r5 = (-1)) (gd (vB a1 401) (sq (pI w6 38 0 a1.toNatClampNeg r5) (fun w8 => br (r5 = (-1)) (some (3, w8)) (some (0, w8))))) (br (a2 = 0) (gd (vB a1 401) (sq (pI w6 38 0 a1.toNatClampNeg r5) (fun w10 => br (r5 = (-1)) (some (3, w10)) (some (0, w10))))) (sq (r5 + 8) (fun x11 => gd (vB a1 401) (sq (pI w6 38 0 a1.toNatClampNeg x11) (fun w13 => br (x11 = (-1)) (some (3, w13)) (some (0, w13)))))))))) (gd (vB a1 401) (sq (pI w 38 0 a1.toNatClampNeg (-1)) (fun w2 => br (((-1) : Int32) = (-1)) (some (3, w2)) (some (0, w2)))))) (bd1 (f_X15_told a1 1 w) (fun r14 w15 => br (r14 = (-1)) (br (a3 = 0) (gd (vB a1 401) (sq (pI w15 38 0 a1.toNatClampNeg r14) (fun w19 => br (r14 = (-1)) (some (3, w19)) (some (0, w19))))) (bd1 (f_X15_told a1 2 w15) (fun r20 w21 => br (r20 = (-1)) (gd (vB a1 401) (sq (pI w21 38 0 a1.toNatClampNeg r20) (fun w23 => br (r20 = (-1)) (some (3, w23)) (some (0, w23))))) (br (a2 = 0) (gd (vB a1 401) (sq (pI w21 38 0 a1.toNatClampNeg r20) (fun w25 => br (r20 = (-1)) (some (3, w25)) (some (0, w25))))) (sq (r20 + 8) (fun x26 => gd (vB a1 401) (sq (pI w21 38 0 a1.toNatClampNeg x26) (fun w28 => br (x26 = (-1)) (some (3, w28)) (some (0, w28)))))))))) (gd (vB a1 401) (sq (pI w15 38 0 a1.toNatClampNeg r14) (fun w17 => br (r14 = (-1)) (some (3, w17)) (some (0, w17)))))))

theorem miX15_look : MI RX15 yX15_look cX15_look 5 (some .int) 3 := ⟨w7_221, (tb_sel 68 rfl rfl), w1_14, w7_222, rfl, by decide +kernel, by decide +kernel, by decide +kernel⟩
set_option maxHeartbeats 4000000 in
set_option maxRecDepth 100000 in
theorem c_X15_look (l : Launch) (G : GG) (hF : gF G = true) (a1 : Int32) (a2 : Int32) (a3 : Int32) (w : Mm) (r : Int32) (w' : Mm) (h : f_X15_look a1 a2 a3 w = some (r, w')) : Ki l G yX15_look cX15_look 5 (some .int) { frames := 2, cells := 0, slots := 0, locals := 47 } [.ref (adr (gB G) 32 0), .int a1, .int a2, .int a3] w r w' := by
  refine k_of (by decide +kernel) (Nat.le_of_ble_eq_true rfl) ?_
  intro p e s m args below meth c ls hx hb hml hr hown hlocks hts hin hP hE hl
  have hC : CX p s m args c meth G cX15_look 5 (some .int) RX15 := ⟨hx, hb, hml, hr, hown, hlocks, hts, hE⟩
  have hS : va_S (Ab G) s.heap s.heap [] := va_S.rf
  have hcs : 0 ≤ 0 ∧ 0 ≤ 0 := ⟨Nat.zero_le _, Nat.zero_le _⟩
  have hl : lv_has ls 5 [(0, .ref (adr (gB G) 32 0)), (1, .int a1), (2, .int a2), (3, .int a3)] := hl
  unfold f_X15_look at h
  refine lv_iload_n hx hb dX15_look_0 rfl (lv_at hl 2 rfl) ?_
  refine lv_if_eq (tgt := 13) hx hb dX15_look_1 (by decide) (fun cc => ?_) (fun cc => ?_)
  · have h := br_el h cc
    refine lv_iconst (v := (-1)) hx hb dX15_look_13 (by decide) ?_
    refine lv_istore (i := 4) (lv' := [(4, .int (-1)), (0, .ref (adr (gB G) 32 0)), (1, .int a1), (2, .int a2), (3, .int a3)]) hx hb dX15_look_14 hl (by decide) rfl (fun ls hl => ?_)
    refine lv_iload hx hb dX15_look_16 (lv_at hl 0 rfl) ?_
    refine lv_iconst (v := (-1)) hx hb dX15_look_18 (by decide) ?_
    refine lv_icmp_ne (tgt := 47) hx hb dX15_look_19 (by decide) (fun cc => ?_) (fun cc => ?_)
    · have h := br_er h cc
      refine lv_aload_n hx hb dX15_look_47 rfl (lv_at hl 1 rfl) ?_
      refine k_get (ci := 13) (v := .ref (adr (gB G) 38 0)) hx hb hts hE inX15 hown hP (hp_sh hP hF 0 32 (by decide)) (by decide) rfl rfl 8 (by decide) w6_122 rfl rfl dX15_look_48 ?_
      refine lv_iload_n hx hb dX15_look_51 rfl (lv_at hl 2 rfl) ?_
      refine lv_iload hx hb dX15_look_52 (lv_at hl 0 rfl) ?_
      obtain ⟨g1, h⟩ := gd_el h
      refine k_iast hx hb hE hP hS (hp_sh hP hF 0 38 (by decide)) (by decide) rfl rfl g1 dX15_look_54 (fun w2 H locs e hP hS => ?_)
      have h := sq_at h e
      refine lv_iload hx hb dX15_look_55 (lv_at hl 0 rfl) ?_
      refine lv_iconst (v := (-1)) hx hb dX15_look_57 (by decide) ?_
      refine lv_icmp_ne (tgt := 65) hx hb dX15_look_58 (by decide) (fun cc => ?_) (fun cc => ?_)
      · have h := br_er h cc
        refine lv_iconst (v := 0) hx hb dX15_look_65 (by decide) ?_
        exact e_i hx hb hr rfl hlocks hP hS (Nat.le_of_ble_eq_true rfl) (Nat.le_of_ble_eq_true rfl) (Prod.mk.inj (so_el h)) dX15_look_66
      · have h := br_el h cc
        refine lv_iconst (v := 3) hx hb dX15_look_61 (by decide) ?_
        refine lv_goto (tgt := 66) hx hb dX15_look_62 (by decide) ?_
        exact e_i hx hb hr rfl hlocks hP hS (Nat.le_of_ble_eq_true rfl) (Nat.le_of_ble_eq_true rfl) (Prod.mk.inj (so_el h)) dX15_look_66
    · have h := br_el h cc
      refine lv_iload_n hx hb dX15_look_22 rfl (lv_at hl 4 rfl) ?_
      refine lv_if_eq (tgt := 47) hx hb dX15_look_23 (by decide) (fun cc => ?_) (fun cc => ?_)
      · have h := br_el h cc
        refine lv_aload_n hx hb dX15_look_47 rfl (lv_at hl 1 rfl) ?_
        refine k_get (ci := 13) (v := .ref (adr (gB G) 38 0)) hx hb hts hE inX15 hown hP (hp_sh hP hF 0 32 (by decide)) (by decide) rfl rfl 8 (by decide) w6_122 rfl rfl dX15_look_48 ?_
        refine lv_iload_n hx hb dX15_look_51 rfl (lv_at hl 2 rfl) ?_
        refine lv_iload hx hb dX15_look_52 (lv_at hl 0 rfl) ?_
        obtain ⟨g3, h⟩ := gd_el h
        refine k_iast hx hb hE hP hS (hp_sh hP hF 0 38 (by decide)) (by decide) rfl rfl g3 dX15_look_54 (fun w4 H locs e hP hS => ?_)
        have h := sq_at h e
        refine lv_iload hx hb dX15_look_55 (lv_at hl 0 rfl) ?_
        refine lv_iconst (v := (-1)) hx hb dX15_look_57 (by decide) ?_
        refine lv_icmp_ne (tgt := 65) hx hb dX15_look_58 (by decide) (fun cc => ?_) (fun cc => ?_)
        · have h := br_er h cc
          refine lv_iconst (v := 0) hx hb dX15_look_65 (by decide) ?_
          exact e_i hx hb hr rfl hlocks hP hS (Nat.le_of_ble_eq_true rfl) (Nat.le_of_ble_eq_true rfl) (Prod.mk.inj (so_el h)) dX15_look_66
        · have h := br_el h cc
          refine lv_iconst (v := 3) hx hb dX15_look_61 (by decide) ?_
          refine lv_goto (tgt := 66) hx hb dX15_look_62 (by decide) ?_
          exact e_i hx hb hr rfl hlocks hP hS (Nat.le_of_ble_eq_true rfl) (Nat.le_of_ble_eq_true rfl) (Prod.mk.inj (so_el h)) dX15_look_66
      · have h := br_er h cc
        refine lv_aload_n hx hb dX15_look_26 rfl (lv_at hl 1 rfl) ?_
        refine lv_iload_n hx hb dX15_look_27 rfl (lv_at hl 2 rfl) ?_
        refine lv_iconst (v := 2) hx hb dX15_look_28 (by decide) ?_
        obtain ⟨r5, w6, hf, h⟩ := bd1_el h
        refine c_oni (c_runV (b := adr (gB G) 32 0) (As := [.int a1, .int 2]) (rest := []) hx hb hml hown hts hE hP hS (c_X15_told l G hF a1 2 w r5 w6 hf) (c_rec hE hP (hp_sh hP hF 0 32 (by decide)) (by decide) rfl rfl) w7_199 miX15_told ⟨Nat.le_of_ble_eq_true rfl, Nat.le_of_ble_eq_true rfl⟩ rfl hl.1 rfl (Nat.le_of_ble_eq_true rfl) dX15_look_29 hcs) hS (fun H locs hP hS => ?_)
        refine lv_istore (i := 4) (lv' := [(4, .int r5), (0, .ref (adr (gB G) 32 0)), (1, .int a1), (2, .int a2), (3, .int a3)]) hx hb dX15_look_32 hl (by decide) rfl (fun ls hl => ?_)
        refine lv_iload hx hb dX15_look_34 (lv_at hl 0 rfl) ?_
        refine lv_iconst (v := (-1)) hx hb dX15_look_36 (by decide) ?_
        refine lv_icmp_eq (tgt := 47) hx hb dX15_look_37 (by decide) (fun cc => ?_) (fun cc => ?_)
        · have h := br_el h cc
          refine lv_aload_n hx hb dX15_look_47 rfl (lv_at hl 1 rfl) ?_
          refine k_get (ci := 13) (v := .ref (adr (gB G) 38 0)) hx hb hts hE inX15 hown hP (hp_sh hP hF 0 32 (by decide)) (by decide) rfl rfl 8 (by decide) w6_122 rfl rfl dX15_look_48 ?_
          refine lv_iload_n hx hb dX15_look_51 rfl (lv_at hl 2 rfl) ?_
          refine lv_iload hx hb dX15_look_52 (lv_at hl 0 rfl) ?_
          obtain ⟨g7, h⟩ := gd_el h
          refine k_iast hx hb hE hP hS (hp_sh hP hF 0 38 (by decide)) (by decide) rfl rfl g7 dX15_look_54 (fun w8 H locs e hP hS => ?_)
          have h := sq_at h e
          refine lv_iload hx hb dX15_look_55 (lv_at hl 0 rfl) ?_
          refine lv_iconst (v := (-1)) hx hb dX15_look_57 (by decide) ?_
          refine lv_icmp_ne (tgt := 65) hx hb dX15_look_58 (by decide) (fun cc => ?_) (fun cc => ?_)
          · have h := br_er h cc
            refine lv_iconst (v := 0) hx hb dX15_look_65 (by decide) ?_
            exact e_i hx hb hr rfl hlocks hP hS (Nat.le_of_ble_eq_true rfl) (Nat.le_of_ble_eq_true rfl) (Prod.mk.inj (so_el h)) dX15_look_66
          · have h := br_el h cc
            refine lv_iconst (v := 3) hx hb dX15_look_61 (by decide) ?_
            refine lv_goto (tgt := 66) hx hb dX15_look_62 (by decide) ?_
            exact e_i hx hb hr rfl hlocks hP hS (Nat.le_of_ble_eq_true rfl) (Nat.le_of_ble_eq_true rfl) (Prod.mk.inj (so_el h)) dX15_look_66
        · have h := br_er h cc
          refine lv_iload_n hx hb dX15_look_40 rfl (lv_at hl 3 rfl) ?_
          refine lv_if_eq (tgt := 47) hx hb dX15_look_41 (by decide) (fun cc => ?_) (fun cc => ?_)
          · have h := br_el h cc
            refine lv_aload_n hx hb dX15_look_47 rfl (lv_at hl 1 rfl) ?_
            refine k_get (ci := 13) (v := .ref (adr (gB G) 38 0)) hx hb hts hE inX15 hown hP (hp_sh hP hF 0 32 (by decide)) (by decide) rfl rfl 8 (by decide) w6_122 rfl rfl dX15_look_48 ?_
            refine lv_iload_n hx hb dX15_look_51 rfl (lv_at hl 2 rfl) ?_
            refine lv_iload hx hb dX15_look_52 (lv_at hl 0 rfl) ?_
            obtain ⟨g9, h⟩ := gd_el h
            refine k_iast hx hb hE hP hS (hp_sh hP hF 0 38 (by decide)) (by decide) rfl rfl g9 dX15_look_54 (fun w10 H locs e hP hS => ?_)
            have h := sq_at h e
            refine lv_iload hx hb dX15_look_55 (lv_at hl 0 rfl) ?_
            refine lv_iconst (v := (-1)) hx hb dX15_look_57 (by decide) ?_
            refine lv_icmp_ne (tgt := 65) hx hb dX15_look_58 (by decide) (fun cc => ?_) (fun cc => ?_)
            · have h := br_er h cc
              refine lv_iconst (v := 0) hx hb dX15_look_65 (by decide) ?_
              exact e_i hx hb hr rfl hlocks hP hS (Nat.le_of_ble_eq_true rfl) (Nat.le_of_ble_eq_true rfl) (Prod.mk.inj (so_el h)) dX15_look_66
            · have h := br_el h cc
              refine lv_iconst (v := 3) hx hb dX15_look_61 (by decide) ?_
              refine lv_goto (tgt := 66) hx hb dX15_look_62 (by decide) ?_
              exact e_i hx hb hr rfl hlocks hP hS (Nat.le_of_ble_eq_true rfl) (Nat.le_of_ble_eq_true rfl) (Prod.mk.inj (so_el h)) dX15_look_66
          · have h := br_er h cc
            obtain ⟨x11, e⟩ : ∃ z : Int32, z = r5 + 8 := ⟨_, rfl⟩
            have h := sq_at h e
            refine lv_iinc (v := x11) (lv' := [(4, .int x11), (0, .ref (adr (gB G) 32 0)), (1, .int a1), (2, .int a2), (3, .int a3)]) hx hb dX15_look_44 hl (k := 0) rfl (by rw [e]; rfl) (by decide) rfl (fun ls hl => ?_)
            refine lv_aload_n hx hb dX15_look_47 rfl (lv_at hl 1 rfl) ?_
            refine k_get (ci := 13) (v := .ref (adr (gB G) 38 0)) hx hb hts hE inX15 hown hP (hp_sh hP hF 0 32 (by decide)) (by decide) rfl rfl 8 (by decide) w6_122 rfl rfl dX15_look_48 ?_
            refine lv_iload_n hx hb dX15_look_51 rfl (lv_at hl 2 rfl) ?_
            refine lv_iload hx hb dX15_look_52 (lv_at hl 0 rfl) ?_
            obtain ⟨g12, h⟩ := gd_el h
            refine k_iast hx hb hE hP hS (hp_sh hP hF 0 38 (by decide)) (by decide) rfl rfl g12 dX15_look_54 (fun w13 H locs e hP hS => ?_)
            have h := sq_at h e
            refine lv_iload hx hb dX15_look_55 (lv_at hl 0 rfl) ?_
            refine lv_iconst (v := (-1)) hx hb dX15_look_57 (by decide) ?_
            refine lv_icmp_ne (tgt := 65) hx hb dX15_look_58 (by decide) (fun cc => ?_) (fun cc => ?_)
            · have h := br_er h cc
              refine lv_iconst (v := 0) hx hb dX15_look_65 (by decide) ?_
              exact e_i hx hb hr rfl hlocks hP hS (Nat.le_of_ble_eq_true rfl) (Nat.le_of_ble_eq_true rfl) (Prod.mk.inj (so_el h)) dX15_look_66
            · have h := br_el h cc
              refine lv_iconst (v := 3) hx hb dX15_look_61 (by decide) ?_
              refine lv_goto (tgt := 66) hx hb dX15_look_62 (by decide) ?_
              exact e_i hx hb hr rfl hlocks hP hS (Nat.le_of_ble_eq_true rfl) (Nat.le_of_ble_eq_true rfl) (Prod.mk.inj (so_el h)) dX15_look_66
  · have h := br_er h cc
    refine lv_aload_n hx hb dX15_look_4 rfl (lv_at hl 0 rfl) ?_
    refine lv_iload_n hx hb dX15_look_5 rfl (lv_at hl 1 rfl) ?_
    refine lv_iconst (v := 1) hx hb dX15_look_6 (by decide) ?_
    obtain ⟨r14, w15, hf, h⟩ := bd1_el h
    refine c_oni (c_runV (b := adr (gB G) 32 0) (As := [.int a1, .int 1]) (rest := []) hx hb hml hown hts hE hP hS (c_X15_told l G hF a1 1 w r14 w15 hf) (c_rec hE hP (hp_sh hP hF 0 32 (by decide)) (by decide) rfl rfl) w7_199 miX15_told ⟨Nat.le_of_ble_eq_true rfl, Nat.le_of_ble_eq_true rfl⟩ rfl hl.1 rfl (Nat.le_of_ble_eq_true rfl) dX15_look_7 hcs) hS (fun H locs hP hS => ?_)
    refine lv_goto (tgt := 14) hx hb dX15_look_10 (by decide) ?_
    refine lv_istore (i := 4) (lv' := [(4, .int r14), (0, .ref (adr (gB G) 32 0)), (1, .int a1), (2, .int a2), (3, .int a3)]) hx hb dX15_look_14 hl (by decide) rfl (fun ls hl => ?_)
    refine lv_iload hx hb dX15_look_16 (lv_at hl 0 rfl) ?_
    refine lv_iconst (v := (-1)) hx hb dX15_look_18 (by decide) ?_
    refine lv_icmp_ne (tgt := 47) hx hb dX15_look_19 (by decide) (fun cc => ?_) (fun cc => ?_)
    · have h := br_er h cc
      refine lv_aload_n hx hb dX15_look_47 rfl (lv_at hl 1 rfl) ?_
      refine k_get (ci := 13) (v := .ref (adr (gB G) 38 0)) hx hb hts hE inX15 hown hP (hp_sh hP hF 0 32 (by decide)) (by decide) rfl rfl 8 (by decide) w6_122 rfl rfl dX15_look_48 ?_
      refine lv_iload_n hx hb dX15_look_51 rfl (lv_at hl 2 rfl) ?_
      refine lv_iload hx hb dX15_look_52 (lv_at hl 0 rfl) ?_
      obtain ⟨g16, h⟩ := gd_el h
      refine k_iast hx hb hE hP hS (hp_sh hP hF 0 38 (by decide)) (by decide) rfl rfl g16 dX15_look_54 (fun w17 H locs e hP hS => ?_)
      have h := sq_at h e
      refine lv_iload hx hb dX15_look_55 (lv_at hl 0 rfl) ?_
      refine lv_iconst (v := (-1)) hx hb dX15_look_57 (by decide) ?_
      refine lv_icmp_ne (tgt := 65) hx hb dX15_look_58 (by decide) (fun cc => ?_) (fun cc => ?_)
      · have h := br_er h cc
        refine lv_iconst (v := 0) hx hb dX15_look_65 (by decide) ?_
        exact e_i hx hb hr rfl hlocks hP hS (Nat.le_of_ble_eq_true rfl) (Nat.le_of_ble_eq_true rfl) (Prod.mk.inj (so_el h)) dX15_look_66
      · have h := br_el h cc
        refine lv_iconst (v := 3) hx hb dX15_look_61 (by decide) ?_
        refine lv_goto (tgt := 66) hx hb dX15_look_62 (by decide) ?_
        exact e_i hx hb hr rfl hlocks hP hS (Nat.le_of_ble_eq_true rfl) (Nat.le_of_ble_eq_true rfl) (Prod.mk.inj (so_el h)) dX15_look_66
    · have h := br_el h cc
      refine lv_iload_n hx hb dX15_look_22 rfl (lv_at hl 4 rfl) ?_
      refine lv_if_eq (tgt := 47) hx hb dX15_look_23 (by decide) (fun cc => ?_) (fun cc => ?_)
      · have h := br_el h cc
        refine lv_aload_n hx hb dX15_look_47 rfl (lv_at hl 1 rfl) ?_
        refine k_get (ci := 13) (v := .ref (adr (gB G) 38 0)) hx hb hts hE inX15 hown hP (hp_sh hP hF 0 32 (by decide)) (by decide) rfl rfl 8 (by decide) w6_122 rfl rfl dX15_look_48 ?_
        refine lv_iload_n hx hb dX15_look_51 rfl (lv_at hl 2 rfl) ?_
        refine lv_iload hx hb dX15_look_52 (lv_at hl 0 rfl) ?_
        obtain ⟨g18, h⟩ := gd_el h
        refine k_iast hx hb hE hP hS (hp_sh hP hF 0 38 (by decide)) (by decide) rfl rfl g18 dX15_look_54 (fun w19 H locs e hP hS => ?_)
        have h := sq_at h e
        refine lv_iload hx hb dX15_look_55 (lv_at hl 0 rfl) ?_
        refine lv_iconst (v := (-1)) hx hb dX15_look_57 (by decide) ?_
        refine lv_icmp_ne (tgt := 65) hx hb dX15_look_58 (by decide) (fun cc => ?_) (fun cc => ?_)
        · have h := br_er h cc
          refine lv_iconst (v := 0) hx hb dX15_look_65 (by decide) ?_
          exact e_i hx hb hr rfl hlocks hP hS (Nat.le_of_ble_eq_true rfl) (Nat.le_of_ble_eq_true rfl) (Prod.mk.inj (so_el h)) dX15_look_66
        · have h := br_el h cc
          refine lv_iconst (v := 3) hx hb dX15_look_61 (by decide) ?_
          refine lv_goto (tgt := 66) hx hb dX15_look_62 (by decide) ?_
          exact e_i hx hb hr rfl hlocks hP hS (Nat.le_of_ble_eq_true rfl) (Nat.le_of_ble_eq_true rfl) (Prod.mk.inj (so_el h)) dX15_look_66
      · have h := br_er h cc
        refine lv_aload_n hx hb dX15_look_26 rfl (lv_at hl 1 rfl) ?_
        refine lv_iload_n hx hb dX15_look_27 rfl (lv_at hl 2 rfl) ?_
        refine lv_iconst (v := 2) hx hb dX15_look_28 (by decide) ?_
        obtain ⟨r20, w21, hf, h⟩ := bd1_el h
        refine c_oni (c_runV (b := adr (gB G) 32 0) (As := [.int a1, .int 2]) (rest := []) hx hb hml hown hts hE hP hS (c_X15_told l G hF a1 2 w15 r20 w21 hf) (c_rec hE hP (hp_sh hP hF 0 32 (by decide)) (by decide) rfl rfl) w7_199 miX15_told ⟨Nat.le_of_ble_eq_true rfl, Nat.le_of_ble_eq_true rfl⟩ rfl hl.1 rfl (Nat.le_of_ble_eq_true rfl) dX15_look_29 hcs) hS (fun H locs hP hS => ?_)
        refine lv_istore (i := 4) (lv' := [(4, .int r20), (0, .ref (adr (gB G) 32 0)), (1, .int a1), (2, .int a2), (3, .int a3)]) hx hb dX15_look_32 hl (by decide) rfl (fun ls hl => ?_)
        refine lv_iload hx hb dX15_look_34 (lv_at hl 0 rfl) ?_
        refine lv_iconst (v := (-1)) hx hb dX15_look_36 (by decide) ?_
        refine lv_icmp_eq (tgt := 47) hx hb dX15_look_37 (by decide) (fun cc => ?_) (fun cc => ?_)
        · have h := br_el h cc
          refine lv_aload_n hx hb dX15_look_47 rfl (lv_at hl 1 rfl) ?_
          refine k_get (ci := 13) (v := .ref (adr (gB G) 38 0)) hx hb hts hE inX15 hown hP (hp_sh hP hF 0 32 (by decide)) (by decide) rfl rfl 8 (by decide) w6_122 rfl rfl dX15_look_48 ?_
          refine lv_iload_n hx hb dX15_look_51 rfl (lv_at hl 2 rfl) ?_
          refine lv_iload hx hb dX15_look_52 (lv_at hl 0 rfl) ?_
          obtain ⟨g22, h⟩ := gd_el h
          refine k_iast hx hb hE hP hS (hp_sh hP hF 0 38 (by decide)) (by decide) rfl rfl g22 dX15_look_54 (fun w23 H locs e hP hS => ?_)
          have h := sq_at h e
          refine lv_iload hx hb dX15_look_55 (lv_at hl 0 rfl) ?_
          refine lv_iconst (v := (-1)) hx hb dX15_look_57 (by decide) ?_
          refine lv_icmp_ne (tgt := 65) hx hb dX15_look_58 (by decide) (fun cc => ?_) (fun cc => ?_)
          · have h := br_er h cc
            refine lv_iconst (v := 0) hx hb dX15_look_65 (by decide) ?_
            exact e_i hx hb hr rfl hlocks hP hS (Nat.le_of_ble_eq_true rfl) (Nat.le_of_ble_eq_true rfl) (Prod.mk.inj (so_el h)) dX15_look_66
          · have h := br_el h cc
            refine lv_iconst (v := 3) hx hb dX15_look_61 (by decide) ?_
            refine lv_goto (tgt := 66) hx hb dX15_look_62 (by decide) ?_
            exact e_i hx hb hr rfl hlocks hP hS (Nat.le_of_ble_eq_true rfl) (Nat.le_of_ble_eq_true rfl) (Prod.mk.inj (so_el h)) dX15_look_66
        · have h := br_er h cc
          refine lv_iload_n hx hb dX15_look_40 rfl (lv_at hl 3 rfl) ?_
          refine lv_if_eq (tgt := 47) hx hb dX15_look_41 (by decide) (fun cc => ?_) (fun cc => ?_)
          · have h := br_el h cc
            refine lv_aload_n hx hb dX15_look_47 rfl (lv_at hl 1 rfl) ?_
            refine k_get (ci := 13) (v := .ref (adr (gB G) 38 0)) hx hb hts hE inX15 hown hP (hp_sh hP hF 0 32 (by decide)) (by decide) rfl rfl 8 (by decide) w6_122 rfl rfl dX15_look_48 ?_
            refine lv_iload_n hx hb dX15_look_51 rfl (lv_at hl 2 rfl) ?_
            refine lv_iload hx hb dX15_look_52 (lv_at hl 0 rfl) ?_
            obtain ⟨g24, h⟩ := gd_el h
            refine k_iast hx hb hE hP hS (hp_sh hP hF 0 38 (by decide)) (by decide) rfl rfl g24 dX15_look_54 (fun w25 H locs e hP hS => ?_)
            have h := sq_at h e
            refine lv_iload hx hb dX15_look_55 (lv_at hl 0 rfl) ?_
            refine lv_iconst (v := (-1)) hx hb dX15_look_57 (by decide) ?_
            refine lv_icmp_ne (tgt := 65) hx hb dX15_look_58 (by decide) (fun cc => ?_) (fun cc => ?_)
            · have h := br_er h cc
              refine lv_iconst (v := 0) hx hb dX15_look_65 (by decide) ?_
              exact e_i hx hb hr rfl hlocks hP hS (Nat.le_of_ble_eq_true rfl) (Nat.le_of_ble_eq_true rfl) (Prod.mk.inj (so_el h)) dX15_look_66
            · have h := br_el h cc
              refine lv_iconst (v := 3) hx hb dX15_look_61 (by decide) ?_
              refine lv_goto (tgt := 66) hx hb dX15_look_62 (by decide) ?_
              exact e_i hx hb hr rfl hlocks hP hS (Nat.le_of_ble_eq_true rfl) (Nat.le_of_ble_eq_true rfl) (Prod.mk.inj (so_el h)) dX15_look_66
          · have h := br_er h cc
            obtain ⟨x26, e⟩ : ∃ z : Int32, z = r20 + 8 := ⟨_, rfl⟩
            have h := sq_at h e
            refine lv_iinc (v := x26) (lv' := [(4, .int x26), (0, .ref (adr (gB G) 32 0)), (1, .int a1), (2, .int a2), (3, .int a3)]) hx hb dX15_look_44 hl (k := 0) rfl (by rw [e]; rfl) (by decide) rfl (fun ls hl => ?_)
            refine lv_aload_n hx hb dX15_look_47 rfl (lv_at hl 1 rfl) ?_
            refine k_get (ci := 13) (v := .ref (adr (gB G) 38 0)) hx hb hts hE inX15 hown hP (hp_sh hP hF 0 32 (by decide)) (by decide) rfl rfl 8 (by decide) w6_122 rfl rfl dX15_look_48 ?_
            refine lv_iload_n hx hb dX15_look_51 rfl (lv_at hl 2 rfl) ?_
            refine lv_iload hx hb dX15_look_52 (lv_at hl 0 rfl) ?_
            obtain ⟨g27, h⟩ := gd_el h
            refine k_iast hx hb hE hP hS (hp_sh hP hF 0 38 (by decide)) (by decide) rfl rfl g27 dX15_look_54 (fun w28 H locs e hP hS => ?_)
            have h := sq_at h e
            refine lv_iload hx hb dX15_look_55 (lv_at hl 0 rfl) ?_
            refine lv_iconst (v := (-1)) hx hb dX15_look_57 (by decide) ?_
            refine lv_icmp_ne (tgt := 65) hx hb dX15_look_58 (by decide) (fun cc => ?_) (fun cc => ?_)
            · have h := br_er h cc
              refine lv_iconst (v := 0) hx hb dX15_look_65 (by decide) ?_
              exact e_i hx hb hr rfl hlocks hP hS (Nat.le_of_ble_eq_true rfl) (Nat.le_of_ble_eq_true rfl) (Prod.mk.inj (so_el h)) dX15_look_66
            · have h := br_el h cc
              refine lv_iconst (v := 3) hx hb dX15_look_61 (by decide) ?_
              refine lv_goto (tgt := 66) hx hb dX15_look_62 (by decide) ?_
              exact e_i hx hb hr rfl hlocks hP hS (Nat.le_of_ble_eq_true rfl) (Nat.le_of_ble_eq_true rfl) (Prod.mk.inj (so_el h)) dX15_look_66

def f_X15_isNew (a1 : Int32) (a2 : Int32) (a3 : Int32) (w : Mm) : Option (Int32 × Mm) := bd1 (f_X15_told a1 1 w) (fun r1 w2 => br (r1 = (-1)) (bd1 (f_X15_told a1 2 w2) (fun r3 w4 => br (r3 = (-1)) (br (a2 = a3) (some (4, w4)) (some (0, w4))) (some (2, w4)))) (some (2, w2)))

theorem miX15_isNew : MI RX15 yX15_isNew cX15_isNew 4 (some .int) 3 := ⟨w7_197, (tb_sel 62 rfl rfl), w1_14, w7_198, rfl, by decide +kernel, by decide +kernel, by decide +kernel⟩
set_option maxHeartbeats 4000000 in
set_option maxRecDepth 100000 in
theorem c_X15_isNew (l : Launch) (G : GG) (hF : gF G = true) (a1 : Int32) (a2 : Int32) (a3 : Int32) (w : Mm) (r : Int32) (w' : Mm) (h : f_X15_isNew a1 a2 a3 w = some (r, w')) : Ki l G yX15_isNew cX15_isNew 4 (some .int) { frames := 2, cells := 0, slots := 0, locals := 47 } [.ref (adr (gB G) 32 0), .int a1, .int a2, .int a3] w r w' := by
  refine k_of (by decide +kernel) (Nat.le_of_ble_eq_true rfl) ?_
  intro p e s m args below meth c ls hx hb hml hr hown hlocks hts hin hP hE hl
  have hC : CX p s m args c meth G cX15_isNew 4 (some .int) RX15 := ⟨hx, hb, hml, hr, hown, hlocks, hts, hE⟩
  have hS : va_S (Ab G) s.heap s.heap [] := va_S.rf
  have hcs : 0 ≤ 0 ∧ 0 ≤ 0 := ⟨Nat.zero_le _, Nat.zero_le _⟩
  have hl : lv_has ls 4 [(0, .ref (adr (gB G) 32 0)), (1, .int a1), (2, .int a2), (3, .int a3)] := hl
  unfold f_X15_isNew at h
  refine lv_aload_n hx hb dX15_isNew_0 rfl (lv_at hl 0 rfl) ?_
  refine lv_iload_n hx hb dX15_isNew_1 rfl (lv_at hl 1 rfl) ?_
  refine lv_iconst (v := 1) hx hb dX15_isNew_2 (by decide) ?_
  obtain ⟨r1, w2, hf, h⟩ := bd1_el h
  refine c_oni (c_runV (b := adr (gB G) 32 0) (As := [.int a1, .int 1]) (rest := []) hx hb hml hown hts hE hP hS (c_X15_told l G hF a1 1 w r1 w2 hf) (c_rec hE hP (hp_sh hP hF 0 32 (by decide)) (by decide) rfl rfl) w7_199 miX15_told ⟨Nat.le_of_ble_eq_true rfl, Nat.le_of_ble_eq_true rfl⟩ rfl hl.1 rfl (Nat.le_of_ble_eq_true rfl) dX15_isNew_3 hcs) hS (fun H locs hP hS => ?_)
  refine lv_iconst (v := (-1)) hx hb dX15_isNew_6 (by decide) ?_
  refine lv_icmp_ne (tgt := 20) hx hb dX15_isNew_7 (by decide) (fun cc => ?_) (fun cc => ?_)
  · have h := br_er h cc
    refine lv_iconst (v := 2) hx hb dX15_isNew_20 (by decide) ?_
    refine lv_goto (tgt := 34) hx hb dX15_isNew_21 (by decide) ?_
    exact e_i hx hb hr rfl hlocks hP hS (Nat.le_of_ble_eq_true rfl) (Nat.le_of_ble_eq_true rfl) (Prod.mk.inj (so_el h)) dX15_isNew_34
  · have h := br_el h cc
    refine lv_aload_n hx hb dX15_isNew_10 rfl (lv_at hl 0 rfl) ?_
    refine lv_iload_n hx hb dX15_isNew_11 rfl (lv_at hl 1 rfl) ?_
    refine lv_iconst (v := 2) hx hb dX15_isNew_12 (by decide) ?_
    obtain ⟨r3, w4, hf, h⟩ := bd1_el h
    refine c_oni (c_runV (b := adr (gB G) 32 0) (As := [.int a1, .int 2]) (rest := []) hx hb hml hown hts hE hP hS (c_X15_told l G hF a1 2 w2 r3 w4 hf) (c_rec hE hP (hp_sh hP hF 0 32 (by decide)) (by decide) rfl rfl) w7_199 miX15_told ⟨Nat.le_of_ble_eq_true rfl, Nat.le_of_ble_eq_true rfl⟩ rfl hl.1 rfl (Nat.le_of_ble_eq_true rfl) dX15_isNew_13 hcs) hS (fun H locs hP hS => ?_)
    refine lv_iconst (v := (-1)) hx hb dX15_isNew_16 (by decide) ?_
    refine lv_icmp_eq (tgt := 24) hx hb dX15_isNew_17 (by decide) (fun cc => ?_) (fun cc => ?_)
    · have h := br_el h cc
      refine lv_iload_n hx hb dX15_isNew_24 rfl (lv_at hl 2 rfl) ?_
      refine lv_iload_n hx hb dX15_isNew_25 rfl (lv_at hl 3 rfl) ?_
      refine lv_icmp_ne (tgt := 33) hx hb dX15_isNew_26 (by decide) (fun cc => ?_) (fun cc => ?_)
      · have h := br_er h cc
        refine lv_iconst (v := 0) hx hb dX15_isNew_33 (by decide) ?_
        exact e_i hx hb hr rfl hlocks hP hS (Nat.le_of_ble_eq_true rfl) (Nat.le_of_ble_eq_true rfl) (Prod.mk.inj (so_el h)) dX15_isNew_34
      · have h := br_el h cc
        refine lv_iconst (v := 4) hx hb dX15_isNew_29 (by decide) ?_
        refine lv_goto (tgt := 34) hx hb dX15_isNew_30 (by decide) ?_
        exact e_i hx hb hr rfl hlocks hP hS (Nat.le_of_ble_eq_true rfl) (Nat.le_of_ble_eq_true rfl) (Prod.mk.inj (so_el h)) dX15_isNew_34
    · have h := br_er h cc
      refine lv_iconst (v := 2) hx hb dX15_isNew_20 (by decide) ?_
      refine lv_goto (tgt := 34) hx hb dX15_isNew_21 (by decide) ?_
      exact e_i hx hb hr rfl hlocks hP hS (Nat.le_of_ble_eq_true rfl) (Nat.le_of_ble_eq_true rfl) (Prod.mk.inj (so_el h)) dX15_isNew_34

def f_X15_trim (a1 : Int32) (w : Mm) : Option (Int32 × Mm) := sq (pI w 32 0 0 0) (fun w1 => bd1 (f_X15_isIn a1 0 (gI w1 32 0 2) w1) (fun r2 w3 => br (r2 = 0) (bd1 (f_X15_no 1 w3) (fun r5 w6 => some (r5, w6))) (sq (pI w3 32 0 2 a1) (fun w4 => some (a1, w4)))))

theorem miX15_trim : MI RX15 yX15_trim cX15_trim 2 (some .int) 1 := ⟨w6_204, w6_205, w1_14, w6_206, rfl, by decide +kernel, by decide +kernel, by decide +kernel⟩
set_option maxHeartbeats 4000000 in
set_option maxRecDepth 100000 in
theorem c_X15_trim (l : Launch) (G : GG) (hF : gF G = true) (a1 : Int32) (w : Mm) (r : Int32) (w' : Mm) (h : f_X15_trim a1 w = some (r, w')) : Ki l G yX15_trim cX15_trim 2 (some .int) { frames := 1, cells := 0, slots := 0, locals := 22 } [.ref (adr (gB G) 32 0), .int a1] w r w' := by
  refine k_of (by decide +kernel) (Nat.le_of_ble_eq_true rfl) ?_
  intro p e s m args below meth c ls hx hb hml hr hown hlocks hts hin hP hE hl
  have hC : CX p s m args c meth G cX15_trim 2 (some .int) RX15 := ⟨hx, hb, hml, hr, hown, hlocks, hts, hE⟩
  have hS : va_S (Ab G) s.heap s.heap [] := va_S.rf
  have hcs : 0 ≤ 0 ∧ 0 ≤ 0 := ⟨Nat.zero_le _, Nat.zero_le _⟩
  have hl : lv_has ls 2 [(0, .ref (adr (gB G) 32 0)), (1, .int a1)] := hl
  unfold f_X15_trim at h
  refine lv_aload_n hx hb dX15_trim_0 rfl (lv_at hl 0 rfl) ?_
  refine lv_iconst (v := 0) hx hb dX15_trim_1 (by decide) ?_
  refine k_put (ci := 13) (ty := .int) (v := .int 0) (w1 := pI w 32 0 0 0) hx hb hts hE inX15 tyX15 tyX15_ok nmX15 hown hP hS (hp_sh hP hF 0 32 (by decide)) (by decide) rfl rfl 0 (by decide) w6_114 rfl rfl rfl rfl rfl (Nat.le_of_ble_eq_true rfl) loc_pI (wce_pI.trans rfl) dX15_trim_2 (fun w1 H locs e hP hS => ?_)
  have h := sq_at h e
  refine lv_iload_n hx hb dX15_trim_5 rfl (lv_at hl 1 rfl) ?_
  refine lv_iconst (v := 0) hx hb dX15_trim_6 (by decide) ?_
  refine lv_aload_n hx hb dX15_trim_7 rfl (lv_at hl 0 rfl) ?_
  refine k_get (ci := 13) (v := .int (gI w1 32 0 2)) hx hb hts hE inX15 hown hP (hp_sh hP hF 0 32 (by decide)) (by decide) rfl rfl 2 (by decide) w6_116 rfl rfl dX15_trim_8 ?_
  obtain ⟨r2, w3, hf, h⟩ := bd1_el h
  refine c_oni (c_runS (As := [.int a1, .int 0, .int (gI w1 32 0 2)]) (rest := []) hx hb hml hown hts hE hP hS (c_X15_isIn l G hF a1 0 (gI w1 32 0 2) w1 r2 w3 hf) w6_207 miX15_isIn ⟨Nat.le_of_ble_eq_true rfl, Nat.le_of_ble_eq_true rfl⟩ rfl hl.1 rfl (Nat.le_of_ble_eq_true rfl) dX15_trim_11 hcs) hS (fun H locs hP hS => ?_)
  refine lv_if_ne (tgt := 23) hx hb dX15_trim_14 (by decide) (fun cc => ?_) (fun cc => ?_)
  · have h := br_er h cc
    refine lv_aload_n hx hb dX15_trim_23 rfl (lv_at hl 0 rfl) ?_
    refine lv_iload_n hx hb dX15_trim_24 rfl (lv_at hl 1 rfl) ?_
    refine k_put (ci := 13) (ty := .int) (v := .int a1) (w1 := pI w3 32 0 2 a1) hx hb hts hE inX15 tyX15 tyX15_ok nmX15 hown hP hS (hp_sh hP hF 0 32 (by decide)) (by decide) rfl rfl 2 (by decide) w6_116 rfl rfl rfl rfl rfl (Nat.le_of_ble_eq_true rfl) loc_pI (wce_pI.trans rfl) dX15_trim_25 (fun w4 H locs e hP hS => ?_)
    have h := sq_at h e
    refine lv_iload_n hx hb dX15_trim_28 rfl (lv_at hl 1 rfl) ?_
    exact e_i hx hb hr rfl hlocks hP hS (Nat.le_of_ble_eq_true rfl) (Nat.le_of_ble_eq_true rfl) (Prod.mk.inj (so_el h)) dX15_trim_29
  · have h := br_el h cc
    refine lv_aload_n hx hb dX15_trim_17 rfl (lv_at hl 0 rfl) ?_
    refine lv_iconst (v := 1) hx hb dX15_trim_18 (by decide) ?_
    obtain ⟨r5, w6, hf, h⟩ := bd1_el h
    refine c_oni (c_runV (b := adr (gB G) 32 0) (As := [.int 1]) (rest := []) hx hb hml hown hts hE hP hS (c_X15_no l G hF 1 w3 r5 w6 hf) (c_rec hE hP (hp_sh hP hF 0 32 (by decide)) (by decide) rfl rfl) w6_199 miX15_no ⟨Nat.le_of_ble_eq_true rfl, Nat.le_of_ble_eq_true rfl⟩ rfl hl.1 rfl (Nat.le_of_ble_eq_true rfl) dX15_trim_19 hcs) hS (fun H locs hP hS => ?_)
    exact e_i hx hb hr rfl hlocks hP hS (Nat.le_of_ble_eq_true rfl) (Nat.le_of_ble_eq_true rfl) (Prod.mk.inj (so_el h)) dX15_trim_22

def f_X15_errorAt (w : Mm) : Option (Int32 × Mm) := bd1 (f_X15_ok (gI w 32 0 3) w) (fun r1 w2 => some (r1, w2))

theorem miX15_errorAt : MI RX15 yX15_errorAt cX15_errorAt 1 (some .int) 0 := ⟨w8_1, w8_2, w1_14, w8_3, rfl, by decide +kernel, by decide +kernel, by decide +kernel⟩
set_option maxHeartbeats 4000000 in
set_option maxRecDepth 100000 in
theorem c_X15_errorAt (l : Launch) (G : GG) (hF : gF G = true)  (w : Mm) (r : Int32) (w' : Mm) (h : f_X15_errorAt  w = some (r, w')) : Ki l G yX15_errorAt cX15_errorAt 1 (some .int) { frames := 1, cells := 0, slots := 0, locals := 21 } [.ref (adr (gB G) 32 0)] w r w' := by
  refine k_of (by decide +kernel) (Nat.le_of_ble_eq_true rfl) ?_
  intro p e s m args below meth c ls hx hb hml hr hown hlocks hts hin hP hE hl
  have hC : CX p s m args c meth G cX15_errorAt 1 (some .int) RX15 := ⟨hx, hb, hml, hr, hown, hlocks, hts, hE⟩
  have hS : va_S (Ab G) s.heap s.heap [] := va_S.rf
  have hcs : 0 ≤ 0 ∧ 0 ≤ 0 := ⟨Nat.zero_le _, Nat.zero_le _⟩
  have hl : lv_has ls 1 [(0, .ref (adr (gB G) 32 0))] := hl
  unfold f_X15_errorAt at h
  refine lv_aload_n hx hb dX15_errorAt_0 rfl (lv_at hl 0 rfl) ?_
  refine lv_aload_n hx hb dX15_errorAt_1 rfl (lv_at hl 0 rfl) ?_
  refine k_get (ci := 13) (v := .int (gI w 32 0 3)) hx hb hts hE inX15 hown hP (hp_sh hP hF 0 32 (by decide)) (by decide) rfl rfl 3 (by decide) w6_117 rfl rfl dX15_errorAt_2 ?_
  obtain ⟨r1, w2, hf, h⟩ := bd1_el h
  refine c_oni (c_runV (b := adr (gB G) 32 0) (As := [.int (gI w 32 0 3)]) (rest := []) hx hb hml hown hts hE hP hS (c_X15_ok l G hF (gI w 32 0 3) w r1 w2 hf) (c_rec hE hP (hp_sh hP hF 0 32 (by decide)) (by decide) rfl rfl) w8_4 miX15_ok ⟨Nat.le_of_ble_eq_true rfl, Nat.le_of_ble_eq_true rfl⟩ rfl hl.1 rfl (Nat.le_of_ble_eq_true rfl) dX15_errorAt_5 hcs) hS (fun H locs hP hS => ?_)
  exact e_i hx hb hr rfl hlocks hP hS (Nat.le_of_ble_eq_true rfl) (Nat.le_of_ble_eq_true rfl) (Prod.mk.inj (so_el h)) dX15_errorAt_8

def f_X15_day (w : Mm) : Option (Int32 × Mm) := bd1 (f_X15_ok (gI w 55 0 0) w) (fun r1 w2 => some (r1, w2))

theorem miX15_day : MI RX15 yX15_day cX15_day 1 (some .int) 0 := ⟨w8_17, w8_18, w1_14, w8_19, rfl, by decide +kernel, by decide +kernel, by decide +kernel⟩
set_option maxHeartbeats 4000000 in
set_option maxRecDepth 100000 in
theorem c_X15_day (l : Launch) (G : GG) (hF : gF G = true)  (w : Mm) (r : Int32) (w' : Mm) (h : f_X15_day  w = some (r, w')) : Ki l G yX15_day cX15_day 1 (some .int) { frames := 1, cells := 0, slots := 0, locals := 21 } [.ref (adr (gB G) 32 0)] w r w' := by
  refine k_of (by decide +kernel) (Nat.le_of_ble_eq_true rfl) ?_
  intro p e s m args below meth c ls hx hb hml hr hown hlocks hts hin hP hE hl
  have hC : CX p s m args c meth G cX15_day 1 (some .int) RX15 := ⟨hx, hb, hml, hr, hown, hlocks, hts, hE⟩
  have hS : va_S (Ab G) s.heap s.heap [] := va_S.rf
  have hcs : 0 ≤ 0 ∧ 0 ≤ 0 := ⟨Nat.zero_le _, Nat.zero_le _⟩
  have hl : lv_has ls 1 [(0, .ref (adr (gB G) 32 0))] := hl
  unfold f_X15_day at h
  refine lv_aload_n hx hb dX15_day_0 rfl (lv_at hl 0 rfl) ?_
  refine lv_aload_n hx hb dX15_day_1 rfl (lv_at hl 0 rfl) ?_
  refine k_get (ci := 13) (v := .ref (adr (gB G) 55 0)) hx hb hts hE inX15 hown hP (hp_sh hP hF 0 32 (by decide)) (by decide) rfl rfl 21 (by decide) w6_142 rfl rfl dX15_day_2 ?_
  refine k_getN (host := "HedgeNewsModel") (ci := 12) (v := .int (gI w 55 0 0)) hx hb hts hE inX14 hown hP (hp_sh hP hF 0 55 (by decide)) (by decide) rfl rfl 0 (by decide) (List.mem_of_getElem? (i := 39) rfl) rfl rfl dX15_day_5 ?_
  obtain ⟨r1, w2, hf, h⟩ := bd1_el h
  refine c_oni (c_runV (b := adr (gB G) 32 0) (As := [.int (gI w 55 0 0)]) (rest := []) hx hb hml hown hts hE hP hS (c_X15_ok l G hF (gI w 55 0 0) w r1 w2 hf) (c_rec hE hP (hp_sh hP hF 0 32 (by decide)) (by decide) rfl rfl) w8_4 miX15_ok ⟨Nat.le_of_ble_eq_true rfl, Nat.le_of_ble_eq_true rfl⟩ rfl hl.1 rfl (Nat.le_of_ble_eq_true rfl) dX15_day_8 hcs) hS (fun H locs hP hS => ?_)
  exact e_i hx hb hr rfl hlocks hP hS (Nat.le_of_ble_eq_true rfl) (Nat.le_of_ble_eq_true rfl) (Prod.mk.inj (so_el h)) dX15_day_11

def f_X15_ordersCarriedOut (w : Mm) : Option (Int32 × Mm) := bd1 (f_X15_ok (gI w 55 0 1) w) (fun r1 w2 => some (r1, w2))

theorem miX15_ordersCarriedOut : MI RX15 yX15_ordersCarriedOut cX15_ordersCarriedOut 1 (some .int) 0 := ⟨w8_21, w8_22, w1_14, w8_23, rfl, by decide +kernel, by decide +kernel, by decide +kernel⟩
set_option maxHeartbeats 4000000 in
set_option maxRecDepth 100000 in
theorem c_X15_ordersCarriedOut (l : Launch) (G : GG) (hF : gF G = true)  (w : Mm) (r : Int32) (w' : Mm) (h : f_X15_ordersCarriedOut  w = some (r, w')) : Ki l G yX15_ordersCarriedOut cX15_ordersCarriedOut 1 (some .int) { frames := 1, cells := 0, slots := 0, locals := 21 } [.ref (adr (gB G) 32 0)] w r w' := by
  refine k_of (by decide +kernel) (Nat.le_of_ble_eq_true rfl) ?_
  intro p e s m args below meth c ls hx hb hml hr hown hlocks hts hin hP hE hl
  have hC : CX p s m args c meth G cX15_ordersCarriedOut 1 (some .int) RX15 := ⟨hx, hb, hml, hr, hown, hlocks, hts, hE⟩
  have hS : va_S (Ab G) s.heap s.heap [] := va_S.rf
  have hcs : 0 ≤ 0 ∧ 0 ≤ 0 := ⟨Nat.zero_le _, Nat.zero_le _⟩
  have hl : lv_has ls 1 [(0, .ref (adr (gB G) 32 0))] := hl
  unfold f_X15_ordersCarriedOut at h
  refine lv_aload_n hx hb dX15_ordersCarriedOut_0 rfl (lv_at hl 0 rfl) ?_
  refine lv_aload_n hx hb dX15_ordersCarriedOut_1 rfl (lv_at hl 0 rfl) ?_
  refine k_get (ci := 13) (v := .ref (adr (gB G) 55 0)) hx hb hts hE inX15 hown hP (hp_sh hP hF 0 32 (by decide)) (by decide) rfl rfl 21 (by decide) w6_142 rfl rfl dX15_ordersCarriedOut_2 ?_
  refine k_getN (host := "HedgeNewsModel") (ci := 12) (v := .int (gI w 55 0 1)) hx hb hts hE inX14 hown hP (hp_sh hP hF 0 55 (by decide)) (by decide) rfl rfl 1 (by decide) (List.mem_of_getElem? (i := 40) rfl) rfl rfl dX15_ordersCarriedOut_5 ?_
  obtain ⟨r1, w2, hf, h⟩ := bd1_el h
  refine c_oni (c_runV (b := adr (gB G) 32 0) (As := [.int (gI w 55 0 1)]) (rest := []) hx hb hml hown hts hE hP hS (c_X15_ok l G hF (gI w 55 0 1) w r1 w2 hf) (c_rec hE hP (hp_sh hP hF 0 32 (by decide)) (by decide) rfl rfl) w8_4 miX15_ok ⟨Nat.le_of_ble_eq_true rfl, Nat.le_of_ble_eq_true rfl⟩ rfl hl.1 rfl (Nat.le_of_ble_eq_true rfl) dX15_ordersCarriedOut_8 hcs) hS (fun H locs hP hS => ?_)
  exact e_i hx hb hr rfl hlocks hP hS (Nat.le_of_ble_eq_true rfl) (Nat.le_of_ble_eq_true rfl) (Prod.mk.inj (so_el h)) dX15_ordersCarriedOut_11

def f_X15_whispers (w : Mm) : Option (Int32 × Mm) := bd1 (f_X15_ok (gI w 55 0 2) w) (fun r1 w2 => some (r1, w2))

theorem miX15_whispers : MI RX15 yX15_whispers cX15_whispers 1 (some .int) 0 := ⟨w8_25, w8_26, w1_14, w8_27, rfl, by decide +kernel, by decide +kernel, by decide +kernel⟩
set_option maxHeartbeats 4000000 in
set_option maxRecDepth 100000 in
theorem c_X15_whispers (l : Launch) (G : GG) (hF : gF G = true)  (w : Mm) (r : Int32) (w' : Mm) (h : f_X15_whispers  w = some (r, w')) : Ki l G yX15_whispers cX15_whispers 1 (some .int) { frames := 1, cells := 0, slots := 0, locals := 21 } [.ref (adr (gB G) 32 0)] w r w' := by
  refine k_of (by decide +kernel) (Nat.le_of_ble_eq_true rfl) ?_
  intro p e s m args below meth c ls hx hb hml hr hown hlocks hts hin hP hE hl
  have hC : CX p s m args c meth G cX15_whispers 1 (some .int) RX15 := ⟨hx, hb, hml, hr, hown, hlocks, hts, hE⟩
  have hS : va_S (Ab G) s.heap s.heap [] := va_S.rf
  have hcs : 0 ≤ 0 ∧ 0 ≤ 0 := ⟨Nat.zero_le _, Nat.zero_le _⟩
  have hl : lv_has ls 1 [(0, .ref (adr (gB G) 32 0))] := hl
  unfold f_X15_whispers at h
  refine lv_aload_n hx hb dX15_whispers_0 rfl (lv_at hl 0 rfl) ?_
  refine lv_aload_n hx hb dX15_whispers_1 rfl (lv_at hl 0 rfl) ?_
  refine k_get (ci := 13) (v := .ref (adr (gB G) 55 0)) hx hb hts hE inX15 hown hP (hp_sh hP hF 0 32 (by decide)) (by decide) rfl rfl 21 (by decide) w6_142 rfl rfl dX15_whispers_2 ?_
  refine k_getN (host := "HedgeNewsModel") (ci := 12) (v := .int (gI w 55 0 2)) hx hb hts hE inX14 hown hP (hp_sh hP hF 0 55 (by decide)) (by decide) rfl rfl 2 (by decide) (List.mem_of_getElem? (i := 41) rfl) rfl rfl dX15_whispers_5 ?_
  obtain ⟨r1, w2, hf, h⟩ := bd1_el h
  refine c_oni (c_runV (b := adr (gB G) 32 0) (As := [.int (gI w 55 0 2)]) (rest := []) hx hb hml hown hts hE hP hS (c_X15_ok l G hF (gI w 55 0 2) w r1 w2 hf) (c_rec hE hP (hp_sh hP hF 0 32 (by decide)) (by decide) rfl rfl) w8_4 miX15_ok ⟨Nat.le_of_ble_eq_true rfl, Nat.le_of_ble_eq_true rfl⟩ rfl hl.1 rfl (Nat.le_of_ble_eq_true rfl) dX15_whispers_8 hcs) hS (fun H locs hP hS => ?_)
  exact e_i hx hb hr rfl hlocks hP hS (Nat.le_of_ble_eq_true rfl) (Nat.le_of_ble_eq_true rfl) (Prod.mk.inj (so_el h)) dX15_whispers_11

def f_X15_cycles (w : Mm) : Option (Int32 × Mm) := bd1 (f_X15_ok (gI w 55 0 3) w) (fun r1 w2 => some (r1, w2))

theorem miX15_cycles : MI RX15 yX15_cycles cX15_cycles 1 (some .int) 0 := ⟨w8_29, w8_30, w1_14, w8_31, rfl, by decide +kernel, by decide +kernel, by decide +kernel⟩
set_option maxHeartbeats 4000000 in
set_option maxRecDepth 100000 in
theorem c_X15_cycles (l : Launch) (G : GG) (hF : gF G = true)  (w : Mm) (r : Int32) (w' : Mm) (h : f_X15_cycles  w = some (r, w')) : Ki l G yX15_cycles cX15_cycles 1 (some .int) { frames := 1, cells := 0, slots := 0, locals := 21 } [.ref (adr (gB G) 32 0)] w r w' := by
  refine k_of (by decide +kernel) (Nat.le_of_ble_eq_true rfl) ?_
  intro p e s m args below meth c ls hx hb hml hr hown hlocks hts hin hP hE hl
  have hC : CX p s m args c meth G cX15_cycles 1 (some .int) RX15 := ⟨hx, hb, hml, hr, hown, hlocks, hts, hE⟩
  have hS : va_S (Ab G) s.heap s.heap [] := va_S.rf
  have hcs : 0 ≤ 0 ∧ 0 ≤ 0 := ⟨Nat.zero_le _, Nat.zero_le _⟩
  have hl : lv_has ls 1 [(0, .ref (adr (gB G) 32 0))] := hl
  unfold f_X15_cycles at h
  refine lv_aload_n hx hb dX15_cycles_0 rfl (lv_at hl 0 rfl) ?_
  refine lv_aload_n hx hb dX15_cycles_1 rfl (lv_at hl 0 rfl) ?_
  refine k_get (ci := 13) (v := .ref (adr (gB G) 55 0)) hx hb hts hE inX15 hown hP (hp_sh hP hF 0 32 (by decide)) (by decide) rfl rfl 21 (by decide) w6_142 rfl rfl dX15_cycles_2 ?_
  refine k_getN (host := "HedgeNewsModel") (ci := 12) (v := .int (gI w 55 0 3)) hx hb hts hE inX14 hown hP (hp_sh hP hF 0 55 (by decide)) (by decide) rfl rfl 3 (by decide) (List.mem_of_getElem? (i := 42) rfl) rfl rfl dX15_cycles_5 ?_
  obtain ⟨r1, w2, hf, h⟩ := bd1_el h
  refine c_oni (c_runV (b := adr (gB G) 32 0) (As := [.int (gI w 55 0 3)]) (rest := []) hx hb hml hown hts hE hP hS (c_X15_ok l G hF (gI w 55 0 3) w r1 w2 hf) (c_rec hE hP (hp_sh hP hF 0 32 (by decide)) (by decide) rfl rfl) w8_4 miX15_ok ⟨Nat.le_of_ble_eq_true rfl, Nat.le_of_ble_eq_true rfl⟩ rfl hl.1 rfl (Nat.le_of_ble_eq_true rfl) dX15_cycles_8 hcs) hS (fun H locs hP hS => ?_)
  exact e_i hx hb hr rfl hlocks hP hS (Nat.le_of_ble_eq_true rfl) (Nat.le_of_ble_eq_true rfl) (Prod.mk.inj (so_el h)) dX15_cycles_11

def f_X15_isKnown (a1 : Int32) (w : Mm) : Option (Int32 × Mm) := br (a1 = 0) (sq (pI w 32 0 0 1) (fun w1 => gd (decide (a1 &&& 1 = a1)) (some (a1, w1)))) (sq (pI w 32 0 0 0) (fun w2 => gd (decide (a1 &&& 1 = a1)) (some (a1, w2))))

theorem miX15_isKnown : MI RX15 yX15_isKnown cX15_isKnown 2 (some .boolean) 1 := ⟨w8_50, (tb_sel 72 rfl rfl), w1_14, w8_51, rfl, by decide +kernel, by decide +kernel, by decide +kernel⟩
set_option maxHeartbeats 4000000 in
set_option maxRecDepth 100000 in
theorem c_X15_isKnown (l : Launch) (G : GG) (hF : gF G = true) (a1 : Int32) (w : Mm) (r : Int32) (w' : Mm) (h : f_X15_isKnown a1 w = some (r, w')) : Ki l G yX15_isKnown cX15_isKnown 2 (some .boolean) { frames := 0, cells := 0, slots := 0, locals := 0 } [.ref (adr (gB G) 32 0), .int a1] w r w' := by
  refine k_of (by decide +kernel) (Nat.le_of_ble_eq_true rfl) ?_
  intro p e s m args below meth c ls hx hb hml hr hown hlocks hts hin hP hE hl
  have hC : CX p s m args c meth G cX15_isKnown 2 (some .boolean) RX15 := ⟨hx, hb, hml, hr, hown, hlocks, hts, hE⟩
  have hS : va_S (Ab G) s.heap s.heap [] := va_S.rf
  have hcs : 0 ≤ 0 ∧ 0 ≤ 0 := ⟨Nat.zero_le _, Nat.zero_le _⟩
  have hl : lv_has ls 2 [(0, .ref (adr (gB G) 32 0)), (1, .int a1)] := hl
  unfold f_X15_isKnown at h
  refine lv_aload_n hx hb dX15_isKnown_0 rfl (lv_at hl 0 rfl) ?_
  refine lv_iload_n hx hb dX15_isKnown_1 rfl (lv_at hl 1 rfl) ?_
  refine lv_if_eq (tgt := 9) hx hb dX15_isKnown_2 (by decide) (fun cc => ?_) (fun cc => ?_)
  · have h := br_el h cc
    refine lv_iconst (v := 1) hx hb dX15_isKnown_9 (by decide) ?_
    refine k_put (ci := 13) (ty := .int) (v := .int 1) (w1 := pI w 32 0 0 1) hx hb hts hE inX15 tyX15 tyX15_ok nmX15 hown hP hS (hp_sh hP hF 0 32 (by decide)) (by decide) rfl rfl 0 (by decide) w6_114 rfl rfl rfl rfl rfl (Nat.le_of_ble_eq_true rfl) loc_pI (wce_pI.trans rfl) dX15_isKnown_10 (fun w1 H locs e hP hS => ?_)
    have h := sq_at h e
    refine lv_iload_n hx hb dX15_isKnown_13 rfl (lv_at hl 1 rfl) ?_
    obtain ⟨g, h⟩ := gd_el h
    exact e_i hx hb hr (nar_z (of_decide_eq_true g)) hlocks hP hS (Nat.le_of_ble_eq_true rfl) (Nat.le_of_ble_eq_true rfl) (Prod.mk.inj (so_el h)) dX15_isKnown_14
  · have h := br_er h cc
    refine lv_iconst (v := 0) hx hb dX15_isKnown_5 (by decide) ?_
    refine lv_goto (tgt := 10) hx hb dX15_isKnown_6 (by decide) ?_
    refine k_put (ci := 13) (ty := .int) (v := .int 0) (w1 := pI w 32 0 0 0) hx hb hts hE inX15 tyX15 tyX15_ok nmX15 hown hP hS (hp_sh hP hF 0 32 (by decide)) (by decide) rfl rfl 0 (by decide) w6_114 rfl rfl rfl rfl rfl (Nat.le_of_ble_eq_true rfl) loc_pI (wce_pI.trans rfl) dX15_isKnown_10 (fun w2 H locs e hP hS => ?_)
    have h := sq_at h e
    refine lv_iload_n hx hb dX15_isKnown_13 rfl (lv_at hl 1 rfl) ?_
    obtain ⟨g, h⟩ := gd_el h
    exact e_i hx hb hr (nar_z (of_decide_eq_true g)) hlocks hP hS (Nat.le_of_ble_eq_true rfl) (Nat.le_of_ble_eq_true rfl) (Prod.mk.inj (so_el h)) dX15_isKnown_14

def f_X14_at (a0 : Nat) (a1 : Int32) (a2 : Int32) (w : Mm) : Option (Int32 × Mm) := some ((16 * a1) + a2, w)

theorem miX14_at : MI RX14 yX14_at cX14_at 3 (some .int) 2 := ⟨w8_74, (tb_sel 73 rfl rfl), w1_16, w8_75, rfl, by decide +kernel, by decide +kernel, by decide +kernel⟩
set_option maxHeartbeats 4000000 in
set_option maxRecDepth 100000 in
theorem c_X14_at (l : Launch) (G : GG) (hF : gF G = true) (a0 : Nat) (ha0 : a0 < cnt 55) (a1 : Int32) (a2 : Int32) (w : Mm) (r : Int32) (w' : Mm) (h : f_X14_at a0 a1 a2 w = some (r, w')) : Ki l G yX14_at cX14_at 3 (some .int) { frames := 0, cells := 0, slots := 0, locals := 0 } [.ref (adr (gB G) 55 a0), .int a1, .int a2] w r w' := by
  refine k_of (by decide +kernel) (Nat.le_of_ble_eq_true rfl) ?_
  intro p e s m args below meth c ls hx hb hml hr hown hlocks hts hin hP hE hl
  have hC : CX p s m args c meth G cX14_at 3 (some .int) RX14 := ⟨hx, hb, hml, hr, hown, hlocks, hts, hE⟩
  have hS : va_S (Ab G) s.heap s.heap [] := va_S.rf
  have hcs : 0 ≤ 0 ∧ 0 ≤ 0 := ⟨Nat.zero_le _, Nat.zero_le _⟩
  have hl : lv_has ls 3 [(0, .ref (adr (gB G) 55 a0)), (1, .int a1), (2, .int a2)] := hl
  unfold f_X14_at at h
  refine lv_bipush (v := 16) hx hb dX14_at_0 (by decide) ?_
  refine lv_iload_n hx hb dX14_at_2 rfl (lv_at hl 1 rfl) ?_
  refine lv_imul hx hb dX14_at_3 ?_
  refine lv_iload_n hx hb dX14_at_4 rfl (lv_at hl 2 rfl) ?_
  refine lv_iadd hx hb dX14_at_5 ?_
  exact e_i hx hb hr rfl hlocks hP hS (Nat.le_of_ble_eq_true rfl) (Nat.le_of_ble_eq_true rfl) (Prod.mk.inj (so_el h)) dX14_at_6

def f_X14_placeIn_L2 (z0 : Nat) (z1 : Int32) (z2 : Int32) : Nat → Int32 → Mm → Option (Nat × Int32 × Mm)
  | 0, _, _ => none
  | n + 1, u3, w => gd (vB z2 8) (br ((gI w 57 z0 z2.toNatClampNeg) ≤ u3) (some ((1 : Nat), u3, w)) (bd1 (f_X14_at z0 z2 u3 w) (fun r2 w3 => gd (vB r2 128) (br ((gI w3 56 z0 r2.toNatClampNeg) = z1) (some ((0 : Nat), u3, w3)) (sq (u3 + 1) (fun x5 => f_X14_placeIn_L2 z0 z1 z2 n x5 w3))))))

def f_X14_placeIn (a0 : Nat) (a1 : Int32) (a2 : Int32) (w : Mm) : Option (Int32 × Mm) := bd2 (f_X14_placeIn_L2 a0 a1 a2 LF 0 w) (fun t8 y6 w7 => br (t8 = 0) (some (y6, w7)) (some ((-1), w7)))

theorem miX14_placeIn : MI RX14 yX14_placeIn cX14_placeIn 4 (some .int) 2 := ⟨w8_69, w8_70, w1_16, w8_71, rfl, by decide +kernel, by decide +kernel, by decide +kernel⟩
set_option maxHeartbeats 4000000 in
set_option maxRecDepth 100000 in
theorem l_X14_placeIn_2 {p : Program} {l : Launch} {e : Env} {R : Room} {s : State} {m : MethodId} {args : Array Value} {below : List Frame} {meth : Method} {c : Code} {cells slots : Nat} {Q : State → Prop} {G : GG} (hC : CX p s m args c meth G cX14_placeIn 4 (some .int) RX14) (hR : R = { frames := 1, cells := 0, slots := 0, locals := 22 }) (hcs : cells ≤ R.cells ∧ slots ≤ R.slots) (hF : gF G = true) (z0 : Nat) (hz0 : z0 < cnt 55) (z1 : Int32) (z2 : Int32) : ∀ (n : Nat) (u3 : Int32) (w : Mm) (t : Nat) (v3 : Int32) (w' : Mm), f_X14_placeIn_L2 z0 z1 z2 n u3 w = some (t, v3, w') → ∀ (H : Heap) (locs : List Loc) (ls : Array Slot), HP G w H → va_S (Ab G) s.heap H locs → lv_has ls 4 [(0, .ref (adr (gB G) 55 z0)), (1, .int z1), (2, .int z2), (3, .int u3)] → (t = 0 → ∀ (H : Heap) (locs : List Loc) (ls : Array Slot), HP G w' H → va_S (Ab G) s.heap H locs → lv_has ls 4 [(3, .int v3)] → W p l e R s m args below meth c H locs cells slots Q (F0 m 27 ls [])) → (t = 1 → ∀ (H : Heap) (locs : List Loc) (ls : Array Slot), HP G w' H → va_S (Ab G) s.heap H locs → lv_has ls 4 [] → W p l e R s m args below meth c H locs cells slots Q (F0 m 35 ls [])) → W p l e R s m args below meth c H locs cells slots Q (F0 m 2 ls []) := by
  subst hR
  obtain ⟨hx, hb, hml, hr, hown, hlocks, hts, hE⟩ := id hC
  intro n
  induction n with
  | zero =>
    intro u3 w t v3 w' h
    rw [f_X14_placeIn_L2] at h
    cases h
  | succ n ih =>
    intro u3 w t v3 w' h H locs ls hP hS hl k0 k1
    rw [f_X14_placeIn_L2] at h
    refine lv_iload_n hx hb dX14_placeIn_2 rfl (lv_at hl 3 rfl) ?_
    refine lv_aload_n hx hb dX14_placeIn_3 rfl (lv_at hl 0 rfl) ?_
    refine k_get (ci := 12) (v := .ref (adr (gB G) 57 z0)) hx hb hts hE inX14 hown hP (hp_sh hP hF z0 55 hz0) (by decide) rfl rfl 5 (by decide) w6_77 rfl rfl dX14_placeIn_4 ?_
    refine lv_iload_n hx hb dX14_placeIn_7 rfl (lv_at hl 2 rfl) ?_
    obtain ⟨g1, h⟩ := gd_el h
    refine k_iald hx hb hE hP (hp_sh hP hF z0 57 hz0) (by decide) rfl g1 dX14_placeIn_8 ?_
    refine lv_icmp_ge (tgt := 35) hx hb dX14_placeIn_9 (by decide) (fun cc => ?_) (fun cc => ?_)
    · have h := br_el h cc
      cases h
      exact k1 rfl _ _ _ hP hS (lv_sub hl [] rfl)
    · have h := br_er h cc
      refine lv_aload_n hx hb dX14_placeIn_12 rfl (lv_at hl 0 rfl) ?_
      refine k_get (ci := 12) (v := .ref (adr (gB G) 56 z0)) hx hb hts hE inX14 hown hP (hp_sh hP hF z0 55 hz0) (by decide) rfl rfl 4 (by decide) w6_76 rfl rfl dX14_placeIn_13 ?_
      refine lv_aload_n hx hb dX14_placeIn_16 rfl (lv_at hl 0 rfl) ?_
      refine lv_iload_n hx hb dX14_placeIn_17 rfl (lv_at hl 2 rfl) ?_
      refine lv_iload_n hx hb dX14_placeIn_18 rfl (lv_at hl 3 rfl) ?_
      obtain ⟨r2, w3, hf, h⟩ := bd1_el h
      refine c_oni (c_runV (b := adr (gB G) 55 z0) (As := [.int z2, .int u3]) (rest := [.ref (adr (gB G) 56 z0)]) hx hb hml hown hts hE hP hS (c_X14_at l G hF z0 hz0 z2 u3 w r2 w3 hf) (c_rec hE hP (hp_sh hP hF z0 55 hz0) (by decide) rfl rfl) w8_72 miX14_at ⟨Nat.le_of_ble_eq_true rfl, Nat.le_of_ble_eq_true rfl⟩ rfl hl.1 rfl (Nat.le_of_ble_eq_true rfl) dX14_placeIn_19 hcs) hS (fun H locs hP hS => ?_)
      obtain ⟨g4, h⟩ := gd_el h
      refine k_iald hx hb hE hP (hp_sh hP hF z0 56 hz0) (by decide) rfl g4 dX14_placeIn_22 ?_
      refine lv_iload_n hx hb dX14_placeIn_23 rfl (lv_at hl 1 rfl) ?_
      refine lv_icmp_ne (tgt := 29) hx hb dX14_placeIn_24 (by decide) (fun cc => ?_) (fun cc => ?_)
      · have h := br_er h cc
        obtain ⟨x5, e⟩ : ∃ z : Int32, z = u3 + 1 := ⟨_, rfl⟩
        have h := sq_at h e
        refine lv_iinc (v := x5) (lv' := [(3, .int x5), (0, .ref (adr (gB G) 55 z0)), (1, .int z1), (2, .int z2)]) hx hb dX14_placeIn_29 hl (k := 3) rfl (by rw [e]; rfl) (by decide) rfl (fun ls hl => ?_)
        refine lv_goto (tgt := 2) hx hb dX14_placeIn_32 (by decide) ?_
        exact ih x5 w3 t v3 w' h _ _ _ hP hS (lv_sub hl [1, 2, 3, 0] rfl) k0 k1
      · have h := br_el h cc
        cases h
        exact k0 rfl _ _ _ hP hS (lv_sub hl [3] rfl)

set_option maxHeartbeats 4000000 in
set_option maxRecDepth 100000 in
theorem c_X14_placeIn (l : Launch) (G : GG) (hF : gF G = true) (a0 : Nat) (ha0 : a0 < cnt 55) (a1 : Int32) (a2 : Int32) (w : Mm) (r : Int32) (w' : Mm) (h : f_X14_placeIn a0 a1 a2 w = some (r, w')) : Ki l G yX14_placeIn cX14_placeIn 4 (some .int) { frames := 1, cells := 0, slots := 0, locals := 22 } [.ref (adr (gB G) 55 a0), .int a1, .int a2] w r w' := by
  refine k_of (by decide +kernel) (Nat.le_of_ble_eq_true rfl) ?_
  intro p e s m args below meth c ls hx hb hml hr hown hlocks hts hin hP hE hl
  have hC : CX p s m args c meth G cX14_placeIn 4 (some .int) RX14 := ⟨hx, hb, hml, hr, hown, hlocks, hts, hE⟩
  have hS : va_S (Ab G) s.heap s.heap [] := va_S.rf
  have hcs : 0 ≤ 0 ∧ 0 ≤ 0 := ⟨Nat.zero_le _, Nat.zero_le _⟩
  have hl : lv_has ls 4 [(0, .ref (adr (gB G) 55 a0)), (1, .int a1), (2, .int a2)] := hl
  unfold f_X14_placeIn at h
  refine lv_iconst (v := 0) hx hb dX14_placeIn_0 (by decide) ?_
  refine lv_istore_n (i := 3) (lv' := [(3, .int 0), (0, .ref (adr (gB G) 55 a0)), (1, .int a1), (2, .int a2)]) hx hb dX14_placeIn_1 rfl hl (by decide) rfl (fun ls hl => ?_)
  obtain ⟨t8, y6, w7, hf, h⟩ := bd2_el h
  refine l_X14_placeIn_2 hC rfl hcs hF a0 ha0 a1 a2 LF 0 w t8 y6 w7 hf _ _ _ hP hS (lv_sub hl [1, 2, 3, 0] rfl) (fun ht H locs ls hP hS hl => ?_) (fun ht H locs ls hP hS hl => ?_)
  · have h := br_el h ht
    refine lv_iload_n hx hb dX14_placeIn_27 rfl (lv_at hl 0 rfl) ?_
    exact e_i hx hb hr rfl hlocks hP hS (Nat.le_of_ble_eq_true rfl) (Nat.le_of_ble_eq_true rfl) (Prod.mk.inj (so_el h)) dX14_placeIn_28
  · have h := br_er h (by rw [ht]; decide)
    refine lv_iconst (v := (-1)) hx hb dX14_placeIn_35 (by decide) ?_
    exact e_i hx hb hr rfl hlocks hP hS (Nat.le_of_ble_eq_true rfl) (Nat.le_of_ble_eq_true rfl) (Prod.mk.inj (so_el h)) dX14_placeIn_36

def f_X14_canListen (a0 : Nat) (a1 : Int32) (a2 : Int32) (w : Mm) : Option (Int32 × Mm) := br (a1 = a2) (some (0, w)) (bd1 (f_X14_placeIn a0 a1 a2 w) (fun r1 w2 => br (r1 = (-1)) (some (1, w2)) (some (0, w2))))

theorem miX14_canListen : MI RX14 yX14_canListen cX14_canListen 3 (some .boolean) 2 := ⟨w8_122, w8_123, w1_16, w8_124, rfl, by decide +kernel, by decide +kernel, by decide +kernel⟩
set_option maxHeartbeats 4000000 in
set_option maxRecDepth 100000 in
theorem c_X14_canListen (l : Launch) (G : GG) (hF : gF G = true) (a0 : Nat) (ha0 : a0 < cnt 55) (a1 : Int32) (a2 : Int32) (w : Mm) (r : Int32) (w' : Mm) (h : f_X14_canListen a0 a1 a2 w = some (r, w')) : Ki l G yX14_canListen cX14_canListen 3 (some .boolean) { frames := 2, cells := 0, slots := 0, locals := 45 } [.ref (adr (gB G) 55 a0), .int a1, .int a2] w r w' := by
  refine k_of (by decide +kernel) (Nat.le_of_ble_eq_true rfl) ?_
  intro p e s m args below meth c ls hx hb hml hr hown hlocks hts hin hP hE hl
  have hC : CX p s m args c meth G cX14_canListen 3 (some .boolean) RX14 := ⟨hx, hb, hml, hr, hown, hlocks, hts, hE⟩
  have hS : va_S (Ab G) s.heap s.heap [] := va_S.rf
  have hcs : 0 ≤ 0 ∧ 0 ≤ 0 := ⟨Nat.zero_le _, Nat.zero_le _⟩
  have hl : lv_has ls 3 [(0, .ref (adr (gB G) 55 a0)), (1, .int a1), (2, .int a2)] := hl
  unfold f_X14_canListen at h
  refine lv_iload_n hx hb dX14_canListen_0 rfl (lv_at hl 1 rfl) ?_
  refine lv_iload_n hx hb dX14_canListen_1 rfl (lv_at hl 2 rfl) ?_
  refine lv_icmp_eq (tgt := 19) hx hb dX14_canListen_2 (by decide) (fun cc => ?_) (fun cc => ?_)
  · have h := br_el h cc
    refine lv_iconst (v := 0) hx hb dX14_canListen_19 (by decide) ?_
    exact e_i hx hb hr rfl hlocks hP hS (Nat.le_of_ble_eq_true rfl) (Nat.le_of_ble_eq_true rfl) (Prod.mk.inj (so_el h)) dX14_canListen_20
  · have h := br_er h cc
    refine lv_aload_n hx hb dX14_canListen_5 rfl (lv_at hl 0 rfl) ?_
    refine lv_iload_n hx hb dX14_canListen_6 rfl (lv_at hl 1 rfl) ?_
    refine lv_iload_n hx hb dX14_canListen_7 rfl (lv_at hl 2 rfl) ?_
    obtain ⟨r1, w2, hf, h⟩ := bd1_el h
    refine c_oni (c_runV (b := adr (gB G) 55 a0) (As := [.int a1, .int a2]) (rest := []) hx hb hml hown hts hE hP hS (c_X14_placeIn l G hF a0 ha0 a1 a2 w r1 w2 hf) (c_rec hE hP (hp_sh hP hF a0 55 ha0) (by decide) rfl rfl) w8_104 miX14_placeIn ⟨Nat.le_of_ble_eq_true rfl, Nat.le_of_ble_eq_true rfl⟩ rfl hl.1 rfl (Nat.le_of_ble_eq_true rfl) dX14_canListen_8 hcs) hS (fun H locs hP hS => ?_)
    refine lv_iconst (v := (-1)) hx hb dX14_canListen_11 (by decide) ?_
    refine lv_icmp_ne (tgt := 19) hx hb dX14_canListen_12 (by decide) (fun cc => ?_) (fun cc => ?_)
    · have h := br_er h cc
      refine lv_iconst (v := 0) hx hb dX14_canListen_19 (by decide) ?_
      exact e_i hx hb hr rfl hlocks hP hS (Nat.le_of_ble_eq_true rfl) (Nat.le_of_ble_eq_true rfl) (Prod.mk.inj (so_el h)) dX14_canListen_20
    · have h := br_el h cc
      refine lv_iconst (v := 1) hx hb dX14_canListen_15 (by decide) ?_
      refine lv_goto (tgt := 20) hx hb dX14_canListen_16 (by decide) ?_
      exact e_i hx hb hr rfl hlocks hP hS (Nat.le_of_ble_eq_true rfl) (Nat.le_of_ble_eq_true rfl) (Prod.mk.inj (so_el h)) dX14_canListen_20

def f_X14_listens (a0 : Nat) (a1 : Int32) (a2 : Int32) (w : Mm) : Option (Int32 × Mm) := gd (vB a2 8) (bd1 (f_X14_at a0 a2 (gI w 57 a0 a2.toNatClampNeg) w) (fun r2 w3 => gd (vB r2 128) (sq (pI w3 56 a0 r2.toNatClampNeg a1) (fun w5 => gd (vB a2 8) (gd (vB a2 8) (sq (pI w5 57 a0 a2.toNatClampNeg ((gI w5 57 a0 a2.toNatClampNeg) + 1)) (fun w8 => br (a1 < 8) (gd (vB a2 8) (some ((gI w8 57 a0 a2.toNatClampNeg) - 1, w8))) (gd (vB (a1 - 8) 8) (sq (pI w8 61 a0 (a1 - 8).toNatClampNeg 0) (fun w11 => gd (vB a2 8) (some ((gI w11 57 a0 a2.toNatClampNeg) - 1, w11))))))))))))

theorem miX14_listens : MI RX14 yX14_listens cX14_listens 3 (some .int) 2 := ⟨w8_126, w8_127, w1_16, w8_128, rfl, by decide +kernel, by decide +kernel, by decide +kernel⟩
set_option maxHeartbeats 4000000 in
set_option maxRecDepth 100000 in
theorem c_X14_listens (l : Launch) (G : GG) (hF : gF G = true) (a0 : Nat) (ha0 : a0 < cnt 55) (a1 : Int32) (a2 : Int32) (w : Mm) (r : Int32) (w' : Mm) (h : f_X14_listens a0 a1 a2 w = some (r, w')) : Ki l G yX14_listens cX14_listens 3 (some .int) { frames := 1, cells := 0, slots := 0, locals := 22 } [.ref (adr (gB G) 55 a0), .int a1, .int a2] w r w' := by
  refine k_of (by decide +kernel) (Nat.le_of_ble_eq_true rfl) ?_
  intro p e s m args below meth c ls hx hb hml hr hown hlocks hts hin hP hE hl
  have hC : CX p s m args c meth G cX14_listens 3 (some .int) RX14 := ⟨hx, hb, hml, hr, hown, hlocks, hts, hE⟩
  have hS : va_S (Ab G) s.heap s.heap [] := va_S.rf
  have hcs : 0 ≤ 0 ∧ 0 ≤ 0 := ⟨Nat.zero_le _, Nat.zero_le _⟩
  have hl : lv_has ls 3 [(0, .ref (adr (gB G) 55 a0)), (1, .int a1), (2, .int a2)] := hl
  unfold f_X14_listens at h
  refine lv_aload_n hx hb dX14_listens_0 rfl (lv_at hl 0 rfl) ?_
  refine k_get (ci := 12) (v := .ref (adr (gB G) 56 a0)) hx hb hts hE inX14 hown hP (hp_sh hP hF a0 55 ha0) (by decide) rfl rfl 4 (by decide) w6_76 rfl rfl dX14_listens_1 ?_
  refine lv_aload_n hx hb dX14_listens_4 rfl (lv_at hl 0 rfl) ?_
  refine lv_iload_n hx hb dX14_listens_5 rfl (lv_at hl 2 rfl) ?_
  refine lv_aload_n hx hb dX14_listens_6 rfl (lv_at hl 0 rfl) ?_
  refine k_get (ci := 12) (v := .ref (adr (gB G) 57 a0)) hx hb hts hE inX14 hown hP (hp_sh hP hF a0 55 ha0) (by decide) rfl rfl 5 (by decide) w6_77 rfl rfl dX14_listens_7 ?_
  refine lv_iload_n hx hb dX14_listens_10 rfl (lv_at hl 2 rfl) ?_
  obtain ⟨g1, h⟩ := gd_el h
  refine k_iald hx hb hE hP (hp_sh hP hF a0 57 ha0) (by decide) rfl g1 dX14_listens_11 ?_
  obtain ⟨r2, w3, hf, h⟩ := bd1_el h
  refine c_oni (c_runV (b := adr (gB G) 55 a0) (As := [.int a2, .int (gI w 57 a0 a2.toNatClampNeg)]) (rest := [.ref (adr (gB G) 56 a0)]) hx hb hml hown hts hE hP hS (c_X14_at l G hF a0 ha0 a2 (gI w 57 a0 a2.toNatClampNeg) w r2 w3 hf) (c_rec hE hP (hp_sh hP hF a0 55 ha0) (by decide) rfl rfl) w8_72 miX14_at ⟨Nat.le_of_ble_eq_true rfl, Nat.le_of_ble_eq_true rfl⟩ rfl hl.1 rfl (Nat.le_of_ble_eq_true rfl) dX14_listens_12 hcs) hS (fun H locs hP hS => ?_)
  refine lv_iload_n hx hb dX14_listens_15 rfl (lv_at hl 1 rfl) ?_
  obtain ⟨g4, h⟩ := gd_el h
  refine k_iast hx hb hE hP hS (hp_sh hP hF a0 56 ha0) (by decide) rfl rfl g4 dX14_listens_16 (fun w5 H locs e hP hS => ?_)
  have h := sq_at h e
  refine lv_aload_n hx hb dX14_listens_17 rfl (lv_at hl 0 rfl) ?_
  refine k_get (ci := 12) (v := .ref (adr (gB G) 57 a0)) hx hb hts hE inX14 hown hP (hp_sh hP hF a0 55 ha0) (by decide) rfl rfl 5 (by decide) w6_77 rfl rfl dX14_listens_18 ?_
  refine lv_iload_n hx hb dX14_listens_21 rfl (lv_at hl 2 rfl) ?_
  refine lv_dup2_11 hx hb dX14_listens_22 rfl rfl ?_
  obtain ⟨g6, h⟩ := gd_el h
  refine k_iald hx hb hE hP (hp_sh hP hF a0 57 ha0) (by decide) rfl g6 dX14_listens_23 ?_
  refine lv_iconst (v := 1) hx hb dX14_listens_24 (by decide) ?_
  refine lv_iadd hx hb dX14_listens_25 ?_
  obtain ⟨g7, h⟩ := gd_el h
  refine k_iast hx hb hE hP hS (hp_sh hP hF a0 57 ha0) (by decide) rfl rfl g7 dX14_listens_26 (fun w8 H locs e hP hS => ?_)
  have h := sq_at h e
  refine lv_iload_n hx hb dX14_listens_27 rfl (lv_at hl 1 rfl) ?_
  refine lv_bipush (v := 8) hx hb dX14_listens_28 (by decide) ?_
  refine lv_icmp_lt (tgt := 43) hx hb dX14_listens_30 (by decide) (fun cc => ?_) (fun cc => ?_)
  · have h := br_el h cc
    refine lv_aload_n hx hb dX14_listens_43 rfl (lv_at hl 0 rfl) ?_
    refine k_get (ci := 12) (v := .ref (adr (gB G) 57 a0)) hx hb hts hE inX14 hown hP (hp_sh hP hF a0 55 ha0) (by decide) rfl rfl 5 (by decide) w6_77 rfl rfl dX14_listens_44 ?_
    refine lv_iload_n hx hb dX14_listens_47 rfl (lv_at hl 2 rfl) ?_
    obtain ⟨g9, h⟩ := gd_el h
    refine k_iald hx hb hE hP (hp_sh hP hF a0 57 ha0) (by decide) rfl g9 dX14_listens_48 ?_
    refine lv_iconst (v := 1) hx hb dX14_listens_49 (by decide) ?_
    refine lv_isub hx hb dX14_listens_50 ?_
    exact e_i hx hb hr rfl hlocks hP hS (Nat.le_of_ble_eq_true rfl) (Nat.le_of_ble_eq_true rfl) (Prod.mk.inj (so_el h)) dX14_listens_51
  · have h := br_er h cc
    refine lv_aload_n hx hb dX14_listens_33 rfl (lv_at hl 0 rfl) ?_
    refine k_get (ci := 12) (v := .ref (adr (gB G) 61 a0)) hx hb hts hE inX14 hown hP (hp_sh hP hF a0 55 ha0) (by decide) rfl rfl 9 (by decide) w6_85 rfl rfl dX14_listens_34 ?_
    refine lv_iload_n hx hb dX14_listens_37 rfl (lv_at hl 1 rfl) ?_
    refine lv_bipush (v := 8) hx hb dX14_listens_38 (by decide) ?_
    refine lv_isub hx hb dX14_listens_40 ?_
    refine lv_iconst (v := 0) hx hb dX14_listens_41 (by decide) ?_
    obtain ⟨g10, h⟩ := gd_el h
    refine k_iast hx hb hE hP hS (hp_sh hP hF a0 61 ha0) (by decide) rfl rfl g10 dX14_listens_42 (fun w11 H locs e hP hS => ?_)
    have h := sq_at h e
    refine lv_aload_n hx hb dX14_listens_43 rfl (lv_at hl 0 rfl) ?_
    refine k_get (ci := 12) (v := .ref (adr (gB G) 57 a0)) hx hb hts hE inX14 hown hP (hp_sh hP hF a0 55 ha0) (by decide) rfl rfl 5 (by decide) w6_77 rfl rfl dX14_listens_44 ?_
    refine lv_iload_n hx hb dX14_listens_47 rfl (lv_at hl 2 rfl) ?_
    obtain ⟨g12, h⟩ := gd_el h
    refine k_iald hx hb hE hP (hp_sh hP hF a0 57 ha0) (by decide) rfl g12 dX14_listens_48 ?_
    refine lv_iconst (v := 1) hx hb dX14_listens_49 (by decide) ?_
    refine lv_isub hx hb dX14_listens_50 ?_
    exact e_i hx hb hr rfl hlocks hP hS (Nat.le_of_ble_eq_true rfl) (Nat.le_of_ble_eq_true rfl) (Prod.mk.inj (so_el h)) dX14_listens_51

def f_X15_listens (a1 : Int32) (a2 : Int32) (w : Mm) : Option (Int32 × Mm) := bd1 (f_X14_canListen 0 a1 a2 w) (fun r1 w2 => br (r1 = 0) (bd1 (f_X15_no 2 w2) (fun r3 w4 => some (r3, w4))) (bd1 (f_X14_listens 0 a1 a2 w2) (fun r5 w6 => some (r5, w6))))

theorem miX15_listens : MI RX15 yX15_listens cX15_listens 3 (some .int) 2 := ⟨w8_119, (tb_sel 75 rfl rfl), w1_14, w8_120, rfl, by decide +kernel, by decide +kernel, by decide +kernel⟩
set_option maxHeartbeats 4000000 in
set_option maxRecDepth 100000 in
theorem c_X15_listens (l : Launch) (G : GG) (hF : gF G = true) (a1 : Int32) (a2 : Int32) (w : Mm) (r : Int32) (w' : Mm) (h : f_X15_listens a1 a2 w = some (r, w')) : Ki l G yX15_listens cX15_listens 3 (some .int) { frames := 3, cells := 0, slots := 0, locals := 67 } [.ref (adr (gB G) 32 0), .int a1, .int a2] w r w' := by
  refine k_of (by decide +kernel) (Nat.le_of_ble_eq_true rfl) ?_
  intro p e s m args below meth c ls hx hb hml hr hown hlocks hts hin hP hE hl
  have hC : CX p s m args c meth G cX15_listens 3 (some .int) RX15 := ⟨hx, hb, hml, hr, hown, hlocks, hts, hE⟩
  have hS : va_S (Ab G) s.heap s.heap [] := va_S.rf
  have hcs : 0 ≤ 0 ∧ 0 ≤ 0 := ⟨Nat.zero_le _, Nat.zero_le _⟩
  have hl : lv_has ls 3 [(0, .ref (adr (gB G) 32 0)), (1, .int a1), (2, .int a2)] := hl
  unfold f_X15_listens at h
  refine lv_aload_n hx hb dX15_listens_0 rfl (lv_at hl 0 rfl) ?_
  refine k_get (ci := 13) (v := .ref (adr (gB G) 55 0)) hx hb hts hE inX15 hown hP (hp_sh hP hF 0 32 (by decide)) (by decide) rfl rfl 21 (by decide) w6_142 rfl rfl dX15_listens_1 ?_
  refine lv_iload_n hx hb dX15_listens_4 rfl (lv_at hl 1 rfl) ?_
  refine lv_iload_n hx hb dX15_listens_5 rfl (lv_at hl 2 rfl) ?_
  obtain ⟨r1, w2, hf, h⟩ := bd1_el h
  refine c_oni (c_runV (b := adr (gB G) 55 0) (As := [.int a1, .int a2]) (rest := []) hx hb hml hown hts hE hP hS (c_X14_canListen l G hF 0 (by decide) a1 a2 w r1 w2 hf) (c_rec hE hP (hp_sh hP hF 0 55 (by decide)) (by decide) rfl rfl) w8_121 miX14_canListen ⟨Nat.le_of_ble_eq_true rfl, Nat.le_of_ble_eq_true rfl⟩ rfl hl.1 rfl (Nat.le_of_ble_eq_true rfl) dX15_listens_6 hcs) hS (fun H locs hP hS => ?_)
  refine lv_if_eq (tgt := 24) hx hb dX15_listens_9 (by decide) (fun cc => ?_) (fun cc => ?_)
  · have h := br_el h cc
    refine lv_aload_n hx hb dX15_listens_24 rfl (lv_at hl 0 rfl) ?_
    refine lv_iconst (v := 2) hx hb dX15_listens_25 (by decide) ?_
    obtain ⟨r3, w4, hf, h⟩ := bd1_el h
    refine c_oni (c_runV (b := adr (gB G) 32 0) (As := [.int 2]) (rest := []) hx hb hml hown hts hE hP hS (c_X15_no l G hF 2 w2 r3 w4 hf) (c_rec hE hP (hp_sh hP hF 0 32 (by decide)) (by decide) rfl rfl) w6_199 miX15_no ⟨Nat.le_of_ble_eq_true rfl, Nat.le_of_ble_eq_true rfl⟩ rfl hl.1 rfl (Nat.le_of_ble_eq_true rfl) dX15_listens_26 hcs) hS (fun H locs hP hS => ?_)
    exact e_i hx hb hr rfl hlocks hP hS (Nat.le_of_ble_eq_true rfl) (Nat.le_of_ble_eq_true rfl) (Prod.mk.inj (so_el h)) dX15_listens_29
  · have h := br_er h cc
    refine lv_aload_n hx hb dX15_listens_12 rfl (lv_at hl 0 rfl) ?_
    refine k_get (ci := 13) (v := .ref (adr (gB G) 55 0)) hx hb hts hE inX15 hown hP (hp_sh hP hF 0 32 (by decide)) (by decide) rfl rfl 21 (by decide) w6_142 rfl rfl dX15_listens_13 ?_
    refine lv_iload_n hx hb dX15_listens_16 rfl (lv_at hl 1 rfl) ?_
    refine lv_iload_n hx hb dX15_listens_17 rfl (lv_at hl 2 rfl) ?_
    obtain ⟨r5, w6, hf, h⟩ := bd1_el h
    refine c_oni (c_runV (b := adr (gB G) 55 0) (As := [.int a1, .int a2]) (rest := []) hx hb hml hown hts hE hP hS (c_X14_listens l G hF 0 (by decide) a1 a2 w2 r5 w6 hf) (c_rec hE hP (hp_sh hP hF 0 55 (by decide)) (by decide) rfl rfl) w8_125 miX14_listens ⟨Nat.le_of_ble_eq_true rfl, Nat.le_of_ble_eq_true rfl⟩ rfl hl.1 rfl (Nat.le_of_ble_eq_true rfl) dX15_listens_18 hcs) hS (fun H locs hP hS => ?_)
    refine lv_goto (tgt := 29) hx hb dX15_listens_21 (by decide) ?_
    exact e_i hx hb hr rfl hlocks hP hS (Nat.le_of_ble_eq_true rfl) (Nat.le_of_ble_eq_true rfl) (Prod.mk.inj (so_el h)) dX15_listens_29

def f_X14_leaves_L20 (z0 : Nat) (z2 : Int32) : Nat → Int32 → Mm → Option (Mm)
  | 0, _, _ => none
  | n + 1, u4, w => gd (vB z2 8) (br ((gI w 57 z0 z2.toNatClampNeg) ≤ u4) (some w) (bd1 (f_X14_at z0 z2 u4 w) (fun r7 w8 => bd1 (f_X14_at z0 z2 (u4 + 1) w8) (fun r9 w10 => gd (vB r9 128) (gd (vB r7 128) (sq (pI w10 56 z0 r7.toNatClampNeg (gI w10 56 z0 r9.toNatClampNeg)) (fun w13 => sq (u4 + 1) (fun x14 => f_X14_leaves_L20 z0 z2 n x14 w13))))))))

def f_X14_leaves (a0 : Nat) (a1 : Int32) (a2 : Int32) (w : Mm) : Option (Int32 × Mm) := bd1 (f_X14_placeIn a0 a1 a2 w) (fun r1 w2 => gd (vB a2 8) (gd (vB a2 8) (sq (pI w2 57 a0 a2.toNatClampNeg ((gI w2 57 a0 a2.toNatClampNeg) - 1)) (fun w5 => bd0 (f_X14_leaves_L20 a0 a2 LF r1 w5) (fun w15 => gd (vB a2 8) (some (gI w15 57 a0 a2.toNatClampNeg, w15)))))))

theorem miX14_leaves : MI RX14 yX14_leaves cX14_leaves 5 (some .int) 2 := ⟨w8_142, w8_143, w1_16, w8_144, rfl, by decide +kernel, by decide +kernel, by decide +kernel⟩
set_option maxHeartbeats 4000000 in
set_option maxRecDepth 100000 in
theorem l_X14_leaves_20 {p : Program} {l : Launch} {e : Env} {R : Room} {s : State} {m : MethodId} {args : Array Value} {below : List Frame} {meth : Method} {c : Code} {cells slots : Nat} {Q : State → Prop} {G : GG} (hC : CX p s m args c meth G cX14_leaves 5 (some .int) RX14) (hR : R = { frames := 2, cells := 0, slots := 0, locals := 45 }) (hcs : cells ≤ R.cells ∧ slots ≤ R.slots) (hF : gF G = true) (z0 : Nat) (hz0 : z0 < cnt 55) (z2 : Int32) : ∀ (n : Nat) (u4 : Int32) (w : Mm) (w' : Mm), f_X14_leaves_L20 z0 z2 n u4 w = some w' → ∀ (H : Heap) (locs : List Loc) (ls : Array Slot), HP G w H → va_S (Ab G) s.heap H locs → lv_has ls 5 [(0, .ref (adr (gB G) 55 z0)), (2, .int z2), (4, .int u4)] → (∀ (H : Heap) (locs : List Loc) (ls : Array Slot), HP G w' H → va_S (Ab G) s.heap H locs → lv_has ls 5 [(0, .ref (adr (gB G) 55 z0)), (2, .int z2)] → W p l e R s m args below meth c H locs cells slots Q (F0 m 63 ls [])) → W p l e R s m args below meth c H locs cells slots Q (F0 m 20 ls []) := by
  subst hR
  obtain ⟨hx, hb, hml, hr, hown, hlocks, hts, hE⟩ := id hC
  intro n
  induction n with
  | zero =>
    intro u4 w w' h
    rw [f_X14_leaves_L20] at h
    cases h
  | succ n ih =>
    intro u4 w w' h H locs ls hP hS hl k0
    rw [f_X14_leaves_L20] at h
    refine lv_iload hx hb dX14_leaves_20 (lv_at hl 2 rfl) ?_
    refine lv_aload_n hx hb dX14_leaves_22 rfl (lv_at hl 0 rfl) ?_
    refine k_get (ci := 12) (v := .ref (adr (gB G) 57 z0)) hx hb hts hE inX14 hown hP (hp_sh hP hF z0 55 hz0) (by decide) rfl rfl 5 (by decide) w6_77 rfl rfl dX14_leaves_23 ?_
    refine lv_iload_n hx hb dX14_leaves_26 rfl (lv_at hl 1 rfl) ?_
    obtain ⟨g6, h⟩ := gd_el h
    refine k_iald hx hb hE hP (hp_sh hP hF z0 57 hz0) (by decide) rfl g6 dX14_leaves_27 ?_
    refine lv_icmp_ge (tgt := 63) hx hb dX14_leaves_28 (by decide) (fun cc => ?_) (fun cc => ?_)
    · have h := br_el h cc
      cases h
      exact k0 _ _ _ hP hS (lv_sub hl [0, 1] rfl)
    · have h := br_er h cc
      refine lv_aload_n hx hb dX14_leaves_31 rfl (lv_at hl 0 rfl) ?_
      refine k_get (ci := 12) (v := .ref (adr (gB G) 56 z0)) hx hb hts hE inX14 hown hP (hp_sh hP hF z0 55 hz0) (by decide) rfl rfl 4 (by decide) w6_76 rfl rfl dX14_leaves_32 ?_
      refine lv_aload_n hx hb dX14_leaves_35 rfl (lv_at hl 0 rfl) ?_
      refine lv_iload_n hx hb dX14_leaves_36 rfl (lv_at hl 1 rfl) ?_
      refine lv_iload hx hb dX14_leaves_37 (lv_at hl 2 rfl) ?_
      obtain ⟨r7, w8, hf, h⟩ := bd1_el h
      refine c_oni (c_runV (b := adr (gB G) 55 z0) (As := [.int z2, .int u4]) (rest := [.ref (adr (gB G) 56 z0)]) hx hb hml hown hts hE hP hS (c_X14_at l G hF z0 hz0 z2 u4 w r7 w8 hf) (c_rec hE hP (hp_sh hP hF z0 55 hz0) (by decide) rfl rfl) w8_72 miX14_at ⟨Nat.le_of_ble_eq_true rfl, Nat.le_of_ble_eq_true rfl⟩ rfl hl.1 rfl (Nat.le_of_ble_eq_true rfl) dX14_leaves_39 hcs) hS (fun H locs hP hS => ?_)
      refine lv_aload_n hx hb dX14_leaves_42 rfl (lv_at hl 0 rfl) ?_
      refine k_get (ci := 12) (v := .ref (adr (gB G) 56 z0)) hx hb hts hE inX14 hown hP (hp_sh hP hF z0 55 hz0) (by decide) rfl rfl 4 (by decide) w6_76 rfl rfl dX14_leaves_43 ?_
      refine lv_aload_n hx hb dX14_leaves_46 rfl (lv_at hl 0 rfl) ?_
      refine lv_iload_n hx hb dX14_leaves_47 rfl (lv_at hl 1 rfl) ?_
      refine lv_iload hx hb dX14_leaves_48 (lv_at hl 2 rfl) ?_
      refine lv_iconst (v := 1) hx hb dX14_leaves_50 (by decide) ?_
      refine lv_iadd hx hb dX14_leaves_51 ?_
      obtain ⟨r9, w10, hf, h⟩ := bd1_el h
      refine c_oni (c_runV (b := adr (gB G) 55 z0) (As := [.int z2, .int (u4 + 1)]) (rest := [.ref (adr (gB G) 56 z0), .int r7, .ref (adr (gB G) 56 z0)]) hx hb hml hown hts hE hP hS (c_X14_at l G hF z0 hz0 z2 (u4 + 1) w8 r9 w10 hf) (c_rec hE hP (hp_sh hP hF z0 55 hz0) (by decide) rfl rfl) w8_72 miX14_at ⟨Nat.le_of_ble_eq_true rfl, Nat.le_of_ble_eq_true rfl⟩ rfl hl.1 rfl (Nat.le_of_ble_eq_true rfl) dX14_leaves_52 hcs) hS (fun H locs hP hS => ?_)
      obtain ⟨g11, h⟩ := gd_el h
      refine k_iald hx hb hE hP (hp_sh hP hF z0 56 hz0) (by decide) rfl g11 dX14_leaves_55 ?_
      obtain ⟨g12, h⟩ := gd_el h
      refine k_iast hx hb hE hP hS (hp_sh hP hF z0 56 hz0) (by decide) rfl rfl g12 dX14_leaves_56 (fun w13 H locs e hP hS => ?_)
      have h := sq_at h e
      obtain ⟨x14, e⟩ : ∃ z : Int32, z = u4 + 1 := ⟨_, rfl⟩
      have h := sq_at h e
      refine lv_iinc (v := x14) (lv' := [(4, .int x14), (0, .ref (adr (gB G) 55 z0)), (2, .int z2)]) hx hb dX14_leaves_57 hl (k := 2) rfl (by rw [e]; rfl) (by decide) rfl (fun ls hl => ?_)
      refine lv_goto (tgt := 20) hx hb dX14_leaves_60 (by decide) ?_
      exact ih x14 w13 w' h _ _ _ hP hS (lv_sub hl [1, 2, 0] rfl) k0

set_option maxHeartbeats 4000000 in
set_option maxRecDepth 100000 in
theorem c_X14_leaves (l : Launch) (G : GG) (hF : gF G = true) (a0 : Nat) (ha0 : a0 < cnt 55) (a1 : Int32) (a2 : Int32) (w : Mm) (r : Int32) (w' : Mm) (h : f_X14_leaves a0 a1 a2 w = some (r, w')) : Ki l G yX14_leaves cX14_leaves 5 (some .int) { frames := 2, cells := 0, slots := 0, locals := 45 } [.ref (adr (gB G) 55 a0), .int a1, .int a2] w r w' := by
  refine k_of (by decide +kernel) (Nat.le_of_ble_eq_true rfl) ?_
  intro p e s m args below meth c ls hx hb hml hr hown hlocks hts hin hP hE hl
  have hC : CX p s m args c meth G cX14_leaves 5 (some .int) RX14 := ⟨hx, hb, hml, hr, hown, hlocks, hts, hE⟩
  have hS : va_S (Ab G) s.heap s.heap [] := va_S.rf
  have hcs : 0 ≤ 0 ∧ 0 ≤ 0 := ⟨Nat.zero_le _, Nat.zero_le _⟩
  have hl : lv_has ls 5 [(0, .ref (adr (gB G) 55 a0)), (1, .int a1), (2, .int a2)] := hl
  unfold f_X14_leaves at h
  refine lv_aload_n hx hb dX14_leaves_0 rfl (lv_at hl 0 rfl) ?_
  refine lv_iload_n hx hb dX14_leaves_1 rfl (lv_at hl 1 rfl) ?_
  refine lv_iload_n hx hb dX14_leaves_2 rfl (lv_at hl 2 rfl) ?_
  obtain ⟨r1, w2, hf, h⟩ := bd1_el h
  refine c_oni (c_runV (b := adr (gB G) 55 a0) (As := [.int a1, .int a2]) (rest := []) hx hb hml hown hts hE hP hS (c_X14_placeIn l G hF a0 ha0 a1 a2 w r1 w2 hf) (c_rec hE hP (hp_sh hP hF a0 55 ha0) (by decide) rfl rfl) w8_104 miX14_placeIn ⟨Nat.le_of_ble_eq_true rfl, Nat.le_of_ble_eq_true rfl⟩ rfl hl.1 rfl (Nat.le_of_ble_eq_true rfl) dX14_leaves_3 hcs) hS (fun H locs hP hS => ?_)
  refine lv_istore_n (i := 3) (lv' := [(3, .int r1), (0, .ref (adr (gB G) 55 a0)), (1, .int a1), (2, .int a2)]) hx hb dX14_leaves_6 rfl hl (by decide) rfl (fun ls hl => ?_)
  refine lv_aload_n hx hb dX14_leaves_7 rfl (lv_at hl 1 rfl) ?_
  refine k_get (ci := 12) (v := .ref (adr (gB G) 57 a0)) hx hb hts hE inX14 hown hP (hp_sh hP hF a0 55 ha0) (by decide) rfl rfl 5 (by decide) w6_77 rfl rfl dX14_leaves_8 ?_
  refine lv_iload_n hx hb dX14_leaves_11 rfl (lv_at hl 3 rfl) ?_
  refine lv_dup2_11 hx hb dX14_leaves_12 rfl rfl ?_
  obtain ⟨g3, h⟩ := gd_el h
  refine k_iald hx hb hE hP (hp_sh hP hF a0 57 ha0) (by decide) rfl g3 dX14_leaves_13 ?_
  refine lv_iconst (v := 1) hx hb dX14_leaves_14 (by decide) ?_
  refine lv_isub hx hb dX14_leaves_15 ?_
  obtain ⟨g4, h⟩ := gd_el h
  refine k_iast hx hb hE hP hS (hp_sh hP hF a0 57 ha0) (by decide) rfl rfl g4 dX14_leaves_16 (fun w5 H locs e hP hS => ?_)
  have h := sq_at h e
  refine lv_iload_n hx hb dX14_leaves_17 rfl (lv_at hl 0 rfl) ?_
  refine lv_istore (i := 4) (lv' := [(4, .int r1), (3, .int r1), (0, .ref (adr (gB G) 55 a0)), (1, .int a1), (2, .int a2)]) hx hb dX14_leaves_18 hl (by decide) rfl (fun ls hl => ?_)
  obtain ⟨w15, hf, h⟩ := bd0_el h
  refine l_X14_leaves_20 hC rfl hcs hF a0 ha0 a2 LF r1 w5 w15 hf _ _ _ hP hS (lv_sub hl [2, 4, 0] rfl) (fun H locs ls hP hS hl => ?_)
  refine lv_aload_n hx hb dX14_leaves_63 rfl (lv_at hl 0 rfl) ?_
  refine k_get (ci := 12) (v := .ref (adr (gB G) 57 a0)) hx hb hts hE inX14 hown hP (hp_sh hP hF a0 55 ha0) (by decide) rfl rfl 5 (by decide) w6_77 rfl rfl dX14_leaves_64 ?_
  refine lv_iload_n hx hb dX14_leaves_67 rfl (lv_at hl 1 rfl) ?_
  obtain ⟨g16, h⟩ := gd_el h
  refine k_iald hx hb hE hP (hp_sh hP hF a0 57 ha0) (by decide) rfl g16 dX14_leaves_68 ?_
  exact e_i hx hb hr rfl hlocks hP hS (Nat.le_of_ble_eq_true rfl) (Nat.le_of_ble_eq_true rfl) (Prod.mk.inj (so_el h)) dX14_leaves_69

def f_X15_leaves (a1 : Int32) (a2 : Int32) (w : Mm) : Option (Int32 × Mm) := bd1 (f_X14_placeIn 0 a1 a2 w) (fun r1 w2 => br (r1 = (-1)) (bd1 (f_X15_no 2 w2) (fun r5 w6 => some (r5, w6))) (bd1 (f_X14_leaves 0 a1 a2 w2) (fun r3 w4 => some (r3, w4))))

theorem miX15_leaves : MI RX15 yX15_leaves cX15_leaves 3 (some .int) 2 := ⟨w8_139, (tb_sel 76 rfl rfl), w1_14, w8_140, rfl, by decide +kernel, by decide +kernel, by decide +kernel⟩
set_option maxHeartbeats 4000000 in
set_option maxRecDepth 100000 in
theorem c_X15_leaves (l : Launch) (G : GG) (hF : gF G = true) (a1 : Int32) (a2 : Int32) (w : Mm) (r : Int32) (w' : Mm) (h : f_X15_leaves a1 a2 w = some (r, w')) : Ki l G yX15_leaves cX15_leaves 3 (some .int) { frames := 3, cells := 0, slots := 0, locals := 69 } [.ref (adr (gB G) 32 0), .int a1, .int a2] w r w' := by
  refine k_of (by decide +kernel) (Nat.le_of_ble_eq_true rfl) ?_
  intro p e s m args below meth c ls hx hb hml hr hown hlocks hts hin hP hE hl
  have hC : CX p s m args c meth G cX15_leaves 3 (some .int) RX15 := ⟨hx, hb, hml, hr, hown, hlocks, hts, hE⟩
  have hS : va_S (Ab G) s.heap s.heap [] := va_S.rf
  have hcs : 0 ≤ 0 ∧ 0 ≤ 0 := ⟨Nat.zero_le _, Nat.zero_le _⟩
  have hl : lv_has ls 3 [(0, .ref (adr (gB G) 32 0)), (1, .int a1), (2, .int a2)] := hl
  unfold f_X15_leaves at h
  refine lv_aload_n hx hb dX15_leaves_0 rfl (lv_at hl 0 rfl) ?_
  refine k_get (ci := 13) (v := .ref (adr (gB G) 55 0)) hx hb hts hE inX15 hown hP (hp_sh hP hF 0 32 (by decide)) (by decide) rfl rfl 21 (by decide) w6_142 rfl rfl dX15_leaves_1 ?_
  refine lv_iload_n hx hb dX15_leaves_4 rfl (lv_at hl 1 rfl) ?_
  refine lv_iload_n hx hb dX15_leaves_5 rfl (lv_at hl 2 rfl) ?_
  obtain ⟨r1, w2, hf, h⟩ := bd1_el h
  refine c_oni (c_runV (b := adr (gB G) 55 0) (As := [.int a1, .int a2]) (rest := []) hx hb hml hown hts hE hP hS (c_X14_placeIn l G hF 0 (by decide) a1 a2 w r1 w2 hf) (c_rec hE hP (hp_sh hP hF 0 55 (by decide)) (by decide) rfl rfl) w8_68 miX14_placeIn ⟨Nat.le_of_ble_eq_true rfl, Nat.le_of_ble_eq_true rfl⟩ rfl hl.1 rfl (Nat.le_of_ble_eq_true rfl) dX15_leaves_6 hcs) hS (fun H locs hP hS => ?_)
  refine lv_iconst (v := (-1)) hx hb dX15_leaves_9 (by decide) ?_
  refine lv_icmp_ne (tgt := 21) hx hb dX15_leaves_10 (by decide) (fun cc => ?_) (fun cc => ?_)
  · have h := br_er h cc
    refine lv_aload_n hx hb dX15_leaves_21 rfl (lv_at hl 0 rfl) ?_
    refine k_get (ci := 13) (v := .ref (adr (gB G) 55 0)) hx hb hts hE inX15 hown hP (hp_sh hP hF 0 32 (by decide)) (by decide) rfl rfl 21 (by decide) w6_142 rfl rfl dX15_leaves_22 ?_
    refine lv_iload_n hx hb dX15_leaves_25 rfl (lv_at hl 1 rfl) ?_
    refine lv_iload_n hx hb dX15_leaves_26 rfl (lv_at hl 2 rfl) ?_
    obtain ⟨r3, w4, hf, h⟩ := bd1_el h
    refine c_oni (c_runV (b := adr (gB G) 55 0) (As := [.int a1, .int a2]) (rest := []) hx hb hml hown hts hE hP hS (c_X14_leaves l G hF 0 (by decide) a1 a2 w2 r3 w4 hf) (c_rec hE hP (hp_sh hP hF 0 55 (by decide)) (by decide) rfl rfl) w8_141 miX14_leaves ⟨Nat.le_of_ble_eq_true rfl, Nat.le_of_ble_eq_true rfl⟩ rfl hl.1 rfl (Nat.le_of_ble_eq_true rfl) dX15_leaves_27 hcs) hS (fun H locs hP hS => ?_)
    exact e_i hx hb hr rfl hlocks hP hS (Nat.le_of_ble_eq_true rfl) (Nat.le_of_ble_eq_true rfl) (Prod.mk.inj (so_el h)) dX15_leaves_30
  · have h := br_el h cc
    refine lv_aload_n hx hb dX15_leaves_13 rfl (lv_at hl 0 rfl) ?_
    refine lv_iconst (v := 2) hx hb dX15_leaves_14 (by decide) ?_
    obtain ⟨r5, w6, hf, h⟩ := bd1_el h
    refine c_oni (c_runV (b := adr (gB G) 32 0) (As := [.int 2]) (rest := []) hx hb hml hown hts hE hP hS (c_X15_no l G hF 2 w2 r5 w6 hf) (c_rec hE hP (hp_sh hP hF 0 32 (by decide)) (by decide) rfl rfl) w6_199 miX15_no ⟨Nat.le_of_ble_eq_true rfl, Nat.le_of_ble_eq_true rfl⟩ rfl hl.1 rfl (Nat.le_of_ble_eq_true rfl) dX15_leaves_15 hcs) hS (fun H locs hP hS => ?_)
    refine lv_goto (tgt := 30) hx hb dX15_leaves_18 (by decide) ?_
    exact e_i hx hb hr rfl hlocks hP hS (Nat.le_of_ble_eq_true rfl) (Nat.le_of_ble_eq_true rfl) (Prod.mk.inj (so_el h)) dX15_leaves_30

def f_X14_told (a0 : Nat) (a1 : Int32) (a2 : Int32) (w : Mm) : Option (Int32 × Mm) := br (a1 = 10) (some (gI w 55 a0 0, w)) (br (a1 = 11) (some (gI w 55 a0 3, w)) (br (a1 = 12) (some (gI w 55 a0 2, w)) (br (a1 = 13) (gd (vB a2 8) (some (gI w 58 a0 a2.toNatClampNeg, w))) (br (a1 = 14) (gd (vB a2 8) (some (gI w 59 a0 a2.toNatClampNeg, w))) (gd (vB a2 8) (some (gI w 60 a0 a2.toNatClampNeg, w)))))))

theorem miX14_told : MI RX14 yX14_told cX14_told 3 (some .int) 2 := ⟨w8_184, (tb_sel 81 rfl rfl), w1_16, w8_185, rfl, by decide +kernel, by decide +kernel, by decide +kernel⟩
set_option maxHeartbeats 4000000 in
set_option maxRecDepth 100000 in
theorem c_X14_told (l : Launch) (G : GG) (hF : gF G = true) (a0 : Nat) (ha0 : a0 < cnt 55) (a1 : Int32) (a2 : Int32) (w : Mm) (r : Int32) (w' : Mm) (h : f_X14_told a0 a1 a2 w = some (r, w')) : Ki l G yX14_told cX14_told 3 (some .int) { frames := 0, cells := 0, slots := 0, locals := 0 } [.ref (adr (gB G) 55 a0), .int a1, .int a2] w r w' := by
  refine k_of (by decide +kernel) (Nat.le_of_ble_eq_true rfl) ?_
  intro p e s m args below meth c ls hx hb hml hr hown hlocks hts hin hP hE hl
  have hC : CX p s m args c meth G cX14_told 3 (some .int) RX14 := ⟨hx, hb, hml, hr, hown, hlocks, hts, hE⟩
  have hS : va_S (Ab G) s.heap s.heap [] := va_S.rf
  have hcs : 0 ≤ 0 ∧ 0 ≤ 0 := ⟨Nat.zero_le _, Nat.zero_le _⟩
  have hl : lv_has ls 3 [(0, .ref (adr (gB G) 55 a0)), (1, .int a1), (2, .int a2)] := hl
  unfold f_X14_told at h
  refine lv_iload_n hx hb dX14_told_0 rfl (lv_at hl 1 rfl) ?_
  by_cases c0 : a1 = 10
  · have h := br_el h c0
    refine k_tab (tgt := 36) hx hb dX14_told_1 (by decide) (by have cq := c0; (rw [cq]; decide)) ?_
    refine lv_aload_n hx hb dX14_told_36 rfl (lv_at hl 0 rfl) ?_
    refine k_get (ci := 12) (v := .int (gI w 55 a0 0)) hx hb hts hE inX14 hown hP (hp_sh hP hF a0 55 ha0) (by decide) rfl rfl 0 (by decide) w6_68 rfl rfl dX14_told_37 ?_
    exact e_i hx hb hr rfl hlocks hP hS (Nat.le_of_ble_eq_true rfl) (Nat.le_of_ble_eq_true rfl) (Prod.mk.inj (so_el h)) dX14_told_40
  · have h := br_er h c0
    by_cases c1 : a1 = 11
    · have h := br_el h c1
      refine k_tab (tgt := 41) hx hb dX14_told_1 (by decide) (by have cq := c1; (rw [cq]; decide)) ?_
      refine lv_aload_n hx hb dX14_told_41 rfl (lv_at hl 0 rfl) ?_
      refine k_get (ci := 12) (v := .int (gI w 55 a0 3)) hx hb hts hE inX14 hown hP (hp_sh hP hF a0 55 ha0) (by decide) rfl rfl 3 (by decide) w6_74 rfl rfl dX14_told_42 ?_
      exact e_i hx hb hr rfl hlocks hP hS (Nat.le_of_ble_eq_true rfl) (Nat.le_of_ble_eq_true rfl) (Prod.mk.inj (so_el h)) dX14_told_45
    · have h := br_er h c1
      by_cases c2 : a1 = 12
      · have h := br_el h c2
        refine k_tab (tgt := 46) hx hb dX14_told_1 (by decide) (by have cq := c2; (rw [cq]; decide)) ?_
        refine lv_aload_n hx hb dX14_told_46 rfl (lv_at hl 0 rfl) ?_
        refine k_get (ci := 12) (v := .int (gI w 55 a0 2)) hx hb hts hE inX14 hown hP (hp_sh hP hF a0 55 ha0) (by decide) rfl rfl 2 (by decide) w6_72 rfl rfl dX14_told_47 ?_
        exact e_i hx hb hr rfl hlocks hP hS (Nat.le_of_ble_eq_true rfl) (Nat.le_of_ble_eq_true rfl) (Prod.mk.inj (so_el h)) dX14_told_50
      · have h := br_er h c2
        by_cases c3 : a1 = 13
        · have h := br_el h c3
          refine k_tab (tgt := 51) hx hb dX14_told_1 (by decide) (by have cq := c3; (rw [cq]; decide)) ?_
          refine lv_aload_n hx hb dX14_told_51 rfl (lv_at hl 0 rfl) ?_
          refine k_get (ci := 12) (v := .ref (adr (gB G) 58 a0)) hx hb hts hE inX14 hown hP (hp_sh hP hF a0 55 ha0) (by decide) rfl rfl 6 (by decide) w6_79 rfl rfl dX14_told_52 ?_
          refine lv_iload_n hx hb dX14_told_55 rfl (lv_at hl 2 rfl) ?_
          obtain ⟨g1, h⟩ := gd_el h
          refine k_iald hx hb hE hP (hp_sh hP hF a0 58 ha0) (by decide) rfl g1 dX14_told_56 ?_
          exact e_i hx hb hr rfl hlocks hP hS (Nat.le_of_ble_eq_true rfl) (Nat.le_of_ble_eq_true rfl) (Prod.mk.inj (so_el h)) dX14_told_57
        · have h := br_er h c3
          by_cases c4 : a1 = 14
          · have h := br_el h c4
            refine k_tab (tgt := 58) hx hb dX14_told_1 (by decide) (by have cq := c4; (rw [cq]; decide)) ?_
            refine lv_aload_n hx hb dX14_told_58 rfl (lv_at hl 0 rfl) ?_
            refine k_get (ci := 12) (v := .ref (adr (gB G) 59 a0)) hx hb hts hE inX14 hown hP (hp_sh hP hF a0 55 ha0) (by decide) rfl rfl 7 (by decide) w6_81 rfl rfl dX14_told_59 ?_
            refine lv_iload_n hx hb dX14_told_62 rfl (lv_at hl 2 rfl) ?_
            obtain ⟨g2, h⟩ := gd_el h
            refine k_iald hx hb hE hP (hp_sh hP hF a0 59 ha0) (by decide) rfl g2 dX14_told_63 ?_
            exact e_i hx hb hr rfl hlocks hP hS (Nat.le_of_ble_eq_true rfl) (Nat.le_of_ble_eq_true rfl) (Prod.mk.inj (so_el h)) dX14_told_64
          · have h := br_er h c4
            refine k_tabD (vs := [10, 11, 12, 13, 14]) (tgt := 65) hx hb dX14_told_1 (by decide) (by decide) (by decide) (fun q0 => ( fun q => Or.elim q (fun q => c0 (q)) (fun q => Or.elim q (fun q => c1 (q)) (fun q => Or.elim q (fun q => c2 (q)) (fun q => Or.elim q (fun q => c3 (q)) (fun q => c4 (q)))))) (by simpa only [List.mem_cons, List.not_mem_nil, or_false] using q0)) ?_
            refine lv_aload_n hx hb dX14_told_65 rfl (lv_at hl 0 rfl) ?_
            refine k_get (ci := 12) (v := .ref (adr (gB G) 60 a0)) hx hb hts hE inX14 hown hP (hp_sh hP hF a0 55 ha0) (by decide) rfl rfl 8 (by decide) w6_83 rfl rfl dX14_told_66 ?_
            refine lv_iload_n hx hb dX14_told_69 rfl (lv_at hl 2 rfl) ?_
            obtain ⟨g3, h⟩ := gd_el h
            refine k_iald hx hb hE hP (hp_sh hP hF a0 60 ha0) (by decide) rfl g3 dX14_told_70 ?_
            exact e_i hx hb hr rfl hlocks hP hS (Nat.le_of_ble_eq_true rfl) (Nat.le_of_ble_eq_true rfl) (Prod.mk.inj (so_el h)) dX14_told_71
