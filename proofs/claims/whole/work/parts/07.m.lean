def f_X3_listenerAt (a0 : Nat) (a1 : Int32) (w : Mm) : Option (Int32 × Mm) := br (a1 < 0) (some ((-1), w)) (br (a1 < 16) (gd (vB a1 16) (some (gI w 23 a0 a1.toNatClampNeg, w))) (some ((-1), w)))

theorem miX3_listenerAt : MI RX3 yX3_listenerAt cX3_listenerAt 2 (some .int) 1 := ⟨w4_100, w4_101, w1_10, w4_102, rfl, by decide +kernel, by decide +kernel, by decide +kernel⟩
set_option maxHeartbeats 4000000 in
set_option maxRecDepth 100000 in
theorem c_X3_listenerAt (l : Launch) (G : GG) (hF : gF G = true) (a0 : Nat) (ha0 : a0 < cnt 22) (a1 : Int32) (w : Mm) (r : Int32) (w' : Mm) (h : f_X3_listenerAt a0 a1 w = some (r, w')) : Ki l G yX3_listenerAt cX3_listenerAt 2 (some .int) { frames := 0, cells := 0, slots := 0, locals := 0 } [.ref (adr (gB G) 22 a0), .int a1] w r w' := by
  refine k_of (by decide +kernel) (Nat.le_of_ble_eq_true rfl) ?_
  intro p e s m args below meth c ls hx hb hml hr hown hlocks hts hin hP hE hl
  have hC : CX p s m args c meth G cX3_listenerAt 2 (some .int) RX3 := ⟨hx, hb, hml, hr, hown, hlocks, hts, hE⟩
  have hS : va_S (Ab G) s.heap s.heap [] := va_S.rf
  have hl : lv_has ls 2 [(0, .ref (adr (gB G) 22 a0)), (1, .int a1)] := hl
  unfold f_X3_listenerAt at h
  refine lv_iload_n hx hb dX3_listenerAt_0 rfl (lv_at hl 1 rfl) ?_
  refine lv_if_lt (tgt := 13) hx hb dX3_listenerAt_1 (by decide) (fun cc => ?_) (fun cc => ?_)
  · have h := br_el h cc
    refine lv_iconst (v := (-1)) hx hb dX3_listenerAt_13 (by decide) ?_
    refine lv_goto (tgt := 23) hx hb dX3_listenerAt_14 (by decide) ?_
    exact e_i hx hb hr rfl hlocks hP hS (Nat.le_of_ble_eq_true rfl) (Nat.le_of_ble_eq_true rfl) (Prod.mk.inj (so_el h)) dX3_listenerAt_23
  · have h := br_er h cc
    refine lv_iload_n hx hb dX3_listenerAt_4 rfl (lv_at hl 1 rfl) ?_
    refine lv_aload_n hx hb dX3_listenerAt_5 rfl (lv_at hl 0 rfl) ?_
    refine k_get (ci := 2) (v := .ref (adr (gB G) 23 a0)) hx hb hts hE inX3 hown hP (hp_sh hP hF a0 22 ha0) (by decide) rfl rfl 4 (by decide) w1_181 rfl rfl dX3_listenerAt_6 ?_
    refine k_alen (v := 16) hx hb hE hP (hp_sh hP hF a0 23 ha0) (by decide) rfl 0 rfl rfl dX3_listenerAt_9 ?_
    refine lv_icmp_lt (tgt := 17) hx hb dX3_listenerAt_10 (by decide) (fun cc => ?_) (fun cc => ?_)
    · have h := br_el h cc
      refine lv_aload_n hx hb dX3_listenerAt_17 rfl (lv_at hl 0 rfl) ?_
      refine k_get (ci := 2) (v := .ref (adr (gB G) 23 a0)) hx hb hts hE inX3 hown hP (hp_sh hP hF a0 22 ha0) (by decide) rfl rfl 4 (by decide) w1_181 rfl rfl dX3_listenerAt_18 ?_
      refine lv_iload_n hx hb dX3_listenerAt_21 rfl (lv_at hl 1 rfl) ?_
      obtain ⟨g1, h⟩ := gd_el h
      refine k_iald hx hb hE hP (hp_sh hP hF a0 23 ha0) (by decide) rfl g1 dX3_listenerAt_22 ?_
      exact e_i hx hb hr rfl hlocks hP hS (Nat.le_of_ble_eq_true rfl) (Nat.le_of_ble_eq_true rfl) (Prod.mk.inj (so_el h)) dX3_listenerAt_23
    · have h := br_er h cc
      refine lv_iconst (v := (-1)) hx hb dX3_listenerAt_13 (by decide) ?_
      refine lv_goto (tgt := 23) hx hb dX3_listenerAt_14 (by decide) ?_
      exact e_i hx hb hr rfl hlocks hP hS (Nat.le_of_ble_eq_true rfl) (Nat.le_of_ble_eq_true rfl) (Prod.mk.inj (so_el h)) dX3_listenerAt_23

def f_X3_placeOf_L2 (z0 : Nat) (z1 : Int32) : Nat → Int32 → Mm → Option (Nat × Int32 × Mm)
  | 0, _, _ => none
  | n + 1, u2, w => br ((gI w 22 z0 3) ≤ u2) (some ((1 : Nat), u2, w)) (br (16 ≤ u2) (some ((1 : Nat), u2, w)) (gd (vB u2 16) (br ((gI w 23 z0 u2.toNatClampNeg) = z1) (some ((0 : Nat), u2, w)) (sq (u2 + 1) (fun x2 => f_X3_placeOf_L2 z0 z1 n x2 w)))))

def f_X3_placeOf (a0 : Nat) (a1 : Int32) (w : Mm) : Option (Int32 × Mm) := bd2 (f_X3_placeOf_L2 a0 a1 LF 0 w) (fun t5 y3 w4 => br (t5 = 0) (some (y3, w4)) (some ((-1), w4)))

theorem miX3_placeOf : MI RX3 yX3_placeOf cX3_placeOf 3 (some .int) 1 := ⟨w4_117, w4_118, w1_10, w4_119, rfl, by decide +kernel, by decide +kernel, by decide +kernel⟩
set_option maxHeartbeats 4000000 in
set_option maxRecDepth 100000 in
theorem l_X3_placeOf_2 {p : Program} {l : Launch} {e : Env} {R : Room} {s : State} {m : MethodId} {args : Array Value} {below : List Frame} {meth : Method} {c : Code} {cells slots : Nat} {Q : State → Prop} {G : GG} (hC : CX p s m args c meth G cX3_placeOf 3 (some .int) RX3) (hR : R = { frames := 0, cells := 0, slots := 0, locals := 0 }) (hF : gF G = true) (z0 : Nat) (hz0 : z0 < cnt 22) (z1 : Int32) : ∀ (n : Nat) (u2 : Int32) (w : Mm) (t : Nat) (v2 : Int32) (w' : Mm), f_X3_placeOf_L2 z0 z1 n u2 w = some (t, v2, w') → ∀ (H : Heap) (locs : List Loc) (ls : Array Slot), HP G w H → va_S (Ab G) s.heap H locs → lv_has ls 3 [(0, .ref (adr (gB G) 22 z0)), (1, .int z1), (2, .int u2)] → (t = 0 → ∀ (H : Heap) (locs : List Loc) (ls : Array Slot), HP G w' H → va_S (Ab G) s.heap H locs → lv_has ls 3 [(2, .int v2)] → W p l e R s m args below meth c H locs cells slots Q (F0 m 29 ls [])) → (t = 1 → ∀ (H : Heap) (locs : List Loc) (ls : Array Slot), HP G w' H → va_S (Ab G) s.heap H locs → lv_has ls 3 [] → W p l e R s m args below meth c H locs cells slots Q (F0 m 37 ls [])) → W p l e R s m args below meth c H locs cells slots Q (F0 m 2 ls []) := by
  subst hR
  obtain ⟨hx, hb, hml, hr, hown, hlocks, hts, hE⟩ := id hC
  intro n
  induction n with
  | zero =>
    intro u2 w t v2 w' h
    rw [f_X3_placeOf_L2] at h
    cases h
  | succ n ih =>
    intro u2 w t v2 w' h H locs ls hP hS hl k0 k1
    rw [f_X3_placeOf_L2] at h
    refine lv_iload_n hx hb dX3_placeOf_2 rfl (lv_at hl 2 rfl) ?_
    refine lv_aload_n hx hb dX3_placeOf_3 rfl (lv_at hl 0 rfl) ?_
    refine k_get (ci := 2) (v := .int (gI w 22 z0 3)) hx hb hts hE inX3 hown hP (hp_sh hP hF z0 22 hz0) (by decide) rfl rfl 3 (by decide) w1_178 rfl rfl dX3_placeOf_4 ?_
    refine lv_icmp_ge (tgt := 37) hx hb dX3_placeOf_7 (by decide) (fun cc => ?_) (fun cc => ?_)
    · have h := br_el h cc
      cases h
      exact k1 rfl _ _ _ hP hS (lv_sub hl [] rfl)
    · have h := br_er h cc
      refine lv_iload_n hx hb dX3_placeOf_10 rfl (lv_at hl 2 rfl) ?_
      refine lv_aload_n hx hb dX3_placeOf_11 rfl (lv_at hl 0 rfl) ?_
      refine k_get (ci := 2) (v := .ref (adr (gB G) 23 z0)) hx hb hts hE inX3 hown hP (hp_sh hP hF z0 22 hz0) (by decide) rfl rfl 4 (by decide) w1_181 rfl rfl dX3_placeOf_12 ?_
      refine k_alen (v := 16) hx hb hE hP (hp_sh hP hF z0 23 hz0) (by decide) rfl 0 rfl rfl dX3_placeOf_15 ?_
      refine lv_icmp_ge (tgt := 37) hx hb dX3_placeOf_16 (by decide) (fun cc => ?_) (fun cc => ?_)
      · have h := br_el h cc
        cases h
        exact k1 rfl _ _ _ hP hS (lv_sub hl [] rfl)
      · have h := br_er h cc
        refine lv_aload_n hx hb dX3_placeOf_19 rfl (lv_at hl 0 rfl) ?_
        refine k_get (ci := 2) (v := .ref (adr (gB G) 23 z0)) hx hb hts hE inX3 hown hP (hp_sh hP hF z0 22 hz0) (by decide) rfl rfl 4 (by decide) w1_181 rfl rfl dX3_placeOf_20 ?_
        refine lv_iload_n hx hb dX3_placeOf_23 rfl (lv_at hl 2 rfl) ?_
        obtain ⟨g1, h⟩ := gd_el h
        refine k_iald hx hb hE hP (hp_sh hP hF z0 23 hz0) (by decide) rfl g1 dX3_placeOf_24 ?_
        refine lv_iload_n hx hb dX3_placeOf_25 rfl (lv_at hl 1 rfl) ?_
        refine lv_icmp_ne (tgt := 31) hx hb dX3_placeOf_26 (by decide) (fun cc => ?_) (fun cc => ?_)
        · have h := br_er h cc
          obtain ⟨x2, e⟩ : ∃ z : Int32, z = u2 + 1 := ⟨_, rfl⟩
          have h := sq_at h e
          refine lv_iinc (v := x2) (lv' := [(2, .int x2), (0, .ref (adr (gB G) 22 z0)), (1, .int z1)]) hx hb dX3_placeOf_31 hl (k := 2) rfl (by rw [e]; rfl) (by decide) rfl (fun ls hl => ?_)
          refine lv_goto (tgt := 2) hx hb dX3_placeOf_34 (by decide) ?_
          exact ih x2 w t v2 w' h _ _ _ hP hS (lv_sub hl [1, 2, 0] rfl) k0 k1
        · have h := br_el h cc
          cases h
          exact k0 rfl _ _ _ hP hS (lv_sub hl [2] rfl)

set_option maxHeartbeats 4000000 in
set_option maxRecDepth 100000 in
theorem c_X3_placeOf (l : Launch) (G : GG) (hF : gF G = true) (a0 : Nat) (ha0 : a0 < cnt 22) (a1 : Int32) (w : Mm) (r : Int32) (w' : Mm) (h : f_X3_placeOf a0 a1 w = some (r, w')) : Ki l G yX3_placeOf cX3_placeOf 3 (some .int) { frames := 0, cells := 0, slots := 0, locals := 0 } [.ref (adr (gB G) 22 a0), .int a1] w r w' := by
  refine k_of (by decide +kernel) (Nat.le_of_ble_eq_true rfl) ?_
  intro p e s m args below meth c ls hx hb hml hr hown hlocks hts hin hP hE hl
  have hC : CX p s m args c meth G cX3_placeOf 3 (some .int) RX3 := ⟨hx, hb, hml, hr, hown, hlocks, hts, hE⟩
  have hS : va_S (Ab G) s.heap s.heap [] := va_S.rf
  have hl : lv_has ls 3 [(0, .ref (adr (gB G) 22 a0)), (1, .int a1)] := hl
  unfold f_X3_placeOf at h
  refine lv_iconst (v := 0) hx hb dX3_placeOf_0 (by decide) ?_
  refine lv_istore_n (lv' := [(2, .int 0), (0, .ref (adr (gB G) 22 a0)), (1, .int a1)]) hx hb dX3_placeOf_1 rfl hl (by decide) rfl (fun ls hl => ?_)
  obtain ⟨t5, y3, w4, hf, h⟩ := bd2_el h
  refine l_X3_placeOf_2 hC rfl hF a0 ha0 a1 LF 0 w t5 y3 w4 hf _ _ _ hP hS (lv_sub hl [1, 2, 0] rfl) (fun ht H locs ls hP hS hl => ?_) (fun ht H locs ls hP hS hl => ?_)
  · have h := br_el h ht
    refine lv_iload_n hx hb dX3_placeOf_29 rfl (lv_at hl 0 rfl) ?_
    exact e_i hx hb hr rfl hlocks hP hS (Nat.le_of_ble_eq_true rfl) (Nat.le_of_ble_eq_true rfl) (Prod.mk.inj (so_el h)) dX3_placeOf_30
  · have h := br_er h (by rw [ht]; decide)
    refine lv_iconst (v := (-1)) hx hb dX3_placeOf_37 (by decide) ?_
    exact e_i hx hb hr rfl hlocks hP hS (Nat.le_of_ble_eq_true rfl) (Nat.le_of_ble_eq_true rfl) (Prod.mk.inj (so_el h)) dX3_placeOf_38

def f_X3_add (a0 : Nat) (a1 : Int32) (w : Mm) : Option (Mm) := br ((gI w 22 a0 3) < 0) (some w) (br (16 ≤ (gI w 22 a0 3)) (some w) (gd (vB (gI w 22 a0 3) 16) (sq (pI w 23 a0 (gI w 22 a0 3).toNatClampNeg a1) (fun w2 => sq (pI w2 22 a0 3 ((gI w2 22 a0 3) + 1)) (fun w3 => some w3)))))

theorem miX3_add : MI RX3 yX3_add cX3_add 2 none 1 := ⟨w5_56, w5_57, w1_10, w5_58, rfl, by decide +kernel, by decide +kernel, by decide +kernel⟩
set_option maxHeartbeats 4000000 in
set_option maxRecDepth 100000 in
theorem c_X3_add (l : Launch) (G : GG) (hF : gF G = true) (a0 : Nat) (ha0 : a0 < cnt 22) (a1 : Int32) (w : Mm) (w' : Mm) (h : f_X3_add a0 a1 w = some w') : Kv l G yX3_add cX3_add 2 none { frames := 0, cells := 0, slots := 0, locals := 0 } [.ref (adr (gB G) 22 a0), .int a1] w w' := by
  refine k_of (by decide +kernel) (Nat.le_of_ble_eq_true rfl) ?_
  intro p e s m args below meth c ls hx hb hml hr hown hlocks hts hin hP hE hl
  have hC : CX p s m args c meth G cX3_add 2 none RX3 := ⟨hx, hb, hml, hr, hown, hlocks, hts, hE⟩
  have hS : va_S (Ab G) s.heap s.heap [] := va_S.rf
  have hl : lv_has ls 2 [(0, .ref (adr (gB G) 22 a0)), (1, .int a1)] := hl
  unfold f_X3_add at h
  refine lv_aload_n hx hb dX3_add_0 rfl (lv_at hl 0 rfl) ?_
  refine k_get (ci := 2) (v := .int (gI w 22 a0 3)) hx hb hts hE inX3 hown hP (hp_sh hP hF a0 22 ha0) (by decide) rfl rfl 3 (by decide) w1_178 rfl rfl dX3_add_1 ?_
  refine lv_if_lt (tgt := 39) hx hb dX3_add_4 (by decide) (fun cc => ?_) (fun cc => ?_)
  · have h := br_el h cc
    exact e_v hx hb hr hlocks hP hS (Nat.le_of_ble_eq_true rfl) (Nat.le_of_ble_eq_true rfl) (so_el h) dX3_add_39
  · have h := br_er h cc
    refine lv_aload_n hx hb dX3_add_7 rfl (lv_at hl 0 rfl) ?_
    refine k_get (ci := 2) (v := .int (gI w 22 a0 3)) hx hb hts hE inX3 hown hP (hp_sh hP hF a0 22 ha0) (by decide) rfl rfl 3 (by decide) w1_178 rfl rfl dX3_add_8 ?_
    refine lv_aload_n hx hb dX3_add_11 rfl (lv_at hl 0 rfl) ?_
    refine k_get (ci := 2) (v := .ref (adr (gB G) 23 a0)) hx hb hts hE inX3 hown hP (hp_sh hP hF a0 22 ha0) (by decide) rfl rfl 4 (by decide) w1_181 rfl rfl dX3_add_12 ?_
    refine k_alen (v := 16) hx hb hE hP (hp_sh hP hF a0 23 ha0) (by decide) rfl 0 rfl rfl dX3_add_15 ?_
    refine lv_icmp_ge (tgt := 39) hx hb dX3_add_16 (by decide) (fun cc => ?_) (fun cc => ?_)
    · have h := br_el h cc
      exact e_v hx hb hr hlocks hP hS (Nat.le_of_ble_eq_true rfl) (Nat.le_of_ble_eq_true rfl) (so_el h) dX3_add_39
    · have h := br_er h cc
      refine lv_aload_n hx hb dX3_add_19 rfl (lv_at hl 0 rfl) ?_
      refine k_get (ci := 2) (v := .ref (adr (gB G) 23 a0)) hx hb hts hE inX3 hown hP (hp_sh hP hF a0 22 ha0) (by decide) rfl rfl 4 (by decide) w1_181 rfl rfl dX3_add_20 ?_
      refine lv_aload_n hx hb dX3_add_23 rfl (lv_at hl 0 rfl) ?_
      refine k_get (ci := 2) (v := .int (gI w 22 a0 3)) hx hb hts hE inX3 hown hP (hp_sh hP hF a0 22 ha0) (by decide) rfl rfl 3 (by decide) w1_178 rfl rfl dX3_add_24 ?_
      refine lv_iload_n hx hb dX3_add_27 rfl (lv_at hl 1 rfl) ?_
      obtain ⟨g1, h⟩ := gd_el h
      refine k_iast hx hb hE hP hS (hp_sh hP hF a0 23 ha0) (by decide) rfl rfl g1 dX3_add_28 (fun w2 H locs e hP hS => ?_)
      have h := sq_at h e
      refine lv_aload_n hx hb dX3_add_29 rfl (lv_at hl 0 rfl) ?_
      refine lv_dup hx hb dX3_add_30 rfl ?_
      refine k_get (ci := 2) (v := .int (gI w2 22 a0 3)) hx hb hts hE inX3 hown hP (hp_sh hP hF a0 22 ha0) (by decide) rfl rfl 3 (by decide) w1_178 rfl rfl dX3_add_31 ?_
      refine lv_iconst (v := 1) hx hb dX3_add_34 (by decide) ?_
      refine lv_iadd hx hb dX3_add_35 ?_
      refine k_put (ci := 2) (ty := .int) (v := .int ((gI w2 22 a0 3) + 1)) (w1 := pI w2 22 a0 3 ((gI w2 22 a0 3) + 1)) hx hb hts hE inX3 tyX3 tyX3_ok nmX3 hown hP hS (hp_sh hP hF a0 22 ha0) (by decide) rfl rfl 3 (by decide) w1_178 rfl rfl rfl rfl rfl (Nat.le_of_ble_eq_true rfl) loc_pI (wce_pI.trans rfl) dX3_add_36 (fun w3 H locs e hP hS => ?_)
      have h := sq_at h e
      exact e_v hx hb hr hlocks hP hS (Nat.le_of_ble_eq_true rfl) (Nat.le_of_ble_eq_true rfl) (so_el h) dX3_add_39

def f_X3_removeAt_L15 (z0 : Nat) : Nat → Int32 → Mm → Option (Mm)
  | 0, _, _ => none
  | n + 1, u2, w => br (((gI w 22 z0 3) - 1) ≤ u2) (some w) (br ((16 - 1) ≤ u2) (some w) (gd (vB (u2 + 1) 16) (gd (vB u2 16) (sq (pI w 23 z0 u2.toNatClampNeg (gI w 23 z0 (u2 + 1).toNatClampNeg)) (fun w3 => sq (u2 + 1) (fun x4 => f_X3_removeAt_L15 z0 n x4 w3))))))

def f_X3_removeAt (a0 : Nat) (a1 : Int32) (w : Mm) : Option (Mm) := br (a1 < 0) (some w) (br (a1 < (gI w 22 a0 3)) (bd0 (f_X3_removeAt_L15 a0 LF a1 w) (fun w5 => sq (pI w5 22 a0 3 ((gI w5 22 a0 3) - 1)) (fun w6 => some w6))) (some w))

theorem miX3_removeAt : MI RX3 yX3_removeAt cX3_removeAt 3 none 1 := ⟨w4_121, w4_122, w1_10, w4_123, rfl, by decide +kernel, by decide +kernel, by decide +kernel⟩
set_option maxHeartbeats 4000000 in
set_option maxRecDepth 100000 in
theorem l_X3_removeAt_15 {p : Program} {l : Launch} {e : Env} {R : Room} {s : State} {m : MethodId} {args : Array Value} {below : List Frame} {meth : Method} {c : Code} {cells slots : Nat} {Q : State → Prop} {G : GG} (hC : CX p s m args c meth G cX3_removeAt 3 none RX3) (hR : R = { frames := 0, cells := 0, slots := 0, locals := 0 }) (hF : gF G = true) (z0 : Nat) (hz0 : z0 < cnt 22) : ∀ (n : Nat) (u2 : Int32) (w : Mm) (w' : Mm), f_X3_removeAt_L15 z0 n u2 w = some w' → ∀ (H : Heap) (locs : List Loc) (ls : Array Slot), HP G w H → va_S (Ab G) s.heap H locs → lv_has ls 3 [(0, .ref (adr (gB G) 22 z0)), (2, .int u2)] → (∀ (H : Heap) (locs : List Loc) (ls : Array Slot), HP G w' H → va_S (Ab G) s.heap H locs → lv_has ls 3 [(0, .ref (adr (gB G) 22 z0))] → W p l e R s m args below meth c H locs cells slots Q (F0 m 56 ls [])) → W p l e R s m args below meth c H locs cells slots Q (F0 m 15 ls []) := by
  subst hR
  obtain ⟨hx, hb, hml, hr, hown, hlocks, hts, hE⟩ := id hC
  intro n
  induction n with
  | zero =>
    intro u2 w w' h
    rw [f_X3_removeAt_L15] at h
    cases h
  | succ n ih =>
    intro u2 w w' h H locs ls hP hS hl k0
    rw [f_X3_removeAt_L15] at h
    refine lv_iload_n hx hb dX3_removeAt_15 rfl (lv_at hl 1 rfl) ?_
    refine lv_aload_n hx hb dX3_removeAt_16 rfl (lv_at hl 0 rfl) ?_
    refine k_get (ci := 2) (v := .int (gI w 22 z0 3)) hx hb hts hE inX3 hown hP (hp_sh hP hF z0 22 hz0) (by decide) rfl rfl 3 (by decide) w1_178 rfl rfl dX3_removeAt_17 ?_
    refine lv_iconst (v := 1) hx hb dX3_removeAt_20 (by decide) ?_
    refine lv_isub hx hb dX3_removeAt_21 ?_
    refine lv_icmp_ge (tgt := 56) hx hb dX3_removeAt_22 (by decide) (fun cc => ?_) (fun cc => ?_)
    · have h := br_el h cc
      cases h
      exact k0 _ _ _ hP hS (lv_sub hl [0] rfl)
    · have h := br_er h cc
      refine lv_iload_n hx hb dX3_removeAt_25 rfl (lv_at hl 1 rfl) ?_
      refine lv_aload_n hx hb dX3_removeAt_26 rfl (lv_at hl 0 rfl) ?_
      refine k_get (ci := 2) (v := .ref (adr (gB G) 23 z0)) hx hb hts hE inX3 hown hP (hp_sh hP hF z0 22 hz0) (by decide) rfl rfl 4 (by decide) w1_181 rfl rfl dX3_removeAt_27 ?_
      refine k_alen (v := 16) hx hb hE hP (hp_sh hP hF z0 23 hz0) (by decide) rfl 0 rfl rfl dX3_removeAt_30 ?_
      refine lv_iconst (v := 1) hx hb dX3_removeAt_31 (by decide) ?_
      refine lv_isub hx hb dX3_removeAt_32 ?_
      refine lv_icmp_ge (tgt := 56) hx hb dX3_removeAt_33 (by decide) (fun cc => ?_) (fun cc => ?_)
      · have h := br_el h cc
        cases h
        exact k0 _ _ _ hP hS (lv_sub hl [0] rfl)
      · have h := br_er h cc
        refine lv_aload_n hx hb dX3_removeAt_36 rfl (lv_at hl 0 rfl) ?_
        refine k_get (ci := 2) (v := .ref (adr (gB G) 23 z0)) hx hb hts hE inX3 hown hP (hp_sh hP hF z0 22 hz0) (by decide) rfl rfl 4 (by decide) w1_181 rfl rfl dX3_removeAt_37 ?_
        refine lv_iload_n hx hb dX3_removeAt_40 rfl (lv_at hl 1 rfl) ?_
        refine lv_aload_n hx hb dX3_removeAt_41 rfl (lv_at hl 0 rfl) ?_
        refine k_get (ci := 2) (v := .ref (adr (gB G) 23 z0)) hx hb hts hE inX3 hown hP (hp_sh hP hF z0 22 hz0) (by decide) rfl rfl 4 (by decide) w1_181 rfl rfl dX3_removeAt_42 ?_
        refine lv_iload_n hx hb dX3_removeAt_45 rfl (lv_at hl 1 rfl) ?_
        refine lv_iconst (v := 1) hx hb dX3_removeAt_46 (by decide) ?_
        refine lv_iadd hx hb dX3_removeAt_47 ?_
        obtain ⟨g1, h⟩ := gd_el h
        refine k_iald hx hb hE hP (hp_sh hP hF z0 23 hz0) (by decide) rfl g1 dX3_removeAt_48 ?_
        obtain ⟨g2, h⟩ := gd_el h
        refine k_iast hx hb hE hP hS (hp_sh hP hF z0 23 hz0) (by decide) rfl rfl g2 dX3_removeAt_49 (fun w3 H locs e hP hS => ?_)
        have h := sq_at h e
        obtain ⟨x4, e⟩ : ∃ z : Int32, z = u2 + 1 := ⟨_, rfl⟩
        have h := sq_at h e
        refine lv_iinc (v := x4) (lv' := [(2, .int x4), (0, .ref (adr (gB G) 22 z0))]) hx hb dX3_removeAt_50 hl (k := 1) rfl (by rw [e]; rfl) (by decide) rfl (fun ls hl => ?_)
        refine lv_goto (tgt := 15) hx hb dX3_removeAt_53 (by decide) ?_
        exact ih x4 w3 w' h _ _ _ hP hS (lv_sub hl [1, 0] rfl) k0

set_option maxHeartbeats 4000000 in
set_option maxRecDepth 100000 in
theorem c_X3_removeAt (l : Launch) (G : GG) (hF : gF G = true) (a0 : Nat) (ha0 : a0 < cnt 22) (a1 : Int32) (w : Mm) (w' : Mm) (h : f_X3_removeAt a0 a1 w = some w') : Kv l G yX3_removeAt cX3_removeAt 3 none { frames := 0, cells := 0, slots := 0, locals := 0 } [.ref (adr (gB G) 22 a0), .int a1] w w' := by
  refine k_of (by decide +kernel) (Nat.le_of_ble_eq_true rfl) ?_
  intro p e s m args below meth c ls hx hb hml hr hown hlocks hts hin hP hE hl
  have hC : CX p s m args c meth G cX3_removeAt 3 none RX3 := ⟨hx, hb, hml, hr, hown, hlocks, hts, hE⟩
  have hS : va_S (Ab G) s.heap s.heap [] := va_S.rf
  have hl : lv_has ls 3 [(0, .ref (adr (gB G) 22 a0)), (1, .int a1)] := hl
  unfold f_X3_removeAt at h
  refine lv_iload_n hx hb dX3_removeAt_0 rfl (lv_at hl 1 rfl) ?_
  refine lv_if_lt (tgt := 12) hx hb dX3_removeAt_1 (by decide) (fun cc => ?_) (fun cc => ?_)
  · have h := br_el h cc
    exact e_v hx hb hr hlocks hP hS (Nat.le_of_ble_eq_true rfl) (Nat.le_of_ble_eq_true rfl) (so_el h) dX3_removeAt_12
  · have h := br_er h cc
    refine lv_iload_n hx hb dX3_removeAt_4 rfl (lv_at hl 1 rfl) ?_
    refine lv_aload_n hx hb dX3_removeAt_5 rfl (lv_at hl 0 rfl) ?_
    refine k_get (ci := 2) (v := .int (gI w 22 a0 3)) hx hb hts hE inX3 hown hP (hp_sh hP hF a0 22 ha0) (by decide) rfl rfl 3 (by decide) w1_178 rfl rfl dX3_removeAt_6 ?_
    refine lv_icmp_lt (tgt := 13) hx hb dX3_removeAt_9 (by decide) (fun cc => ?_) (fun cc => ?_)
    · have h := br_el h cc
      refine lv_iload_n hx hb dX3_removeAt_13 rfl (lv_at hl 1 rfl) ?_
      refine lv_istore_n (lv' := [(2, .int a1), (0, .ref (adr (gB G) 22 a0)), (1, .int a1)]) hx hb dX3_removeAt_14 rfl hl (by decide) rfl (fun ls hl => ?_)
      obtain ⟨w5, hf, h⟩ := bd0_el h
      refine l_X3_removeAt_15 hC rfl hF a0 ha0 LF a1 w w5 hf _ _ _ hP hS (lv_sub hl [1, 0] rfl) (fun H locs ls hP hS hl => ?_)
      refine lv_aload_n hx hb dX3_removeAt_56 rfl (lv_at hl 0 rfl) ?_
      refine lv_dup hx hb dX3_removeAt_57 rfl ?_
      refine k_get (ci := 2) (v := .int (gI w5 22 a0 3)) hx hb hts hE inX3 hown hP (hp_sh hP hF a0 22 ha0) (by decide) rfl rfl 3 (by decide) w1_178 rfl rfl dX3_removeAt_58 ?_
      refine lv_iconst (v := 1) hx hb dX3_removeAt_61 (by decide) ?_
      refine lv_isub hx hb dX3_removeAt_62 ?_
      refine k_put (ci := 2) (ty := .int) (v := .int ((gI w5 22 a0 3) - 1)) (w1 := pI w5 22 a0 3 ((gI w5 22 a0 3) - 1)) hx hb hts hE inX3 tyX3 tyX3_ok nmX3 hown hP hS (hp_sh hP hF a0 22 ha0) (by decide) rfl rfl 3 (by decide) w1_178 rfl rfl rfl rfl rfl (Nat.le_of_ble_eq_true rfl) loc_pI (wce_pI.trans rfl) dX3_removeAt_63 (fun w6 H locs e hP hS => ?_)
      have h := sq_at h e
      exact e_v hx hb hr hlocks hP hS (Nat.le_of_ble_eq_true rfl) (Nat.le_of_ble_eq_true rfl) (so_el h) dX3_removeAt_66
    · have h := br_er h cc
      exact e_v hx hb hr hlocks hP hS (Nat.le_of_ble_eq_true rfl) (Nat.le_of_ble_eq_true rfl) (so_el h) dX3_removeAt_12

def f_X3_begin (a0 : Nat) (a1 : Int32) (w : Mm) : Option (Mm) := sq (pI w 22 a0 0 a1) (fun w1 => sq (pI w1 22 a0 1 0) (fun w2 => sq (pI w2 22 a0 2 0) (fun w3 => sq (pI w3 22 a0 3 0) (fun w4 => some w4))))

theorem miX3_begin : MI RX3 yX3_begin cX3_begin 2 none 1 := ⟨w3_164, w3_165, w1_10, w3_166, rfl, by decide +kernel, by decide +kernel, by decide +kernel⟩
set_option maxHeartbeats 4000000 in
set_option maxRecDepth 100000 in
theorem c_X3_begin (l : Launch) (G : GG) (hF : gF G = true) (a0 : Nat) (ha0 : a0 < cnt 22) (a1 : Int32) (w : Mm) (w' : Mm) (h : f_X3_begin a0 a1 w = some w') : Kv l G yX3_begin cX3_begin 2 none { frames := 0, cells := 0, slots := 0, locals := 0 } [.ref (adr (gB G) 22 a0), .int a1] w w' := by
  refine k_of (by decide +kernel) (Nat.le_of_ble_eq_true rfl) ?_
  intro p e s m args below meth c ls hx hb hml hr hown hlocks hts hin hP hE hl
  have hC : CX p s m args c meth G cX3_begin 2 none RX3 := ⟨hx, hb, hml, hr, hown, hlocks, hts, hE⟩
  have hS : va_S (Ab G) s.heap s.heap [] := va_S.rf
  have hl : lv_has ls 2 [(0, .ref (adr (gB G) 22 a0)), (1, .int a1)] := hl
  unfold f_X3_begin at h
  refine lv_aload_n hx hb dX3_begin_0 rfl (lv_at hl 0 rfl) ?_
  refine lv_iload_n hx hb dX3_begin_1 rfl (lv_at hl 1 rfl) ?_
  refine k_put (ci := 2) (ty := .int) (v := .int a1) (w1 := pI w 22 a0 0 a1) hx hb hts hE inX3 tyX3 tyX3_ok nmX3 hown hP hS (hp_sh hP hF a0 22 ha0) (by decide) rfl rfl 0 (by decide) w1_167 rfl rfl rfl rfl rfl (Nat.le_of_ble_eq_true rfl) loc_pI (wce_pI.trans rfl) dX3_begin_2 (fun w1 H locs e hP hS => ?_)
  have h := sq_at h e
  refine lv_aload_n hx hb dX3_begin_5 rfl (lv_at hl 0 rfl) ?_
  refine lv_iconst (v := 0) hx hb dX3_begin_6 (by decide) ?_
  refine k_put (ci := 2) (ty := .int) (v := .int 0) (w1 := pI w1 22 a0 1 0) hx hb hts hE inX3 tyX3 tyX3_ok nmX3 hown hP hS (hp_sh hP hF a0 22 ha0) (by decide) rfl rfl 1 (by decide) w1_170 rfl rfl rfl rfl rfl (Nat.le_of_ble_eq_true rfl) loc_pI (wce_pI.trans rfl) dX3_begin_7 (fun w2 H locs e hP hS => ?_)
  have h := sq_at h e
  refine lv_aload_n hx hb dX3_begin_10 rfl (lv_at hl 0 rfl) ?_
  refine lv_iconst (v := 0) hx hb dX3_begin_11 (by decide) ?_
  refine k_put (ci := 2) (ty := .int) (v := .int 0) (w1 := pI w2 22 a0 2 0) hx hb hts hE inX3 tyX3 tyX3_ok nmX3 hown hP hS (hp_sh hP hF a0 22 ha0) (by decide) rfl rfl 2 (by decide) w1_174 rfl rfl rfl rfl rfl (Nat.le_of_ble_eq_true rfl) loc_pI (wce_pI.trans rfl) dX3_begin_12 (fun w3 H locs e hP hS => ?_)
  have h := sq_at h e
  refine lv_aload_n hx hb dX3_begin_15 rfl (lv_at hl 0 rfl) ?_
  refine lv_iconst (v := 0) hx hb dX3_begin_16 (by decide) ?_
  refine k_put (ci := 2) (ty := .int) (v := .int 0) (w1 := pI w3 22 a0 3 0) hx hb hts hE inX3 tyX3 tyX3_ok nmX3 hown hP hS (hp_sh hP hF a0 22 ha0) (by decide) rfl rfl 3 (by decide) w1_178 rfl rfl rfl rfl rfl (Nat.le_of_ble_eq_true rfl) loc_pI (wce_pI.trans rfl) dX3_begin_17 (fun w4 H locs e hP hS => ?_)
  have h := sq_at h e
  exact e_v hx hb hr hlocks hP hS (Nat.le_of_ble_eq_true rfl) (Nat.le_of_ble_eq_true rfl) (so_el h) dX3_begin_20
