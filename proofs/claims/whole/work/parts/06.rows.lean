def LF : Nat := 1000000
def on {β : Type} (o : Option Nat) (n : Option β) (k : Nat → Option β) : Option β := match o with
  | none => n
  | some a => k a
theorem on_n {β : Type} {o : Option Nat} {n : Option β} {k : Nat → Option β} {r : Option β} (h : on o n k = r) (ho : o = none) : n = r := by subst ho; exact h
theorem on_s {β : Type} {o : Option Nat} {n : Option β} {k : Nat → Option β} {r : Option β} {a : Nat} (h : on o n k = r) (ho : o = some a) : k a = r := by subst ho; exact h
def bd0 {ω : Type} (e : Option (Mm)) (k : Mm → Option ω) : Option ω := match e with
  | none => none
  | some w => k w
theorem bd0_el {ω : Type} {e : Option (Mm)} {k : Mm → Option ω} {r : ω} (h : bd0 e k = some r) : ∃ w, e = some w ∧ k w = some r := by
  unfold bd0 at h
  split at h
  · cases h
  · exact ⟨_, rfl, h⟩
def bd1 {α ω : Type} (e : Option (α × Mm)) (k : α → Mm → Option ω) : Option ω := match e with
  | none => none
  | some (x0, w) => k x0 w
theorem bd1_el {α ω : Type} {e : Option (α × Mm)} {k : α → Mm → Option ω} {r : ω} (h : bd1 e k = some r) : ∃ x0 w, e = some (x0, w) ∧ k x0 w = some r := by
  unfold bd1 at h
  split at h
  · cases h
  · exact ⟨_, _, rfl, h⟩
def bd2 {α β ω : Type} (e : Option (α × β × Mm)) (k : α → β → Mm → Option ω) : Option ω := match e with
  | none => none
  | some (x0, x1, w) => k x0 x1 w
theorem bd2_el {α β ω : Type} {e : Option (α × β × Mm)} {k : α → β → Mm → Option ω} {r : ω} (h : bd2 e k = some r) : ∃ x0 x1 w, e = some (x0, x1, w) ∧ k x0 x1 w = some r := by
  unfold bd2 at h
  split at h
  · cases h
  · exact ⟨_, _, _, rfl, h⟩
def bd3 {α β γ ω : Type} (e : Option (α × β × γ × Mm)) (k : α → β → γ → Mm → Option ω) : Option ω := match e with
  | none => none
  | some (x0, x1, x2, w) => k x0 x1 x2 w
theorem bd3_el {α β γ ω : Type} {e : Option (α × β × γ × Mm)} {k : α → β → γ → Mm → Option ω} {r : ω} (h : bd3 e k = some r) : ∃ x0 x1 x2 w, e = some (x0, x1, x2, w) ∧ k x0 x1 x2 w = some r := by
  unfold bd3 at h
  split at h
  · cases h
  · exact ⟨_, _, _, _, rfl, h⟩
def bd4 {α β γ δ ω : Type} (e : Option (α × β × γ × δ × Mm)) (k : α → β → γ → δ → Mm → Option ω) : Option ω := match e with
  | none => none
  | some (x0, x1, x2, x3, w) => k x0 x1 x2 x3 w
theorem bd4_el {α β γ δ ω : Type} {e : Option (α × β × γ × δ × Mm)} {k : α → β → γ → δ → Mm → Option ω} {r : ω} (h : bd4 e k = some r) : ∃ x0 x1 x2 x3 w, e = some (x0, x1, x2, x3, w) ∧ k x0 x1 x2 x3 w = some r := by
  unfold bd4 at h
  split at h
  · cases h
  · exact ⟨_, _, _, _, _, rfl, h⟩
def bd5 {α β γ δ ε ω : Type} (e : Option (α × β × γ × δ × ε × Mm)) (k : α → β → γ → δ → ε → Mm → Option ω) : Option ω := match e with
  | none => none
  | some (x0, x1, x2, x3, x4, w) => k x0 x1 x2 x3 x4 w
theorem bd5_el {α β γ δ ε ω : Type} {e : Option (α × β × γ × δ × ε × Mm)} {k : α → β → γ → δ → ε → Mm → Option ω} {r : ω} (h : bd5 e k = some r) : ∃ x0 x1 x2 x3 x4 w, e = some (x0, x1, x2, x3, x4, w) ∧ k x0 x1 x2 x3 x4 w = some r := by
  unfold bd5 at h
  split at h
  · cases h
  · exact ⟨_, _, _, _, _, _, rfl, h⟩
def bd6 {α β γ δ ε ζ ω : Type} (e : Option (α × β × γ × δ × ε × ζ × Mm)) (k : α → β → γ → δ → ε → ζ → Mm → Option ω) : Option ω := match e with
  | none => none
  | some (x0, x1, x2, x3, x4, x5, w) => k x0 x1 x2 x3 x4 x5 w
theorem bd6_el {α β γ δ ε ζ ω : Type} {e : Option (α × β × γ × δ × ε × ζ × Mm)} {k : α → β → γ → δ → ε → ζ → Mm → Option ω} {r : ω} (h : bd6 e k = some r) : ∃ x0 x1 x2 x3 x4 x5 w, e = some (x0, x1, x2, x3, x4, x5, w) ∧ k x0 x1 x2 x3 x4 x5 w = some r := by
  unfold bd6 at h
  split at h
  · cases h
  · exact ⟨_, _, _, _, _, _, _, rfl, h⟩
def bd7 {α β γ δ ε ζ η ω : Type} (e : Option (α × β × γ × δ × ε × ζ × η × Mm)) (k : α → β → γ → δ → ε → ζ → η → Mm → Option ω) : Option ω := match e with
  | none => none
  | some (x0, x1, x2, x3, x4, x5, x6, w) => k x0 x1 x2 x3 x4 x5 x6 w
theorem bd7_el {α β γ δ ε ζ η ω : Type} {e : Option (α × β × γ × δ × ε × ζ × η × Mm)} {k : α → β → γ → δ → ε → ζ → η → Mm → Option ω} {r : ω} (h : bd7 e k = some r) : ∃ x0 x1 x2 x3 x4 x5 x6 w, e = some (x0, x1, x2, x3, x4, x5, x6, w) ∧ k x0 x1 x2 x3 x4 x5 x6 w = some r := by
  unfold bd7 at h
  split at h
  · cases h
  · exact ⟨_, _, _, _, _, _, _, _, rfl, h⟩
def bd8 {α β γ δ ε ζ η θ ω : Type} (e : Option (α × β × γ × δ × ε × ζ × η × θ × Mm)) (k : α → β → γ → δ → ε → ζ → η → θ → Mm → Option ω) : Option ω := match e with
  | none => none
  | some (x0, x1, x2, x3, x4, x5, x6, x7, w) => k x0 x1 x2 x3 x4 x5 x6 x7 w
theorem bd8_el {α β γ δ ε ζ η θ ω : Type} {e : Option (α × β × γ × δ × ε × ζ × η × θ × Mm)} {k : α → β → γ → δ → ε → ζ → η → θ → Mm → Option ω} {r : ω} (h : bd8 e k = some r) : ∃ x0 x1 x2 x3 x4 x5 x6 x7 w, e = some (x0, x1, x2, x3, x4, x5, x6, x7, w) ∧ k x0 x1 x2 x3 x4 x5 x6 x7 w = some r := by
  unfold bd8 at h
  split at h
  · cases h
  · exact ⟨_, _, _, _, _, _, _, _, _, rfl, h⟩
def CX (p : Program) (s : State) (m : MethodId) (args : Array Value) (c : Code) (meth : Method) (G : GG) (cc : ByteArray) (maxL : Nat) (ret : Option FieldType) (own : String) : Prop :=
  p.tables.exec = Jvm.exec ∧ c.code = cc ∧ c.maxLocals = maxL ∧ meth.sig.returnType = ret ∧ s.vm.findClass own = some m.cls ∧ meth.locks = false ∧ (∀ w ∈ TB, w.before args s = true) ∧ KE G s
theorem key8 {k : Nat} {i : Int32} (h : k < 2) (g : vB i 8 = true) : 8 * k + i.toNatClampNeg < 16 := by have := vB_lt g; omega
theorem wce_pI {G : GG} {w : Mm} {c k i st : Nat} {v : Int32} : wce G (pI w c k i v) c k st = cel G (fun j => if j = i then v else w.1 c k j) (w.2.1 c k) (w.2.2.1 c k) c k st := by
  unfold wce; congr 1; funext j; simp [pI]
theorem wce_pL {G : GG} {w : Mm} {c k i st : Nat} {v : Int64} : wce G (pL w c k i v) c k st = cel G (w.1 c k) (fun j => if j = i then v else w.2.1 c k j) (w.2.2.1 c k) c k st := by
  unfold wce; congr 1; funext j; simp [pL]
theorem wce_pR {G : GG} {w : Mm} {c k i st : Nat} {v : Nat} : wce G (pR w c k i v) c k st = cel G (w.1 c k) (w.2.1 c k) (fun j => if j = i then v else w.2.2.1 c k j) c k st := by
  unfold wce; congr 1; funext j; simp [pR]
theorem cat_rf (r : Option Nat) : (va_rf r).category = 1 := by cases r <;> rfl
theorem cat_kR (G : GG) (r : Nat) : (kR G r).category = 1 := cat_rf _
theorem cat_ref (a : Nat) : (Value.ref a).category = 1 := rfl
theorem cat_int (a : Int32) : (Value.int a).category = 1 := rfl
theorem cat_long (a : Int64) : (Value.long a).category = 2 := rfl
theorem cat_null : Value.null.category = 1 := rfl
theorem nar_z {v : Int32} (h : v &&& 1 = v) : narrow .boolean (.int v) = .int v := by simp [narrow, h]
def bB (v : Int32) : Bool := decide (v = 0) || decide (v = 1)
theorem bB_el {v : Int32} (h : bB v = true) : v = 0 ∨ v = 1 := by simpa only [bB, Bool.or_eq_true, decide_eq_true_eq] using h
theorem nar_b {v : Int32} (h : bB v = true) : narrow .boolean (.int v) = .int v := by rcases bB_el h with rfl | rfl <;> rfl
theorem fit_b {v : Int32} (h : bB v = true) : fits .boolean (.int v) = true := by rcases bB_el h with rfl | rfl <;> rfl
theorem nar_kR {G : GG} {r : Nat} {C : String} : narrow (.object C) (kR G r) = kR G r := by cases r <;> rfl
theorem fit_kR {G : GG} {r : Nat} {C : String} : fits (.object C) (kR G r) = true := by cases r <;> rfl
def shD (w : Mm) (c k : Nat) : Bool := decide (gS w (adr 0 c k) = (c, k, full c)) && decide (2 ≤ k)
def isD (c : Nat) : Bool := (decide (44 ≤ c) && decide (c ≤ 62)) || decide (c = 64) || decide (c = 65)
theorem adr_dyn (b : Nat) {c k : Nat} (hc : isD c = true) (hk : 2 ≤ k) : adr b c k = adr 0 c k := by
  have h : c = 44 ∨ c = 45 ∨ c = 46 ∨ c = 47 ∨ c = 48 ∨ c = 49 ∨ c = 50 ∨ c = 51 ∨ c = 52 ∨ c = 53 ∨ c = 54 ∨ c = 55 ∨ c = 56 ∨ c = 57 ∨ c = 58 ∨ c = 59 ∨ c = 60 ∨ c = 61 ∨ c = 62 ∨ c = 64 ∨ c = 65 := by
    simp only [isD, Bool.or_eq_true, Bool.and_eq_true, decide_eq_true_eq] at hc; omega
  have h2 : ¬ k < 2 := by omega
  rcases h with rfl | rfl | rfl | rfl | rfl | rfl | rfl | rfl | rfl | rfl | rfl | rfl | rfl | rfl | rfl | rfl | rfl | rfl | rfl | rfl | rfl <;> simp only [adr, if_neg h2]
theorem shD_sh {G : GG} {w : Mm} {c k : Nat} (hc : isD c = true) (h : shD w c k = true) : gS w (adr (gB G) c k) = (c, k, full c) := by
  simp only [shD, Bool.and_eq_true, decide_eq_true_eq] at h
  rw [adr_dyn _ hc h.2]; exact h.1
def vok (c r : Nat) : Bool := decide (1 ≤ r) && (decide (cnt c = 0) || decide (r ≤ cnt c))
theorem vok_pos {c r : Nat} (h : vok c r = true) : r = (r - 1) + 1 := by
  simp only [vok, Bool.and_eq_true, decide_eq_true_eq] at h; omega
theorem vok_lt {c r p : Nat} (h : vok c r = true) (e : p = r - 1) (hc : ¬ cnt c = 0) : p < cnt c := by
  simp only [vok, Bool.and_eq_true, Bool.or_eq_true, decide_eq_true_eq] at h; omega
def kok (e : Nat) : Bool := decide (1 ≤ e) && decide (e ≤ 44)
theorem kok_el {e : Nat} (h : kok e = true) : e - 1 < 44 ∧ e = (e - 1) + 1 := by
  simp only [kok, Bool.and_eq_true, decide_eq_true_eq] at h; omega
theorem kR_ok {G : GG} {e : Nat} (h : kok e = true) : kR G e = .ref (gA G (e - 1)) := by
  have := (kok_el h).2
  rw [this]; rfl
theorem kO_inj {G : GG} (h : ∀ i j, gA G i = gA G j → i = j) {x y : Nat} : kO G x = kO G y ↔ x = y := by
  cases x <;> cases y <;> simp [kO]
  exact ⟨fun q => h _ _ q, fun q => by rw [q]⟩
theorem in_all {α : Type} {l : List α} {P : α → Prop} (h : ∀ i, i < l.length → ∃ a, l[i]? = some a ∧ P a) : ∀ a ∈ l, P a := by
  intro a ha
  obtain ⟨i, hi⟩ := List.getElem?_of_mem ha
  obtain ⟨b, hb, hp⟩ := h i (List.getElem?_eq_some_iff.mp hi).1
  rw [hi] at hb; cases hb; exact hp
def tof (dflt lo hi : Int) (offs : Array Int) (x : Int) : Int := if x < lo ∨ hi < x then dflt else offs.toList.getD (x - lo).toNat dflt
section SPEC
variable {p : Program} {l : Launch} {e : Env} {R : Room} {s : State} {m : MethodId} {args : Array Value} {below : List Frame} {meth : Method} {c : Code} {H : Heap} {locs : List Loc} {cells slots : Nat} {Q : State → Prop}
variable {cc : ByteArray} {pc : Nat} {ls : Array Slot} {rest : List Value} {G : GG} {w : Mm} {a cd ky st : Nat} {H0 : Heap} {own : String} {index nL : Nat}
theorem k_aload_n (hexec : p.tables.exec = Jvm.exec) (hb : c.code = cc) {k : Fin 4} {i : Nat} {r : Option Nat} (hdg : decode cc pc = .ok (.aload_n k, 1)) (hi : (k : Nat) = i) (hl : ls[i]? = some (.val (va_rf r)))
    (k : W p l e R s m args below meth c H locs cells slots Q (F0 m (pc + 1) ls (va_rf r :: rest))) : W p l e R s m args below meth c H locs cells slots Q (F0 m pc ls rest) := by
  cases r with
  | none => exact lv_aload_nN hexec hb hdg hi hl k
  | some x => exact lv_aload_n hexec hb hdg hi hl k
theorem k_aload (hexec : p.tables.exec = Jvm.exec) (hb : c.code = cc) {i : Nat} {r : Option Nat} (hdg : decode cc pc = .ok (.aload i, 2)) (hl : ls[i]? = some (.val (va_rf r)))
    (k : W p l e R s m args below meth c H locs cells slots Q (F0 m (pc + 2) ls (va_rf r :: rest))) : W p l e R s m args below meth c H locs cells slots Q (F0 m pc ls rest) := by
  cases r with
  | none => exact lv_aloadN hexec hb hdg hl k
  | some x => exact lv_aload hexec hb hdg hl k
theorem k_astore_n (hexec : p.tables.exec = Jvm.exec) (hb : c.code = cc) {k : Fin 4} {i nL : Nat} {r : Option Nat} {lv lv' : List (Nat × Value)} (hdg : decode cc pc = .ok (.astore_n k, 1)) (hi : (k : Nat) = i) (h : lv_has ls nL lv) (hn : i < nL) (hl : (i, va_rf r) :: lv.filter (fun q => !(q.1 == i) && !(q.1 + 1 == i && q.2.category == 2)) = lv')
    (kk : ∀ ls' : Array Slot, lv_has ls' nL lv' → W p l e R s m args below meth c H locs cells slots Q (F0 m (pc + 1) ls' rest)) : W p l e R s m args below meth c H locs cells slots Q (F0 m pc ls (va_rf r :: rest)) := by
  cases r with
  | none => exact lv_astore_nN hexec hb hdg hi h hn hl kk
  | some x => exact lv_astore_n hexec hb hdg hi h hn hl kk
theorem k_astore (hexec : p.tables.exec = Jvm.exec) (hb : c.code = cc) {i nL : Nat} {r : Option Nat} {lv lv' : List (Nat × Value)} (hdg : decode cc pc = .ok (.astore i, 2)) (h : lv_has ls nL lv) (hn : i < nL) (hl : (i, va_rf r) :: lv.filter (fun q => !(q.1 == i) && !(q.1 + 1 == i && q.2.category == 2)) = lv')
    (kk : ∀ ls' : Array Slot, lv_has ls' nL lv' → W p l e R s m args below meth c H locs cells slots Q (F0 m (pc + 2) ls' rest)) : W p l e R s m args below meth c H locs cells slots Q (F0 m pc ls (va_rf r :: rest)) := by
  cases r with
  | none => exact lv_astoreN hexec hb hdg h hn hl kk
  | some x => exact lv_astore hexec hb hdg h hn hl kk
theorem k_acmp_eq (hexec : p.tables.exec = Jvm.exec) (hb : c.code = cc) (hE : KE G s) {x y : Nat} {off : Int} {tgt : Nat} (hdg : decode cc pc = .ok (.if_acmp .eq off, 3)) (ht : (pc : Int) + off = (tgt : Int))
    (kt : x = y → W p l e R s m args below meth c H locs cells slots Q (F0 m tgt ls rest)) (kf : ¬ x = y → W p l e R s m args below meth c H locs cells slots Q (F0 m (pc + 3) ls rest)) : W p l e R s m args below meth c H locs cells slots Q (F0 m pc ls (kR G y :: kR G x :: rest)) :=
  lv_acmp_eq (rx := kO G x) (ry := kO G y) hexec hb hdg ht (fun q => kt ((kO_inj hE.2.2.2.2.1).mp q)) (fun q => kf (fun z => q ((kO_inj hE.2.2.2.2.1).mpr z)))
theorem k_acmp_ne (hexec : p.tables.exec = Jvm.exec) (hb : c.code = cc) (hE : KE G s) {x y : Nat} {off : Int} {tgt : Nat} (hdg : decode cc pc = .ok (.if_acmp .ne off, 3)) (ht : (pc : Int) + off = (tgt : Int))
    (kt : ¬ x = y → W p l e R s m args below meth c H locs cells slots Q (F0 m tgt ls rest)) (kf : x = y → W p l e R s m args below meth c H locs cells slots Q (F0 m (pc + 3) ls rest)) : W p l e R s m args below meth c H locs cells slots Q (F0 m pc ls (kR G y :: kR G x :: rest)) :=
  lv_acmp_ne (rx := kO G x) (ry := kO G y) hexec hb hdg ht (fun q => kt (fun z => q ((kO_inj hE.2.2.2.2.1).mpr z))) (fun q => kf ((kO_inj hE.2.2.2.2.1).mp q))
theorem k_kind {i : Nat} {nm : String} (hexec : p.tables.exec = Jvm.exec) (hb : c.code = cc) (hE : KE G s) (hS : va_S (Ab G) s.heap H locs) (hown : s.vm.findClass own = some m.cls) (hn : kNm.getD i "" = nm) (hi : i < kNm.length) (hlink : (Cond.fieldLink own index "HedgeNews$Kind" nm "LHedgeNews$Kind;").before args s = true) (hdg : decode cc pc = .ok (.getstatic index, 3))
    (kk : W p l e R s m args below meth c H locs cells slots Q (F0 m (pc + 3) ls (kR G (i + 1) :: rest))) : W p l e R s m args below meth c H locs cells slots Q (F0 m pc ls rest) := by
  subst hn
  exact va_gets hexec hb (hE.2.2.2.1.1 i hi).1 hS hown hlink (fun x hx => hx) hdg kk
theorem k_swm (hexec : p.tables.exec = Jvm.exec) (hb : c.code = cc) (hE : KE G s) (hS : va_S (Ab G) s.heap H locs) (hown : s.vm.findClass own = some m.cls) (hlink : (Cond.fieldLink own index "HedgeNews$1" "$SwitchMap$HedgeNews$Kind" "[I").before args s = true) (hdg : decode cc pc = .ok (.getstatic index, 3))
    (kk : W p l e R s m args below meth c H locs cells slots Q (F0 m (pc + 3) ls (.ref (gM G 0) :: rest))) : W p l e R s m args below meth c H locs cells slots Q (F0 m pc ls rest) :=
  va_gets hexec hb hE.2.2.2.2.2.2.1.1 hS hown hlink (fun x hx => hx) hdg kk
theorem k_all (hexec : p.tables.exec = Jvm.exec) (hb : c.code = cc) (hE : KE G s) (hS : va_S (Ab G) s.heap H locs) (hown : s.vm.findClass own = some m.cls) (hlink : (Cond.fieldLink own index "HedgeNews$Kind" "ALL" "[LHedgeNews$Kind;").before args s = true) (hdg : decode cc pc = .ok (.getstatic index, 3))
    (kk : W p l e R s m args below meth c H locs cells slots Q (F0 m (pc + 3) ls (.ref (gM G 1) :: rest))) : W p l e R s m args below meth c H locs cells slots Q (F0 m pc ls rest) :=
  va_gets hexec hb hE.2.2.2.2.2.2.2.1.1 hS hown hlink (fun x hx => hx) hdg kk
theorem k_swald (hexec : p.tables.exec = Jvm.exec) (hb : c.code = cc) (hE : KE G s) (hS : va_S (Ab G) s.heap H locs) {x : Nat} (g : kok x = true) (hdg : decode cc pc = .ok (.iaload, 1))
    (kk : W p l e R s m args below meth c H locs cells slots Q (F0 m (pc + 1) ls (.int (swv x) :: rest))) : W p l e R s m args below meth c H locs cells slots Q (F0 m pc ls (.int (nI (x - 1)) :: .ref (gM G 0) :: rest)) := by
  have h1 := (kok_el g).1
  refine va_ti hexec hb hE.2.2.2.2.2.2.1.2 hS (vp_in_nI h1 (by decide)) ?_ hdg kk
  rw [nI_clamp (by omega)]; rfl
theorem k_alllen (hexec : p.tables.exec = Jvm.exec) (hb : c.code = cc) (hE : KE G s) (hS : va_S (Ab G) s.heap H locs) (hdg : decode cc pc = .ok (.arraylength, 1))
    (kk : W p l e R s m args below meth c H locs cells slots Q (F0 m (pc + 1) ls (.int 44 :: rest))) : W p l e R s m args below meth c H locs cells slots Q (F0 m pc ls (.ref (gM G 1) :: rest)) :=
  va_tlen hexec hb hE.2.2.2.2.2.2.2.1.2 hS (by decide) hdg kk
theorem k_allald (hexec : p.tables.exec = Jvm.exec) (hb : c.code = cc) (hE : KE G s) (hS : va_S (Ab G) s.heap H locs) {i : Int32} (g : vB i 44 = true) (hdg : decode cc pc = .ok (.aaload, 1))
    (kk : W p l e R s m args below meth c H locs cells slots Q (F0 m (pc + 1) ls (kR G (i.toNatClampNeg + 1) :: rest))) : W p l e R s m args below meth c H locs cells slots Q (F0 m pc ls (.int i :: .ref (gM G 1) :: rest)) :=
  vb_tq hexec hb hE.2.2.2.2.2.2.2.1.2 hS (vB_in g) rfl hdg kk
theorem k_key (hexec : p.tables.exec = Jvm.exec) (hb : c.code = cc) (hE : KE G s) (hS : va_S (Ab G) s.heap H locs) (hown : s.vm.findClass own = some m.cls) {x : Nat} (hlink : (Cond.fieldLink own index "HedgeNews$Kind" "key" "J").before args s = true) (g : kok x = true) (hdg : decode cc pc = .ok (.getfield index, 3))
    (kk : W p l e R s m args below meth c H locs cells slots Q (F0 m (pc + 3) ls (.long (keyT x) :: rest))) : W p l e R s m args below meth c H locs cells slots Q (F0 m pc ls (kR G x :: rest)) := by
  rw [kR_ok g]
  exact va_getX hexec hb hE.2.2.2.2.2.1 (kok_el g).1 hS hown hlink (fun x hx => hx) hdg kk
theorem k_aref {st0 b0 c0 k0 : Nat} {x : Int32} {n : Nat} (g : vB x n = true) (hst : n ≤ st0) (k : W p l e R s m args below meth c H locs cells slots Q (F0 m pc ls (.ref (adr b0 c0 (8 * k0 + x.toNatClampNeg)) :: rest))) : W p l e R s m args below meth c H locs cells slots Q (F0 m pc ls (va_rf (if x.toNatClampNeg < st0 then some (adr b0 c0 (8 * k0 + x.toNatClampNeg)) else none) :: rest)) := by
  rw [if_pos (Nat.lt_of_lt_of_le (vB_lt g) hst)]; exact k
theorem k_vref {vc r : Nat} (g : vok vc r = true) (k : W p l e R s m args below meth c H locs cells slots Q (F0 m pc ls (.ref (adr (gB G) vc (r - 1)) :: rest))) : W p l e R s m args below meth c H locs cells slots Q (F0 m pc ls (vR G vc r :: rest)) := by
  rw [vok_pos g]; exact k
theorem k_ifnull_n (hexec : p.tables.exec = Jvm.exec) (hb : c.code = cc) {o : Option Nat} {f : Nat → Nat} {off : Int} {tgt : Nat} (ho : o = none) (hdg : decode cc pc = .ok (.ifnull off, 3)) (ht : (pc : Int) + off = (tgt : Int)) (k : W p l e R s m args below meth c H locs cells slots Q (F0 m tgt ls rest)) : W p l e R s m args below meth c H locs cells slots Q (F0 m pc ls (va_rf (o.map f) :: rest)) := by
  subst ho; exact lv_ifnullN hexec hb hdg ht k
theorem k_ifnull_s (hexec : p.tables.exec = Jvm.exec) (hb : c.code = cc) {o : Option Nat} {a : Nat} {f : Nat → Nat} {off : Int} (ho : o = some a) (hdg : decode cc pc = .ok (.ifnull off, 3)) (k : W p l e R s m args below meth c H locs cells slots Q (F0 m (pc + 3) ls rest)) : W p l e R s m args below meth c H locs cells slots Q (F0 m pc ls (va_rf (o.map f) :: rest)) := by
  subst ho; exact lv_ifnull hexec hb hdg k
theorem k_ifnonnull_n (hexec : p.tables.exec = Jvm.exec) (hb : c.code = cc) {o : Option Nat} {f : Nat → Nat} {off : Int} (ho : o = none) (hdg : decode cc pc = .ok (.ifnonnull off, 3)) (k : W p l e R s m args below meth c H locs cells slots Q (F0 m (pc + 3) ls rest)) : W p l e R s m args below meth c H locs cells slots Q (F0 m pc ls (va_rf (o.map f) :: rest)) := by
  subst ho; exact lv_ifnonnullN hexec hb hdg k
theorem k_ifnonnull_s (hexec : p.tables.exec = Jvm.exec) (hb : c.code = cc) {o : Option Nat} {a : Nat} {f : Nat → Nat} {off : Int} {tgt : Nat} (ho : o = some a) (hdg : decode cc pc = .ok (.ifnonnull off, 3)) (ht : (pc : Int) + off = (tgt : Int)) (k : W p l e R s m args below meth c H locs cells slots Q (F0 m tgt ls rest)) : W p l e R s m args below meth c H locs cells slots Q (F0 m pc ls (va_rf (o.map f) :: rest)) := by
  subst ho; exact lv_ifnonnull hexec hb hdg ht k
theorem k_tab (hexec : p.tables.exec = Jvm.exec) (hb : c.code = cc) {dflt lo hi : Int} {offs : Array Int} {len : Nat} {x : Int32} {tgt : Nat} (hdg : decode cc pc = .ok (.tableswitch dflt lo hi offs, len)) (hsz : (offs.size : Int) = hi - lo + 1) (ht : (pc : Int) + tof dflt lo hi offs x.toInt = (tgt : Int))
    (k : W p l e R s m args below meth c H locs cells slots Q (F0 m tgt ls rest)) : W p l e R s m args below meth c H locs cells slots Q (F0 m pc ls (.int x :: rest)) := by
  by_cases hc : x.toInt < lo ∨ hi < x.toInt
  · unfold tof at ht
    rw [if_pos hc] at ht
    exact lv_tableOut hexec hb hdg hc ht k
  · unfold tof at ht
    rw [if_neg hc] at ht
    have h1 : ¬ x.toInt < lo := fun q => hc (Or.inl q)
    have h2 : ¬ hi < x.toInt := fun q => hc (Or.inr q)
    have h3 : (x.toInt - lo).toNat < offs.size := by omega
    refine lv_tableIn hexec hb hdg h1 h2 (off := offs.toList.getD (x.toInt - lo).toNat dflt) ?_ ht k
    simp [List.getD_eq_getElem?_getD, Array.getElem?_eq_getElem h3]
theorem k_tabD {vs : List Int32} (hexec : p.tables.exec = Jvm.exec) (hb : c.code = cc) {dflt lo hi : Int} {offs : Array Int} {len : Nat} {x : Int32} {tgt : Nat} (hdg : decode cc pc = .ok (.tableswitch dflt lo hi offs, len)) (hsz : (offs.size : Int) = hi - lo + 1)
    (hall : (List.range offs.size).all (fun j => decide (offs.toList.getD j dflt = dflt) || vs.any (fun v => decide (v.toInt = lo + j))) = true) (ht : (pc : Int) + dflt = (tgt : Int)) (hx : ¬ x ∈ vs)
    (k : W p l e R s m args below meth c H locs cells slots Q (F0 m tgt ls rest)) : W p l e R s m args below meth c H locs cells slots Q (F0 m pc ls (.int x :: rest)) := by
  refine k_tab hexec hb hdg hsz ?_ k
  rw [← ht]
  congr 1
  unfold tof
  split
  · rfl
  · rename_i hc
    have h1 : ¬ x.toInt < lo := fun q => hc (Or.inl q)
    have h2 : ¬ hi < x.toInt := fun q => hc (Or.inr q)
    have h3 : (x.toInt - lo).toNat < offs.size := by omega
    have h4 := List.all_eq_true.mp hall _ (List.mem_range.mpr h3)
    rw [Bool.or_eq_true] at h4
    rcases h4 with h4 | h4
    · exact of_decide_eq_true h4
    · obtain ⟨v, hv, he⟩ := List.any_eq_true.mp h4
      have he := of_decide_eq_true he
      have : v = x := by apply Int32.toInt_inj.mp; omega
      exact absurd (this ▸ hv) hx
def jmmin (x y : Int32) : Int32 := if y < x then y else x
def jmmax (x y : Int32) : Int32 := if x < y then y else x
theorem k_kast (hexec : p.tables.exec = Jvm.exec) (hb : c.code = cc) (hE : KE G s) (hP : HP G w H) (hS : va_S (Ab G) s.heap H locs) (hs : gS w a = (cd, ky, st)) (hc0 : cd ≠ 0) {n : Nat} {i : Int32} {x : Nat} (he : wce G w cd ky st = .inl (G.2.1 6, (n, .inr (.inr (.inr (.inr (fun i => kO G (w.2.2.1 cd ky i)))))))) (he1 : wce G (pR w cd ky i.toNatClampNeg x) cd ky st = .inl (G.2.1 6, (n, .inr (.inr (.inr (.inr (fun j => kO G ((pR w cd ky i.toNatClampNeg x).2.2.1 cd ky j)))))))) (hin : vB i n = true) (g : kok x = true) (hdg : decode cc pc = .ok (.aastore, 1))
    (kk : ∀ (w2 : Mm) (H1 : Heap) (locs1 : List Loc), w2 = pR w cd ky i.toNatClampNeg x → HP G w2 H1 → va_S (Ab G) s.heap H1 locs1 → W p l e R s m args below meth c H1 locs1 cells slots Q (F0 m (pc + 1) ls rest)) : W p l e R s m args below meth c H locs cells slots Q (F0 m pc ls (kR G x :: .int i :: .ref a :: rest)) := by
  have hp := hp_at hP hs hc0
  rw [he] at hp
  rw [kR_ok g]
  obtain ⟨cellV, g1, g2, g3⟩ := c_recE hE hS (kok_el g).1
  obtain ⟨cellV', q1, q2, q3, q4⟩ := (hE.2.2.2.1.1 (x - 1) (by simpa [kNm] using (kok_el g).1)).2.1.kept hS.2.1
  cases g1.symm.trans q1
  obtain ⟨kA, comp, k1, k2, k3, -⟩ := (hE.1.2 6 _ rfl).2
  obtain ⟨kE, hkE, -⟩ := Vm.findClass_spec k3
  have hcm : comp = cellV.cls := Option.some.inj (k3.symm.trans g3)
  subst hcm
  have hlt : i.toNatClampNeg < n := vB_lt hin
  have h0 : ¬ i < 0 := fun q => vB_in hin (Or.inl q)
  refine W.aast hexec hb (hp 0 _ rfl) (fun q h => by cases h) (fun h => by cases h) k1 k2 rfl hkE ⟨h0, by show _ < (arrV _ _ _).slots.size; rw [arrV_size]; exact hlt⟩ g1 (fun q h => by rw [h] at g2; cases g2) hkE ?_ rfl rfl hdg fun H1 e z oq => ?_
  · exact va_asg _ _
  refine kk _ H1 _ rfl (hP.put hs hc0 loc_pR ?_ z oq) (hS.put z oq ((hP.2.2.1 a _ _ _ hs hc0).1))
  rw [he1]
  show H1[a]? = some (vp_cell _ _)
  rw [e]
  rw [vp_cell_q, vp_cell_q, arrV_store]
  congr 2
  funext q
  by_cases hq : q = i.toNatClampNeg
  · subst hq
    simp [updV, pR]
    rw [(kok_el g).2]; rfl
  · simp [updV, pR, hq]

theorem k_mmin (hexec : p.tables.exec = Jvm.exec) (hb : c.code = cc) (hml : c.maxLocals = nL) (hown : s.vm.findClass own = some m.cls) (hts : ∀ w ∈ TB, w.before args s = true) {x y : Int32} (m1 : Cond.methodLink own index Lib.Math.min.name ∈ TB) (hf : 1 ≤ R.frames) (hlo : 8 + 13 ≤ R.locals) (hsz : ls.size = nL) (hr : (rest.map fun v => v.category).sum ≤ 8) (hc : cells ≤ R.cells) (hs : slots ≤ R.slots) (hdg : decode cc pc = .ok (.invokestatic index, 3))
    (kk : W p l e R s m args below meth c H locs cells slots Q (F0 m (pc + 3) ls (.int (jmmin x y) :: rest))) : W p l e R s m args below meth c H locs cells slots Q (F0 m pc ls (.int y :: .int x :: rest)) :=
  va_mmin hexec hb (by rw [hml, hsz]) hown (hts _ m1) (hts _ w5_142) (hts _ w1_27) (hts _ w5_143) hf (by omega) hc hs hdg kk
theorem k_mmax (hexec : p.tables.exec = Jvm.exec) (hb : c.code = cc) (hml : c.maxLocals = nL) (hown : s.vm.findClass own = some m.cls) (hts : ∀ w ∈ TB, w.before args s = true) {x y : Int32} (m1 : Cond.methodLink own index Lib.Math.max.name ∈ TB) (hf : 1 ≤ R.frames) (hlo : 8 + 13 ≤ R.locals) (hsz : ls.size = nL) (hr : (rest.map fun v => v.category).sum ≤ 8) (hc : cells ≤ R.cells) (hs : slots ≤ R.slots) (hdg : decode cc pc = .ok (.invokestatic index, 3))
    (kk : W p l e R s m args below meth c H locs cells slots Q (F0 m (pc + 3) ls (.int (jmmax x y) :: rest))) : W p l e R s m args below meth c H locs cells slots Q (F0 m pc ls (.int y :: .int x :: rest)) :=
  va_mmax hexec hb (by rw [hml, hsz]) hown (hts _ m1) (hts _ w5_145) (hts _ w1_27) (hts _ w5_146) hf (by omega) hc hs hdg kk
theorem wsU_in {C owner : String} {x y : MethodName} {bytes : ByteArray} {maxL : Nat} {ret : Option FieldType} (m1 : Cond.methodLink own index x ∈ TB) (m2 : Cond.sameMethod x.cls owner x.name x.desc ∈ TB) (m3 : Cond.selects C x y ∈ TB) (m4 : Cond.instanceMethod y ∈ TB) (m5 : Cond.initialized y.cls ∈ TB) (m6 : Cond.code y bytes maxL ret ∈ TB) : GoodIn TB (va_wsU own index C owner x y (wsOf y bytes maxL ret)) := by
  refine tb_goodin fun w hw => ?_
  unfold va_wsU at hw
  rcases List.mem_append.mp hw with q | q
  · simp only [List.mem_cons, List.not_mem_nil, or_false] at q
    rcases q with rfl | rfl | rfl | rfl | rfl
    · exact m1
    · exact m2
    · exact m3
    · exact m4
    · exact m5
  · exact ws_in m6 w q
theorem c_ord (l : Launch) (G : GG) (k : Nat) (hk : k < 44) (w : Mm) : Ki l G yJx29ce0_ordinal_8abf5 cJx29ce0_ordinal_8abf5 1 (some .int) { frames := 0, cells := 0, slots := 0, locals := 0 } [.ref (gA G k)] w (nI k) w := by
  refine k_of (by decide +kernel) (Nat.le_of_ble_eq_true rfl) ?_
  intro p e s m args below meth c ls hx hb hml hr hown hlocks hts hin hP hE hl
  have hS : va_S (Ab G) s.heap s.heap [] := va_S.rf
  have hl : lv_has ls 1 [(0, .ref (gA G k))] := hl
  refine lv_aload_n hx hb dJx29ce0_ordinal_8abf5_0 rfl (lv_at hl 0 rfl) ?_
  refine va_getEc hx hb hE.2.2.2.1 (i := k) (by simpa [kNm] using hk) hS hown (q := ("java/lang/Enum", "ordinal", "I", kOr)) (List.mem_singleton.mpr rfl) (hts _ w9_17) (fun x hx => hx) dJx29ce0_ordinal_8abf5_1 ?_
  exact e_i hx hb hr rfl hlocks hP hS (Nat.le_refl _) (Nat.le_refl _) ⟨co_dec (P := fun k => kOr.getD k 0 = nI k) (N := 44) (by decide +kernel) hk, rfl⟩ dJx29ce0_ordinal_8abf5_4
theorem k_ord (hexec : p.tables.exec = Jvm.exec) (hb : c.code = cc) (hml : c.maxLocals = nL) (hown : s.vm.findClass own = some m.cls) (hts : ∀ w ∈ TB, w.before args s = true) (hE : KE G s) (hP : HP G w H) (hS : va_S (Ab G) s.heap H locs) {x : Nat} (g : kok x = true) (m1 : Cond.methodLink own index ⟨"HedgeNews$Kind", "ordinal", "()I"⟩ ∈ TB) (hf : 0 + 1 ≤ R.frames) (hlo : 8 + (1 + 11) + 0 ≤ R.locals) (hsz : ls.size = nL) (hr : (rest.map fun v => v.category).sum ≤ 8) (hc : cells + 0 ≤ R.cells ∧ slots + 0 ≤ R.slots) (hdg : decode cc pc = .ok (.invokevirtual index, 3))
    (kk : ∀ (H1 : Heap) (locs1 : List Loc), HP G w H1 → va_S (Ab G) s.heap H1 locs1 → W p l e R s m args below meth c H1 locs1 (cells + 0) (slots + 0) Q (F0 m (pc + 3) ls (.int (nI (x - 1)) :: rest))) : W p l e R s m args below meth c H locs cells slots Q (F0 m pc ls (kR G x :: rest)) := by
  rw [kR_ok g]
  refine c_oni (va_runU (As := []) (rest := rest) (Ts := TB) (nL := nL) (C := "HedgeNews$Kind") (owner := "java/lang/Enum") (x := ⟨"HedgeNews$Kind", "ordinal", "()I"⟩) ⟨hexec, hb, hml, hown, hts⟩ (c_ord l G (x - 1) (kok_el g).1 w) (va_cwU 0 hts (wsU_in m1 w2_222 w2_224 w2_225 w1_4 w2_226) rfl rfl rfl rfl (by decide +kernel) ⟨hf, hlo⟩) ⟨preK_blind, c_recE hE hS (kok_el g).1, fun U hU hW => c_pre hE hP hS hU hW⟩ rfl rfl hsz rfl (by simpa using hr) hdg hc) hS kk
theorem c_runSN {host : String} {As st0 : List Value} {y : MethodName} {bytes : ByteArray} {maxL n : Nat} {ret : Option FieldType} {rm : Room} {Qc : Array Value → State → Outcome → State → Prop} (hexec : p.tables.exec = Jvm.exec) (hb : c.code = cc) (hml : c.maxLocals = nL) (hown : s.vm.findClass own = some m.cls) (hts : ∀ w ∈ TB, w.before args s = true) (hE : KE G s) (hP : HP G w H) (hS : va_S (Ab G) s.heap H locs)
    (hM : Met l y (wsOf y bytes maxL ret) rm (PreK G w As) Qc rm.cells rm.slots (Ab G)) (m1 : (own, index, y, host) ∈ NWM) (mi : MS y bytes maxL ret n)
    (hR : rm.frames + 1 ≤ R.frames ∧ 8 + (maxL + 11) + rm.locals ≤ R.locals) (hn : As.length = n) (hsize : ls.size = nL) (hstack : st0 = As.reverse ++ rest) (hW : 2 * 0 + (rest.map fun v => v.category).sum ≤ 8) (hdg : decode cc pc = .ok (.invokestatic index, 3)) (hf : cells + rm.cells ≤ R.cells ∧ slots + rm.slots ≤ R.slots) :
    va_Run p l e R s m args below meth c H locs cells slots rm.cells rm.slots (F0 m pc ls st0) rest (Qc As.toArray) (Ab G) :=
  va_runSN (As := As) (rest := rest) (Ts := TB) ⟨hexec, hb, hml, hown, hts⟩ hM ⟨va_cnB n hts (tb_goodin (ws_in mi.2.2.1)) rfl rfl rfl (hE.2.2.1 _ m1) (hts _ mi.2.1) mi.2.2.2 hR, hts _ mi.1, trivial⟩ ⟨preK_blind, fun U hU hW => c_pre hE hP hS hU hW⟩ rfl hn hsize hstack hW hdg hf
theorem c_runIN {host : String} {b : Addr} {As st0 : List Value} {y : MethodName} {bytes : ByteArray} {maxL n : Nat} {rm : Room} {Qc : Array Value → State → Outcome → State → Prop} (hexec : p.tables.exec = Jvm.exec) (hb : c.code = cc) (hml : c.maxLocals = nL) (hown : s.vm.findClass own = some m.cls) (hts : ∀ w ∈ TB, w.before args s = true) (hE : KE G s) (hP : HP G w H) (hS : va_S (Ab G) s.heap H locs)
    (hM : Met l y (wsOf y bytes maxL none) rm (PreK G w (.ref b :: As)) Qc rm.cells rm.slots (Ab G)) (m1 : (own, index, y, host) ∈ NWM) (mi : MN y bytes maxL n)
    (hR : rm.frames + 1 ≤ R.frames ∧ 8 + (maxL + 11) + rm.locals ≤ R.locals) (hn : As.length = n) (hsize : ls.size = nL) (hstack : st0 = As.reverse ++ .ref b :: rest) (hW : 2 * 0 + (rest.map fun v => v.category).sum ≤ 8) (hdg : decode cc pc = .ok (.invokespecial index, 3)) (hf : cells + rm.cells ≤ R.cells ∧ slots + rm.slots ≤ R.slots) :
    va_Run p l e R s m args below meth c H locs cells slots rm.cells rm.slots (F0 m pc ls st0) rest (Qc (Value.ref b :: As).toArray) (Ab G) :=
  va_runIN (As := As) (rest := rest) (Ts := TB) ⟨hexec, hb, hml, hown, hts⟩ hM ⟨va_cnB n hts (tb_goodin (ws_in mi.2.2.1)) rfl rfl rfl (hE.2.2.1 _ m1) (hts _ mi.2.1) mi.2.2.2.2 hR, mi.2.2.2.1, hts _ mi.1⟩ ⟨preK_blind, fun U hU hW => c_pre hE hP hS hU hW⟩ rfl hn hsize hstack hW hdg hf
theorem c_runVE {x n : Nat} {As st0 : List Value} {y : MethodName} {bytes : ByteArray} {maxL : Nat} {ret : Option FieldType} {rm : Room} {Qc : Array Value → State → Outcome → State → Prop} (g : kok x = true) (hexec : p.tables.exec = Jvm.exec) (hb : c.code = cc) (hml : c.maxLocals = nL) (hown : s.vm.findClass own = some m.cls) (hts : ∀ w ∈ TB, w.before args s = true) (hE : KE G s) (hP : HP G w H) (hS : va_S (Ab G) s.heap H locs)
    (hM : Met l y (wsOf y bytes maxL ret) rm (PreK G w (kR G x :: As)) Qc rm.cells rm.slots (Ab G)) (m1 : Cond.methodLink own index y ∈ TB) (mi : MI "HedgeNews$Kind" y bytes maxL ret n)
    (hR : rm.frames + 1 ≤ R.frames ∧ 8 + (maxL + 11) + rm.locals ≤ R.locals) (hn : As.length = n) (hsize : ls.size = nL) (hstack : st0 = As.reverse ++ kR G x :: rest) (hW : 2 * 0 + (rest.map fun v => v.category).sum ≤ 8) (hdg : decode cc pc = .ok (.invokevirtual index, 3)) (hf : cells + rm.cells ≤ R.cells ∧ slots + rm.slots ≤ R.slots) :
    va_Run p l e R s m args below meth c H locs cells slots rm.cells rm.slots (F0 m pc ls st0) rest (Qc (Value.ref (gA G (x - 1)) :: As).toArray) (Ab G) := by
  rw [kR_ok g] at hM hstack
  exact c_runV hexec hb hml hown hts hE hP hS hM (c_recE hE hS (kok_el g).1) m1 mi hR hn hsize hstack hW hdg hf
end SPEC
theorem tb_sel {w : Cond} (i : Nat) (h : (k2_sels lw_privs)[i]? = some w) (g : goodWord w = true) : w ∈ TB := tb_in (List.mem_append_left _ (List.mem_of_getElem? h)) g
theorem inX1 : ∀ w ∈ wsX10, w ∈ TB := List.forall_mem_cons.mpr ⟨w2_1, List.forall_mem_cons.mpr ⟨w2_3, List.forall_mem_cons.mpr ⟨w2_5, List.forall_mem_cons.mpr ⟨w2_7, List.forall_mem_cons.mpr ⟨w2_9, List.forall_mem_cons.mpr ⟨w2_11, List.forall_mem_cons.mpr ⟨w2_13, List.forall_mem_cons.mpr ⟨w2_15, List.forall_mem_cons.mpr ⟨w2_17, fun _ h => absurd h List.not_mem_nil⟩⟩⟩⟩⟩⟩⟩⟩⟩
theorem inX2 : ∀ w ∈ wsX20, w ∈ TB := List.forall_mem_cons.mpr ⟨w1_145, List.forall_mem_cons.mpr ⟨w1_147, List.forall_mem_cons.mpr ⟨w1_149, fun _ h => absurd h List.not_mem_nil⟩⟩⟩
theorem inX3 : ∀ w ∈ wsX30, w ∈ TB := List.forall_mem_cons.mpr ⟨w1_182, List.forall_mem_cons.mpr ⟨w1_184, List.forall_mem_cons.mpr ⟨w1_186, List.forall_mem_cons.mpr ⟨w1_188, List.forall_mem_cons.mpr ⟨w1_190, fun _ h => absurd h List.not_mem_nil⟩⟩⟩⟩⟩
theorem inX5 : ∀ w ∈ wsX50, w ∈ TB := List.forall_mem_cons.mpr ⟨w1_103, List.forall_mem_cons.mpr ⟨w1_105, List.forall_mem_cons.mpr ⟨w1_107, fun _ h => absurd h List.not_mem_nil⟩⟩⟩
theorem inX6 : ∀ w ∈ wsX60, w ∈ TB := List.forall_mem_cons.mpr ⟨w1_122, List.forall_mem_cons.mpr ⟨w1_124, List.forall_mem_cons.mpr ⟨w1_126, List.forall_mem_cons.mpr ⟨w1_128, List.forall_mem_cons.mpr ⟨w1_130, List.forall_mem_cons.mpr ⟨w1_132, fun _ h => absurd h List.not_mem_nil⟩⟩⟩⟩⟩⟩
theorem inX7 : ∀ w ∈ wsX70, w ∈ TB := List.forall_mem_cons.mpr ⟨w2_75, List.forall_mem_cons.mpr ⟨w2_77, List.forall_mem_cons.mpr ⟨w2_79, List.forall_mem_cons.mpr ⟨w2_81, fun _ h => absurd h List.not_mem_nil⟩⟩⟩⟩
theorem inX8 : ∀ w ∈ wsX80, w ∈ TB := List.forall_mem_cons.mpr ⟨w2_46, List.forall_mem_cons.mpr ⟨w2_48, List.forall_mem_cons.mpr ⟨w2_50, List.forall_mem_cons.mpr ⟨w2_52, List.forall_mem_cons.mpr ⟨w2_54, List.forall_mem_cons.mpr ⟨w2_56, List.forall_mem_cons.mpr ⟨w2_58, List.forall_mem_cons.mpr ⟨w2_60, fun _ h => absurd h List.not_mem_nil⟩⟩⟩⟩⟩⟩⟩⟩
theorem inX9 : ∀ w ∈ wsX90, w ∈ TB := List.forall_mem_cons.mpr ⟨w1_210, List.forall_mem_cons.mpr ⟨w1_212, List.forall_mem_cons.mpr ⟨w1_214, List.forall_mem_cons.mpr ⟨w1_216, fun _ h => absurd h List.not_mem_nil⟩⟩⟩⟩
theorem inX10 : ∀ w ∈ wsX100, w ∈ TB := List.forall_mem_cons.mpr ⟨w1_49, List.forall_mem_cons.mpr ⟨w1_51, fun _ h => absurd h List.not_mem_nil⟩⟩
theorem inX11 : ∀ w ∈ wsX110, w ∈ TB := List.forall_mem_cons.mpr ⟨w1_74, List.forall_mem_cons.mpr ⟨w1_76, List.forall_mem_cons.mpr ⟨w1_78, List.forall_mem_cons.mpr ⟨w1_80, List.forall_mem_cons.mpr ⟨w1_82, List.forall_mem_cons.mpr ⟨w1_84, List.forall_mem_cons.mpr ⟨w1_86, List.forall_mem_cons.mpr ⟨w1_88, fun _ h => absurd h List.not_mem_nil⟩⟩⟩⟩⟩⟩⟩⟩
theorem inX12 : ∀ w ∈ wsX120, w ∈ TB := List.forall_mem_cons.mpr ⟨w2_95, List.forall_mem_cons.mpr ⟨w2_97, List.forall_mem_cons.mpr ⟨w2_99, List.forall_mem_cons.mpr ⟨w2_101, List.forall_mem_cons.mpr ⟨w2_103, List.forall_mem_cons.mpr ⟨w2_105, List.forall_mem_cons.mpr ⟨w2_107, List.forall_mem_cons.mpr ⟨w2_109, List.forall_mem_cons.mpr ⟨w2_111, List.forall_mem_cons.mpr ⟨w2_113, List.forall_mem_cons.mpr ⟨w2_115, fun _ h => absurd h List.not_mem_nil⟩⟩⟩⟩⟩⟩⟩⟩⟩⟩⟩
theorem inX13 : ∀ w ∈ wsX130, w ∈ TB := List.forall_mem_cons.mpr ⟨w6_29, List.forall_mem_cons.mpr ⟨w6_31, List.forall_mem_cons.mpr ⟨w6_33, List.forall_mem_cons.mpr ⟨w6_35, List.forall_mem_cons.mpr ⟨w6_37, List.forall_mem_cons.mpr ⟨w6_39, List.forall_mem_cons.mpr ⟨w6_41, List.forall_mem_cons.mpr ⟨w6_43, List.forall_mem_cons.mpr ⟨w6_45, List.forall_mem_cons.mpr ⟨w6_47, List.forall_mem_cons.mpr ⟨w6_49, List.forall_mem_cons.mpr ⟨w6_51, List.forall_mem_cons.mpr ⟨w6_53, List.forall_mem_cons.mpr ⟨w6_55, List.forall_mem_cons.mpr ⟨w6_57, List.forall_mem_cons.mpr ⟨w6_59, fun _ h => absurd h List.not_mem_nil⟩⟩⟩⟩⟩⟩⟩⟩⟩⟩⟩⟩⟩⟩⟩⟩
theorem inX14 : ∀ w ∈ wsX140, w ∈ TB := List.forall_mem_cons.mpr ⟨w6_89, List.forall_mem_cons.mpr ⟨w6_91, List.forall_mem_cons.mpr ⟨w6_93, List.forall_mem_cons.mpr ⟨w6_95, List.forall_mem_cons.mpr ⟨w6_97, List.forall_mem_cons.mpr ⟨w6_99, List.forall_mem_cons.mpr ⟨w6_101, List.forall_mem_cons.mpr ⟨w6_103, List.forall_mem_cons.mpr ⟨w6_105, List.forall_mem_cons.mpr ⟨w6_107, List.forall_mem_cons.mpr ⟨w6_109, List.forall_mem_cons.mpr ⟨w6_111, fun _ h => absurd h List.not_mem_nil⟩⟩⟩⟩⟩⟩⟩⟩⟩⟩⟩⟩
theorem inX15 : ∀ w ∈ wsX150, w ∈ TB := List.forall_mem_cons.mpr ⟨w6_144, List.forall_mem_cons.mpr ⟨w6_146, List.forall_mem_cons.mpr ⟨w6_148, List.forall_mem_cons.mpr ⟨w6_150, List.forall_mem_cons.mpr ⟨w6_152, List.forall_mem_cons.mpr ⟨w6_154, List.forall_mem_cons.mpr ⟨w6_156, List.forall_mem_cons.mpr ⟨w6_158, List.forall_mem_cons.mpr ⟨w6_160, List.forall_mem_cons.mpr ⟨w6_162, List.forall_mem_cons.mpr ⟨w6_164, List.forall_mem_cons.mpr ⟨w6_166, List.forall_mem_cons.mpr ⟨w6_168, List.forall_mem_cons.mpr ⟨w6_170, List.forall_mem_cons.mpr ⟨w6_172, List.forall_mem_cons.mpr ⟨w6_174, List.forall_mem_cons.mpr ⟨w6_176, List.forall_mem_cons.mpr ⟨w6_178, List.forall_mem_cons.mpr ⟨w6_180, List.forall_mem_cons.mpr ⟨w6_182, List.forall_mem_cons.mpr ⟨w6_184, List.forall_mem_cons.mpr ⟨w6_186, List.forall_mem_cons.mpr ⟨w6_188, fun _ h => absurd h List.not_mem_nil⟩⟩⟩⟩⟩⟩⟩⟩⟩⟩⟩⟩⟩⟩⟩⟩⟩⟩⟩⟩⟩⟩⟩
