theorem x_in0 : ∀ w ∈ (vx_atS "HedgeNews" 187 "java/lang/IndexOutOfBoundsException" ["java/lang/RuntimeException", "java/lang/Exception"]).filter goodWord, w ∈ TB := fun w h => tb_in ((show ∀ w ∈ (vx_atS "HedgeNews" 187 "java/lang/IndexOutOfBoundsException" ["java/lang/RuntimeException", "java/lang/Exception"]).filter goodWord, w ∈ lw_tbl by decide +kernel) w h) (List.mem_filter.mp h).2
theorem x_in1 : ∀ w ∈ (vx_atS "HedgeNews" 86 "java/lang/IllegalStateException" ["java/lang/RuntimeException", "java/lang/Exception"]).filter goodWord, w ∈ TB := fun w h => tb_in ((show ∀ w ∈ (vx_atS "HedgeNews" 86 "java/lang/IllegalStateException" ["java/lang/RuntimeException", "java/lang/Exception"]).filter goodWord, w ∈ lw_tbl by decide +kernel) w h) (List.mem_filter.mp h).2
theorem x_in2 : ∀ w ∈ (vx_atS "HedgeNews" 97 "java/lang/IllegalArgumentException" ["java/lang/RuntimeException", "java/lang/Exception"]).filter goodWord, w ∈ TB := fun w h => tb_in ((show ∀ w ∈ (vx_atS "HedgeNews" 97 "java/lang/IllegalArgumentException" ["java/lang/RuntimeException", "java/lang/Exception"]).filter goodWord, w ∈ lw_tbl by decide +kernel) w h) (List.mem_filter.mp h).2
theorem pj_inr {α : Type} {a r : α} {w w' : Mm} (h : some ((Sum.inr a : Nat ⊕ α), w) = some (Sum.inr r, w')) : a = r ∧ w = w' := by
  obtain ⟨h1, h2⟩ := Prod.mk.inj (so_el h)
  exact ⟨Sum.inr.inj h1, h2⟩
def bn {α β : Type} (e : Option ((Nat ⊕ α) × Mm)) (k : α → Mm → Option β) : Option β := match e with
  | some (.inr a, w) => k a w
  | _ => none
theorem bn_el {α β : Type} {e : Option ((Nat ⊕ α) × Mm)} {k : α → Mm → Option β} {r : β} (h : bn e k = some r) : ∃ a w, e = some (.inr a, w) ∧ k a w = some r := by
  unfold bn at h
  split at h
  · exact ⟨_, _, rfl, h⟩
  · cases h
def exn : Nat → String
  | 0 => "java/lang/IndexOutOfBoundsException"
  | 1 => "java/lang/IllegalStateException"
  | _ => "java/lang/IllegalArgumentException"
def lf {α : Type} (r : Nat ⊕ α) : Option Nat := match r with
  | .inl x => some x
  | .inr _ => none
def XX (G : GG) (o : Option Nat) (w' : Mm) : String → State → State → Prop := vx_X (fun (u : Mm) => ∃ z, gZ w' ≤ z ∧ u = pZ w' z) (fun E u t => (∃ x, o = some x ∧ E = exn x) ∧ HP G u t.heap) (Ab G)
def Qxi (G : GG) (res : Nat ⊕ Int32) (w' : Mm) : Array Value → State → Outcome → State → Prop := va_Qi (fun r (u : Mm) => res = .inr r ∧ u = w') (fun u t => HP G u t.heap) (Ab G)
def Qxl (G : GG) (res : Nat ⊕ Int64) (w' : Mm) : Array Value → State → Outcome → State → Prop := va_Ql (fun r (u : Mm) => res = .inr r ∧ u = w') (fun u t => HP G u t.heap) (Ab G)
def Qxv (G : GG) (res : Nat ⊕ Unit) (w' : Mm) : Array Value → State → Outcome → State → Prop := va_Qv (fun (u : Mm) => res = .inr () ∧ u = w') (fun u t => HP G u t.heap) (Ab G)
def Qxq (G : GG) (cd : Nat) (res : Nat ⊕ Option Nat) (w' : Mm) : Array Value → State → Outcome → State → Prop := va_Qq (fun r (u : Mm) => (∃ k, res = .inr k ∧ r = k.map (adr (gB G) cd)) ∧ u = w') (fun u t => HP G u t.heap) (Ab G)
def Xi (l : Launch) (G : GG) (y : MethodName) (cc : ByteArray) (maxL : Nat) (ret : Option FieldType) (rm : Room) (av : List Value) (w : Mm) (res : Nat ⊕ Int32) (w' : Mm) : Prop := vx_Met l y (wsOf y cc maxL ret) rm (PreK G w av) (Qxi G res w') (XX G (lf res) w') rm.cells rm.slots (Ab G)
def Xl (l : Launch) (G : GG) (y : MethodName) (cc : ByteArray) (maxL : Nat) (ret : Option FieldType) (rm : Room) (av : List Value) (w : Mm) (res : Nat ⊕ Int64) (w' : Mm) : Prop := vx_Met l y (wsOf y cc maxL ret) rm (PreK G w av) (Qxl G res w') (XX G (lf res) w') rm.cells rm.slots (Ab G)
def Xv (l : Launch) (G : GG) (y : MethodName) (cc : ByteArray) (maxL : Nat) (ret : Option FieldType) (rm : Room) (av : List Value) (w : Mm) (res : Nat ⊕ Unit) (w' : Mm) : Prop := vx_Met l y (wsOf y cc maxL ret) rm (PreK G w av) (Qxv G res w') (XX G (lf res) w') rm.cells rm.slots (Ab G)
def Xq (cd : Nat) (l : Launch) (G : GG) (y : MethodName) (cc : ByteArray) (maxL : Nat) (ret : Option FieldType) (rm : Room) (av : List Value) (w : Mm) (res : Nat ⊕ Option Nat) (w' : Mm) : Prop := vx_Met l y (wsOf y cc maxL ret) rm (PreK G w av) (Qxq G cd res w') (XX G (lf res) w') rm.cells rm.slots (Ab G)
theorem x_of {l : Launch} {G : GG} {y : MethodName} {cc : ByteArray} {maxL : Nat} {ret : Option FieldType} {rm : Room} {av : List Value} {w : Mm} {Qc : Array Value → State → Outcome → State → Prop} {XC : String → State → State → Prop} {mc ms : Nat} (hy : plainName y.cls = true) (hlen : (lg_sl av).length ≤ maxL)
    (body : ∀ (p : Program) (e : Env) (s : State) (m : MethodId) (args : Array Value) (below : List Frame) (meth : Method) (c : Code) (ls : Array Slot), p.tables.exec = Jvm.exec → c.code = cc → c.maxLocals = maxL → meth.sig.returnType = ret → s.vm.findClass y.cls = some m.cls → meth.locks = false → (∀ w ∈ TB, w.before args s = true) → (∀ x ∈ c.exceptionTable.toList, False) → HP G w s.heap → KE G s → lv_has ls maxL (lv_args 0 av) →
      W p l e rm s m args below meth c s.heap [] 0 0 (vx_MQ below Qc XC args s mc ms (Ab G)) (F0 m 0 ls [])) :
    vx_Met l y (wsOf y cc maxL ret) rm (PreK G w av) Qc XC mc ms (Ab G) := by
  refine vx_ofW (cc := cc) (maxL := maxL) (ret := ret) hy rfl ?_
  intro p e s m args below meth c s₁ B hml hnx hv
  obtain ⟨rfl, hP, hE⟩ := hv
  have hts := atoms_spec (ws := wsOf y cc maxL ret) B.pre
  rw [lg_entry_eq]
  exact body p e s m _ below meth c _ B.exec B.bytes hml B.returns (findClass_of_methodNamed B.named) B.notSynchronized (fun w hw => hts w (List.mem_cons_of_mem _ hw)) hnx hP hE (lv_entry av hlen)
section XROWS
variable {p : Program} {l : Launch} {e : Env} {R : Room} {s : State} {m : MethodId} {args : Array Value} {below : List Frame} {meth : Method} {c : Code} {H : Heap} {locs : List Loc} {cells slots : Nat} {Q : State → Prop} {Qc : Array Value → State → Outcome → State → Prop} {XC : String → State → State → Prop}
variable {cc : ByteArray} {pc : Nat} {ls : Array Slot} {rest st0 : List Value} {G : GG} {w w' : Mm} {b : Nat} {As : List Value} {own : String} {y : MethodName} {bytes : ByteArray} {maxL nL index n : Nat} {ret : Option FieldType} {rm : Room} {mc ms k nn : Nat}
theorem x_runV {C : String} (hexec : p.tables.exec = Jvm.exec) (hb : c.code = cc) (hml : c.maxLocals = nL) (hown : s.vm.findClass own = some m.cls) (hts : ∀ w ∈ TB, w.before args s = true) (hE : KE G s) (hP : HP G w H) (hS : va_S (Ab G) s.heap H locs)
    (hM : vx_Met l y (wsOf y bytes maxL ret) rm (PreK G w (.ref b :: As)) Qc XC rm.cells rm.slots (Ab G)) (hrec : ∃ cell : Cell, H[b]? = some cell ∧ cell.vm.isStatics = false ∧ s.vm.findClass C = some cell.cls) (m1 : Cond.methodLink own index y ∈ TB) (mi : MI C y bytes maxL ret n)
    (hR : rm.frames + 1 ≤ R.frames ∧ 8 + (maxL + 11) + rm.locals ≤ R.locals) (hn : As.length = n) (hsize : ls.size = nL) (hstack : st0 = As.reverse ++ .ref b :: rest) (hW : 2 * 0 + (rest.map fun v => v.category).sum ≤ 8) (hdg : decode cc pc = .ok (.invokevirtual index, 3)) (hf : cells + rm.cells ≤ R.cells ∧ slots + rm.slots ≤ R.slots) :
    vx_Run p l e R s m args below meth c H locs cells slots rm.cells rm.slots (F0 m pc ls st0) rest (Qc (Value.ref b :: As).toArray) XC (Ab G) :=
  vx_runV (As := As) (rest := rest) (Ts := TB) ⟨hexec, hb, hml, hown, hts⟩ hM (cwV n hts (wsV_in m1 mi) rfl rfl rfl mi.2.2.2.2 hR) ⟨preK_blind, hrec, fun U hU hW => c_pre hE hP hS hU hW⟩ rfl hn hsize hstack hW hdg hf
theorem x_runS (hexec : p.tables.exec = Jvm.exec) (hb : c.code = cc) (hml : c.maxLocals = nL) (hown : s.vm.findClass own = some m.cls) (hts : ∀ w ∈ TB, w.before args s = true) (hE : KE G s) (hP : HP G w H) (hS : va_S (Ab G) s.heap H locs)
    (hM : vx_Met l y (wsOf y bytes maxL ret) rm (PreK G w As) Qc XC rm.cells rm.slots (Ab G)) (m1 : Cond.methodLink own index y ∈ TB) (mi : MS y bytes maxL ret n)
    (hR : rm.frames + 1 ≤ R.frames ∧ 8 + (maxL + 11) + rm.locals ≤ R.locals) (hn : As.length = n) (hsize : ls.size = nL) (hstack : st0 = As.reverse ++ rest) (hW : 2 * 0 + (rest.map fun v => v.category).sum ≤ 8) (hdg : decode cc pc = .ok (.invokestatic index, 3)) (hf : cells + rm.cells ≤ R.cells ∧ slots + rm.slots ≤ R.slots) :
    vx_Run p l e R s m args below meth c H locs cells slots rm.cells rm.slots (F0 m pc ls st0) rest (Qc As.toArray) XC (Ab G) :=
  vx_runS (As := As) (rest := rest) (Ts := TB) ⟨hexec, hb, hml, hown, hts⟩ hM (va_cwS n hts (wsS_in m1 mi) rfl rfl rfl mi.2.2.2 hR) ⟨preK_blind, fun U hU hW => c_pre hE hP hS hU hW⟩ rfl hn hsize hstack hW hdg hf
abbrev XK (p : Program) (l : Launch) (e : Env) (R : Room) (s : State) (m : MethodId) (args : Array Value) (below : List Frame) (meth : Method) (c : Code) (G : GG) (w' : Mm) (o : Option Nat) (Hs : Nat) (cells slots : Nat) (Q : State → Prop) (g : JFrame) : Prop :=
  ∀ (x z : Nat) (H1 : Heap) (locs1 : List Loc) (ce : Cell) (q : Addr), o = some x → gZ w' ≤ z → HP G (pZ w' z) H1 → va_S (Ab G) s.heap H1 locs1 → H1[q]? = some ce → ce.vm = .none → s.vm.findClass (exn x) = some ce.cls → vx_W p l e R s m args below meth c H1 locs1 cells slots Q g q
theorem x_oni {res : Nat ⊕ Int32} {a : Array Value} (hr : vx_Run p l e R s m args below meth c H locs cells slots mc ms (F0 m pc ls st0) rest (Qxi G res w' a) (XX G (lf res) w') (Ab G)) (hS : va_S (Ab G) s.heap H locs)
    (kx : XK p l e R s m args below meth c G w' (lf res) H.size (cells + mc) (slots + ms) Q (F0 m pc ls rest))
    (kk : ∀ (r : Int32) (H1 : Heap) (locs1 : List Loc), res = .inr r → HP G w' H1 → va_S (Ab G) s.heap H1 locs1 → W p l e R s m args below meth c H1 locs1 (cells + mc) (slots + ms) Q (F0 m (pc + 3) ls (.int r :: rest))) : W p l e R s m args below meth c H locs cells slots Q (F0 m pc ls st0) :=
  vx_calli hr hS (fun q _ h => h) (fun q h => h) (fun q _ h => h) (fun E ce q9 u t H1 locs1 ht hvm hp hB hz hk hS1 h1 h2 h3 => by
    obtain ⟨z, hz9, rfl⟩ := hp
    obtain ⟨⟨x, hx, rfl⟩, hB⟩ := hB
    exact kx x z H1 locs1 ce q9 hx hz9 (by rw [← ht]; exact hB) hS1 h1 h2 h3) (fun r u t H1 locs1 ht hvm hp hB hz hk hS1 => by
    obtain ⟨h1, rfl⟩ := hp
    exact kk r H1 locs1 h1 (by rw [← ht]; exact hB) hS1)
theorem x_onl {res : Nat ⊕ Int64} {a : Array Value} (hr : vx_Run p l e R s m args below meth c H locs cells slots mc ms (F0 m pc ls st0) rest (Qxl G res w' a) (XX G (lf res) w') (Ab G)) (hS : va_S (Ab G) s.heap H locs)
    (kx : XK p l e R s m args below meth c G w' (lf res) H.size (cells + mc) (slots + ms) Q (F0 m pc ls rest))
    (kk : ∀ (r : Int64) (H1 : Heap) (locs1 : List Loc), res = .inr r → HP G w' H1 → va_S (Ab G) s.heap H1 locs1 → W p l e R s m args below meth c H1 locs1 (cells + mc) (slots + ms) Q (F0 m (pc + 3) ls (.long r :: rest))) : W p l e R s m args below meth c H locs cells slots Q (F0 m pc ls st0) :=
  vx_calll hr hS (fun q _ h => h) (fun q h => h) (fun q _ h => h) (fun E ce q9 u t H1 locs1 ht hvm hp hB hz hk hS1 h1 h2 h3 => by
    obtain ⟨z, hz9, rfl⟩ := hp
    obtain ⟨⟨x, hx, rfl⟩, hB⟩ := hB
    exact kx x z H1 locs1 ce q9 hx hz9 (by rw [← ht]; exact hB) hS1 h1 h2 h3) (fun r u t H1 locs1 ht hvm hp hB hz hk hS1 => by
    obtain ⟨h1, rfl⟩ := hp
    exact kk r H1 locs1 h1 (by rw [← ht]; exact hB) hS1)
theorem x_onv {res : Nat ⊕ Unit} {a : Array Value} (hr : vx_Run p l e R s m args below meth c H locs cells slots mc ms (F0 m pc ls st0) rest (Qxv G res w' a) (XX G (lf res) w') (Ab G)) (hS : va_S (Ab G) s.heap H locs)
    (kx : XK p l e R s m args below meth c G w' (lf res) H.size (cells + mc) (slots + ms) Q (F0 m pc ls rest))
    (kk : ∀ (H1 : Heap) (locs1 : List Loc), res = .inr () → HP G w' H1 → va_S (Ab G) s.heap H1 locs1 → W p l e R s m args below meth c H1 locs1 (cells + mc) (slots + ms) Q (F0 m (pc + 3) ls (rest))) : W p l e R s m args below meth c H locs cells slots Q (F0 m pc ls st0) :=
  vx_callv hr hS (fun q _ h => h) (fun q h => h) (fun q _ h => h) (fun E ce q9 u t H1 locs1 ht hvm hp hB hz hk hS1 h1 h2 h3 => by
    obtain ⟨z, hz9, rfl⟩ := hp
    obtain ⟨⟨x, hx, rfl⟩, hB⟩ := hB
    exact kx x z H1 locs1 ce q9 hx hz9 (by rw [← ht]; exact hB) hS1 h1 h2 h3) (fun u t H1 locs1 ht hvm hp hB hz hk hS1 => by
    obtain ⟨h1, rfl⟩ := hp
    exact kk H1 locs1 h1 (by rw [← ht]; exact hB) hS1)
theorem vx_callq {free : Addr → Prop} {A0 A1 : Nat → Prop} {H0 : Heap} {a : Array Value} {S SX : Type} {post : Option Nat → S → Prop} {px : SX → Prop} {B : S → State → Prop} {BX : String → SX → State → Prop} {AX : Nat → Prop} (hr : vx_Run p l e R s m args below meth c H locs cells slots mc ms (F0 m pc ls st0) rest (va_Qq post B A1 a) (vx_X px BX AX) free) (hS : va_S A0 H0 H locs) (hA : ∀ q, q < H.size → A1 q → A0 q) (hf : ∀ q, free q → A0 q) (hAX : ∀ q, q < H.size → AX q → A0 q)
    (kx : ∀ (E : String) (ce : Cell) (q9 : Addr) (u : SX) (t : State) (H1 : Heap) (locs1 : List Loc), t.heap = H1 → s.vm.Alike t.vm → px u → BX E u t → H.size ≤ H1.size → (∀ q : Nat, q < H.size → ¬ AX q → H1[q]? = H[q]?) → va_S A0 H0 H1 locs1 → H1[q9]? = some ce → ce.vm = .none → s.vm.findClass E = some ce.cls → vx_W p l e R s m args below meth c H1 locs1 (cells + mc) (slots + ms) Q (F0 m pc ls rest) q9)
    (kk : ∀ (r : Option Nat) (u : S) (t : State) (H1 : Heap) (locs1 : List Loc), t.heap = H1 → s.vm.Alike t.vm → post r u → B u t → H.size ≤ H1.size → (∀ q : Nat, q < H.size → ¬ A1 q → H1[q]? = H[q]?) → va_S A0 H0 H1 locs1 → W p l e R s m args below meth c H1 locs1 (cells + mc) (slots + ms) Q (F0 m (pc + 3) ls (va_rf r :: rest))) : W p l e R s m args below meth c H locs cells slots Q (F0 m pc ls st0) := by
  intro T hT X
  rcases hr T hT X with ⟨v, st₀, t, T', L, h0, X', hL, e1, e2, ⟨⟨r, u, hv, hp, hb⟩, hF⟩, st⟩ | ⟨q, st₀, t, T', L, E, ce, h0, X', hL, e1, e2, ⟨u, hp, hb, hF⟩, hce, hcv, hcl, st⟩
  · cases hv
    obtain ⟨k1, k2, k3⟩ := vx_keep h0 e1 hS hA hf hL hF
    obtain ⟨t2, a1, b1⟩ := kk r u t T'.heap (locs ++ L) e1.symm (by rw [← e2]; exact X'.warmed.alike) hp hb k1 k2 k3 T' rfl X'
    exact ⟨t2, st t2 a1, b1⟩
  · obtain ⟨k1, k2, k3⟩ := vx_keep h0 e1 hS hAX hf hL hF
    obtain ⟨t2, a1, b1⟩ := kx E ce q u t T'.heap (locs ++ L) e1.symm (by rw [← e2]; exact X'.warmed.alike) hp hb k1 k2 k3 (by rw [e1]; exact hce) hcv hcl T' rfl X'
    exact ⟨t2, st.trans a1, b1⟩
theorem x_onq {cd : Nat} {res : Nat ⊕ Option Nat} {a : Array Value} (hr : vx_Run p l e R s m args below meth c H locs cells slots mc ms (F0 m pc ls st0) rest (Qxq G cd res w' a) (XX G (lf res) w') (Ab G)) (hS : va_S (Ab G) s.heap H locs)
    (kx : XK p l e R s m args below meth c G w' (lf res) H.size (cells + mc) (slots + ms) Q (F0 m pc ls rest))
    (kk : ∀ (r : Option Nat) (H1 : Heap) (locs1 : List Loc), res = .inr r → HP G w' H1 → va_S (Ab G) s.heap H1 locs1 → W p l e R s m args below meth c H1 locs1 (cells + mc) (slots + ms) Q (F0 m (pc + 3) ls (va_rf (r.map (adr (gB G) cd)) :: rest))) : W p l e R s m args below meth c H locs cells slots Q (F0 m pc ls st0) :=
  vx_callq hr hS (fun q _ h => h) (fun q h => h) (fun q _ h => h) (fun E ce q9 u t H1 locs1 ht hvm hp hB hz hk hS1 h1 h2 h3 => by
    obtain ⟨z, hz9, rfl⟩ := hp
    obtain ⟨⟨x, hx, rfl⟩, hB⟩ := hB
    exact kx x z H1 locs1 ce q9 hx hz9 (by rw [← ht]; exact hB) hS1 h1 h2 h3) (fun r u t H1 locs1 ht hvm hp hB hz hk hS1 => by
    obtain ⟨⟨k, h1, rfl⟩, rfl⟩ := hp
    exact kk k H1 locs1 h1 (by rw [← ht]; exact hB) hS1)
/-- an exception that isn't caught here goes on -/
theorem x_out {o : Option Nat} {w1 : Mm} {H9 : Nat} (hnx : ∀ x ∈ c.exceptionTable.toList, False) (hlocks : meth.locks = false) (hi : ∀ x, o = some x → ∃ o2, o2 = some x ∧ XC = XX G o2 w1) (h1 : cells ≤ mc) (h2 : slots ≤ ms) : XK p l e R s m args below meth c G w1 o H9 cells slots (vx_MQ below Qc XC args s mc ms (Ab G)) (F0 m pc ls rest) := by
  intro x z H1 locs1 ce q hx hz hP hS hc hv hcl
  obtain ⟨o2, ho2, rfl⟩ := hi x hx
  exact vx_out (fun x hx => (hnx x hx).elim) hlocks hc hv hcl (fun t ht _ => ⟨pZ w1 z, ⟨z, hz, rfl⟩, ⟨⟨x, ho2, rfl⟩, by rw [ht]; exact hP⟩, hS.F ht⟩) hS.2.2 h1 h2
theorem ex_i {ty : FieldType} {res : Nat ⊕ Int32} {v : Int32} (hexec : p.tables.exec = Jvm.exec) (hb : c.code = cc) (hr : meth.sig.returnType = some ty) (hn : narrow ty (.int v) = .int v) (hlocks : meth.locks = false) (hP : HP G w H) (hS : va_S (Ab G) s.heap H locs) (h1 : k ≤ mc) (h2 : nn ≤ ms) (hv : Sum.inr v = res ∧ w = w') (hdg : decode cc pc = .ok (.ireturn, 1)) :
    W p l e R s m args below meth c H locs k nn (vx_MQ below (Qxi G res w') XC args s mc ms (Ab G)) (F0 m pc ls [.int v]) :=
  vx_ret (W.widen h1 h2 (W.zret hexec hb hr hn (fun t ht hW => ⟨⟨v, w, rfl, ⟨hv.1.symm, hv.2⟩, show HP G w t.heap by rw [ht]; exact hP⟩, hS.F ht⟩) hS.2.2 hdg hlocks))
theorem ex_l {res : Nat ⊕ Int64} {v : Int64} (hexec : p.tables.exec = Jvm.exec) (hb : c.code = cc) (hr : meth.sig.returnType = some .long) (hlocks : meth.locks = false) (hP : HP G w H) (hS : va_S (Ab G) s.heap H locs) (h1 : k ≤ mc) (h2 : nn ≤ ms) (hv : Sum.inr v = res ∧ w = w') (hdg : decode cc pc = .ok (.lreturn, 1)) :
    W p l e R s m args below meth c H locs k nn (vx_MQ below (Qxl G res w') XC args s mc ms (Ab G)) (F0 m pc ls [.long v]) :=
  vx_ret (W.widen h1 h2 (W.lret hexec hb hr (fun t ht hW => ⟨⟨v, w, rfl, ⟨hv.1.symm, hv.2⟩, show HP G w t.heap by rw [ht]; exact hP⟩, hS.F ht⟩) hS.2.2 hdg hlocks))
theorem ex_v {res : Nat ⊕ Unit} (hexec : p.tables.exec = Jvm.exec) (hb : c.code = cc) (hr : meth.sig.returnType = none) (hlocks : meth.locks = false) (hP : HP G w H) (hS : va_S (Ab G) s.heap H locs) (h1 : k ≤ mc) (h2 : nn ≤ ms) (hv : Sum.inr () = res ∧ w = w') (hdg : decode cc pc = .ok (.return_, 1)) :
    W p l e R s m args below meth c H locs k nn (vx_MQ below (Qxv G res w') XC args s mc ms (Ab G)) (F0 m pc ls []) :=
  vx_ret (W.widen h1 h2 (W.vret hexec hb hr (fun t ht hW => ⟨⟨w, rfl, ⟨hv.1.symm, hv.2⟩, show HP G w t.heap by rw [ht]; exact hP⟩, hS.F ht⟩) hS.2.2 hdg hlocks))
theorem ex_q {cd : Nat} {rt : FieldType} {res : Nat ⊕ Option Nat} {o : Option Nat} (hexec : p.tables.exec = Jvm.exec) (hb : c.code = cc) (hr : meth.sig.returnType = some rt) (hrt : (∃ n, rt = .object n) ∨ ∃ t, rt = .array t) (hlocks : meth.locks = false) (hP : HP G w H) (hS : va_S (Ab G) s.heap H locs) (h1 : k ≤ mc) (h2 : nn ≤ ms) (hv : Sum.inr o = res ∧ w = w') (hdg : decode cc pc = .ok (.areturn, 1)) :
    W p l e R s m args below meth c H locs k nn (vx_MQ below (Qxq G cd res w') XC args s mc ms (Ab G)) (F0 m pc ls [va_rf (o.map (adr (gB G) cd))]) :=
  vx_ret (W.widen h1 h2 (W.aret hexec hb hr hrt (va_rf_or _) (fun t ht hW => ⟨⟨_, w, rfl, ⟨⟨o, hv.1.symm, rfl⟩, hv.2⟩, show HP G w t.heap by rw [ht]; exact hP⟩, hS.F ht⟩) hS.2.2 hdg hlocks))
theorem k_deref {a : Nat} {f : Nat → Nat} (k : W p l e R s m args below meth c H locs cells slots Q (F0 m pc ls (.ref (f a) :: rest))) : W p l e R s m args below meth c H locs cells slots Q (F0 m pc ls (va_rf ((some a).map f) :: rest)) := k
theorem k_deref1 {a : Nat} {f : Nat → Nat} {x : Value} (k : W p l e R s m args below meth c H locs cells slots Q (F0 m pc ls (x :: .ref (f a) :: rest))) : W p l e R s m args below meth c H locs cells slots Q (F0 m pc ls (x :: va_rf ((some a).map f) :: rest)) := k
theorem k_deref2 {a : Nat} {f : Nat → Nat} {x y : Value} (k : W p l e R s m args below meth c H locs cells slots Q (F0 m pc ls (x :: y :: .ref (f a) :: rest))) : W p l e R s m args below meth c H locs cells slots Q (F0 m pc ls (x :: y :: va_rf ((some a).map f) :: rest)) := k
theorem k_deref3 {a : Nat} {f : Nat → Nat} {x y z : Value} (k : W p l e R s m args below meth c H locs cells slots Q (F0 m pc ls (x :: y :: z :: .ref (f a) :: rest))) : W p l e R s m args below meth c H locs cells slots Q (F0 m pc ls (x :: y :: z :: va_rf ((some a).map f) :: rest)) := k
theorem HP_pZ {w : Mm} {H H1 : Heap} (hP : HP G w H) (h1 : H.size ≤ H1.size) (h2 : ∀ q : Nat, q < H.size → H1[q]? = H[q]?) : HP G (pZ w H1.size) H1 := by
  refine ⟨rfl, Nat.le_trans hP.2.1 (by rw [← hP.1]; exact h1), fun a c k st h hc => ?_, fun hf => hP.2.2.2 hf⟩
  obtain ⟨q1, q2, q3⟩ := hP.2.2.1 a c k st h hc
  exact ⟨q1, q2, q3.kept (h2 a q3.lt)⟩
theorem x_hat0 {args : Array Value} {s : State} {G : GG} (hts : ∀ w ∈ TB, w.before args s = true) (hE : KE G s) : ∀ w ∈ vx_atS "HedgeNews" 187 "java/lang/IndexOutOfBoundsException" ["java/lang/RuntimeException", "java/lang/Exception"], w.before args s = true :=
  vx_hat (B := NWD.map Cond.declares ++ NWC.map (fun q => Cond.castable q.1 q.2)) (fun w h => hts w (x_in0 w h)) (by decide +kernel) (fun w h => by
    rcases List.mem_append.mp h with q | q
    · obtain ⟨d, hd, rfl⟩ := List.mem_map.mp q
      exact va_Nw.use rfl (hE.2.2.2.2.2.2.2.2.1 d hd)
    · obtain ⟨d, hd, rfl⟩ := List.mem_map.mp q
      exact va_Nw.use rfl (hE.2.2.2.2.2.2.2.2.2.1 d hd))
theorem x_good0 {ik : Nat} : ∀ w ∈ Cond.classLink "HedgeNews" ik "java/lang/IndexOutOfBoundsException" :: Cond.initialized "java/lang/IndexOutOfBoundsException" :: vx_atS "HedgeNews" 187 "java/lang/IndexOutOfBoundsException" ["java/lang/RuntimeException", "java/lang/Exception"], vx_ot w = true := by
  intro w h
  rcases List.mem_cons.mp h with rfl | h
  · rfl
  rcases List.mem_cons.mp h with rfl | h
  · rfl
  exact List.all_eq_true.mp (show (vx_atS "HedgeNews" 187 "java/lang/IndexOutOfBoundsException" ["java/lang/RuntimeException", "java/lang/Exception"]).all vx_ot = true by decide +kernel) w h
theorem x_throw0 {ik is j : Nat} {text : String} (hexec : p.tables.exec = Jvm.exec) (hb : c.code = cc) (hl : l.stackTraces = false) (hown : s.vm.findClass "HedgeNews" = some m.cls) (hts : ∀ w ∈ TB, w.before args s = true) (hE : KE G s) (hnx : ∀ x ∈ c.exceptionTable.toList, False) (hlocks : meth.locks = false) (hP : HP G w H) (hS : va_S (Ab G) s.heap H locs) (m1 : Cond.classLink "HedgeNews" ik "java/lang/IndexOutOfBoundsException" ∈ TB) (hm : MSG[j]? = some ("HedgeNews", is, text)) (hsz : ls.size = c.maxLocals)
    (d0 : decode cc pc = .ok (.new ik, 3)) (d3 : decode cc (pc + 3) = .ok (.dup, 1)) (d4 : decode cc (pc + 4) = .ok (.ldc is, 2)) (d6 : decode cc (pc + 6) = .ok (.invokespecial 187, 3)) (d9 : decode cc (pc + 9) = .ok (.athrow, 1))
    (hf : 5 < R.frames) (hlo : 8 + 82 ≤ R.locals) (hr : (rest.map fun v => v.category).sum ≤ 8) (hc1 : cells + 1 ≤ R.cells) (hs1 : slots + 6 ≤ R.slots) (hc : cells + 1 ≤ mc) (hs : slots + 6 ≤ ms) (ho : XC = XX G (some 0) w) :
    W p l e R s m args below meth c H locs cells slots (vx_MQ below Qc XC args s mc ms (Ab G)) (F0 m pc ls rest) := by
  subst ho
  refine vx_throwS (cls := "java/lang/IndexOutOfBoundsException") (names := ["java/lang/RuntimeException", "java/lang/Exception"]) (A := Ab G) hexec hb hl hown (by decide +kernel) (by decide +kernel) (hts _ m1) (hts _ w1_30) (hE.2.2.2.2.2.2.2.2.2.2.2.1 j _ hm) (x_hat0 hts hE) x_good0 hE.2.2.2.2.2.2.2.2.2.2.1.1 hE.2.2.2.2.2.2.2.2.2.2.1.2 hS hsz d0 d3 d4 d6 d9 (fun x hx => (hnx x hx).elim) hf (by simp only [List.length_cons, List.length_nil]; omega) hc1 hs1 hlocks (fun t hvm h1 h2 => ?_) hS.2.2 hc hs
  have hZ := HP_pZ hP h1 h2
  exact ⟨pZ w t.heap.size, ⟨_, by rw [← hP.1]; exact h1, rfl⟩, ⟨⟨0, rfl, rfl⟩, hZ⟩, ⟨Nat.le_trans hS.1 h1, fun q h3 h4 => (h2 q (Nat.lt_of_lt_of_le h3 hS.1)).trans (hS.2.1 q h3 h4)⟩⟩
theorem x_hat1 {args : Array Value} {s : State} {G : GG} (hts : ∀ w ∈ TB, w.before args s = true) (hE : KE G s) : ∀ w ∈ vx_atS "HedgeNews" 86 "java/lang/IllegalStateException" ["java/lang/RuntimeException", "java/lang/Exception"], w.before args s = true :=
  vx_hat (B := NWD.map Cond.declares ++ NWC.map (fun q => Cond.castable q.1 q.2)) (fun w h => hts w (x_in1 w h)) (by decide +kernel) (fun w h => by
    rcases List.mem_append.mp h with q | q
    · obtain ⟨d, hd, rfl⟩ := List.mem_map.mp q
      exact va_Nw.use rfl (hE.2.2.2.2.2.2.2.2.1 d hd)
    · obtain ⟨d, hd, rfl⟩ := List.mem_map.mp q
      exact va_Nw.use rfl (hE.2.2.2.2.2.2.2.2.2.1 d hd))
theorem x_good1 {ik : Nat} : ∀ w ∈ Cond.classLink "HedgeNews" ik "java/lang/IllegalStateException" :: Cond.initialized "java/lang/IllegalStateException" :: vx_atS "HedgeNews" 86 "java/lang/IllegalStateException" ["java/lang/RuntimeException", "java/lang/Exception"], vx_ot w = true := by
  intro w h
  rcases List.mem_cons.mp h with rfl | h
  · rfl
  rcases List.mem_cons.mp h with rfl | h
  · rfl
  exact List.all_eq_true.mp (show (vx_atS "HedgeNews" 86 "java/lang/IllegalStateException" ["java/lang/RuntimeException", "java/lang/Exception"]).all vx_ot = true by decide +kernel) w h
theorem x_throw1 {ik is j : Nat} {text : String} (hexec : p.tables.exec = Jvm.exec) (hb : c.code = cc) (hl : l.stackTraces = false) (hown : s.vm.findClass "HedgeNews" = some m.cls) (hts : ∀ w ∈ TB, w.before args s = true) (hE : KE G s) (hnx : ∀ x ∈ c.exceptionTable.toList, False) (hlocks : meth.locks = false) (hP : HP G w H) (hS : va_S (Ab G) s.heap H locs) (m1 : Cond.classLink "HedgeNews" ik "java/lang/IllegalStateException" ∈ TB) (hm : MSG[j]? = some ("HedgeNews", is, text)) (hsz : ls.size = c.maxLocals)
    (d0 : decode cc pc = .ok (.new ik, 3)) (d3 : decode cc (pc + 3) = .ok (.dup, 1)) (d4 : decode cc (pc + 4) = .ok (.ldc is, 2)) (d6 : decode cc (pc + 6) = .ok (.invokespecial 86, 3)) (d9 : decode cc (pc + 9) = .ok (.athrow, 1))
    (hf : 5 < R.frames) (hlo : 8 + 82 ≤ R.locals) (hr : (rest.map fun v => v.category).sum ≤ 8) (hc1 : cells + 1 ≤ R.cells) (hs1 : slots + 6 ≤ R.slots) (hc : cells + 1 ≤ mc) (hs : slots + 6 ≤ ms) (ho : XC = XX G (some 1) w) :
    W p l e R s m args below meth c H locs cells slots (vx_MQ below Qc XC args s mc ms (Ab G)) (F0 m pc ls rest) := by
  subst ho
  refine vx_throwS (cls := "java/lang/IllegalStateException") (names := ["java/lang/RuntimeException", "java/lang/Exception"]) (A := Ab G) hexec hb hl hown (by decide +kernel) (by decide +kernel) (hts _ m1) (hts _ w1_20) (hE.2.2.2.2.2.2.2.2.2.2.2.1 j _ hm) (x_hat1 hts hE) x_good1 hE.2.2.2.2.2.2.2.2.2.2.1.1 hE.2.2.2.2.2.2.2.2.2.2.1.2 hS hsz d0 d3 d4 d6 d9 (fun x hx => (hnx x hx).elim) hf (by simp only [List.length_cons, List.length_nil]; omega) hc1 hs1 hlocks (fun t hvm h1 h2 => ?_) hS.2.2 hc hs
  have hZ := HP_pZ hP h1 h2
  exact ⟨pZ w t.heap.size, ⟨_, by rw [← hP.1]; exact h1, rfl⟩, ⟨⟨1, rfl, rfl⟩, hZ⟩, ⟨Nat.le_trans hS.1 h1, fun q h3 h4 => (h2 q (Nat.lt_of_lt_of_le h3 hS.1)).trans (hS.2.1 q h3 h4)⟩⟩
theorem x_hat2 {args : Array Value} {s : State} {G : GG} (hts : ∀ w ∈ TB, w.before args s = true) (hE : KE G s) : ∀ w ∈ vx_atS "HedgeNews" 97 "java/lang/IllegalArgumentException" ["java/lang/RuntimeException", "java/lang/Exception"], w.before args s = true :=
  vx_hat (B := NWD.map Cond.declares ++ NWC.map (fun q => Cond.castable q.1 q.2)) (fun w h => hts w (x_in2 w h)) (by decide +kernel) (fun w h => by
    rcases List.mem_append.mp h with q | q
    · obtain ⟨d, hd, rfl⟩ := List.mem_map.mp q
      exact va_Nw.use rfl (hE.2.2.2.2.2.2.2.2.1 d hd)
    · obtain ⟨d, hd, rfl⟩ := List.mem_map.mp q
      exact va_Nw.use rfl (hE.2.2.2.2.2.2.2.2.2.1 d hd))
theorem x_good2 {ik : Nat} : ∀ w ∈ Cond.classLink "HedgeNews" ik "java/lang/IllegalArgumentException" :: Cond.initialized "java/lang/IllegalArgumentException" :: vx_atS "HedgeNews" 97 "java/lang/IllegalArgumentException" ["java/lang/RuntimeException", "java/lang/Exception"], vx_ot w = true := by
  intro w h
  rcases List.mem_cons.mp h with rfl | h
  · rfl
  rcases List.mem_cons.mp h with rfl | h
  · rfl
  exact List.all_eq_true.mp (show (vx_atS "HedgeNews" 97 "java/lang/IllegalArgumentException" ["java/lang/RuntimeException", "java/lang/Exception"]).all vx_ot = true by decide +kernel) w h
theorem x_throw2 {ik is j : Nat} {text : String} (hexec : p.tables.exec = Jvm.exec) (hb : c.code = cc) (hl : l.stackTraces = false) (hown : s.vm.findClass "HedgeNews" = some m.cls) (hts : ∀ w ∈ TB, w.before args s = true) (hE : KE G s) (hnx : ∀ x ∈ c.exceptionTable.toList, False) (hlocks : meth.locks = false) (hP : HP G w H) (hS : va_S (Ab G) s.heap H locs) (m1 : Cond.classLink "HedgeNews" ik "java/lang/IllegalArgumentException" ∈ TB) (hm : MSG[j]? = some ("HedgeNews", is, text)) (hsz : ls.size = c.maxLocals)
    (d0 : decode cc pc = .ok (.new ik, 3)) (d3 : decode cc (pc + 3) = .ok (.dup, 1)) (d4 : decode cc (pc + 4) = .ok (.ldc is, 2)) (d6 : decode cc (pc + 6) = .ok (.invokespecial 97, 3)) (d9 : decode cc (pc + 9) = .ok (.athrow, 1))
    (hf : 5 < R.frames) (hlo : 8 + 82 ≤ R.locals) (hr : (rest.map fun v => v.category).sum ≤ 8) (hc1 : cells + 1 ≤ R.cells) (hs1 : slots + 6 ≤ R.slots) (hc : cells + 1 ≤ mc) (hs : slots + 6 ≤ ms) (ho : XC = XX G (some 2) w) :
    W p l e R s m args below meth c H locs cells slots (vx_MQ below Qc XC args s mc ms (Ab G)) (F0 m pc ls rest) := by
  subst ho
  refine vx_throwS (cls := "java/lang/IllegalArgumentException") (names := ["java/lang/RuntimeException", "java/lang/Exception"]) (A := Ab G) hexec hb hl hown (by decide +kernel) (by decide +kernel) (hts _ m1) (hts _ w1_21) (hE.2.2.2.2.2.2.2.2.2.2.2.1 j _ hm) (x_hat2 hts hE) x_good2 hE.2.2.2.2.2.2.2.2.2.2.1.1 hE.2.2.2.2.2.2.2.2.2.2.1.2 hS hsz d0 d3 d4 d6 d9 (fun x hx => (hnx x hx).elim) hf (by simp only [List.length_cons, List.length_nil]; omega) hc1 hs1 hlocks (fun t hvm h1 h2 => ?_) hS.2.2 hc hs
  have hZ := HP_pZ hP h1 h2
  exact ⟨pZ w t.heap.size, ⟨_, by rw [← hP.1]; exact h1, rfl⟩, ⟨⟨2, rfl, rfl⟩, hZ⟩, ⟨Nat.le_trans hS.1 h1, fun q h3 h4 => (h2 q (Nat.lt_of_lt_of_le h3 hS.1)).trans (hS.2.1 q h3 h4)⟩⟩
theorem x_throwW2 {ik is j : Nat} {text : String} (hexec : p.tables.exec = Jvm.exec) (hb : c.code = cc) (hl : l.stackTraces = false) (hown : s.vm.findClass "HedgeNews" = some m.cls) (hts : ∀ w ∈ TB, w.before args s = true) (hE : KE G s) (hnx : ∀ x ∈ c.exceptionTable.toList, False) (hlocks : meth.locks = false) (hP : HP G w H) (hS : va_S (Ab G) s.heap H locs) (m1 : Cond.classLink "HedgeNews" ik "java/lang/IllegalArgumentException" ∈ TB) (hm : MSG[j]? = some ("HedgeNews", is, text)) (hsz : ls.size = c.maxLocals)
    (d0 : decode cc pc = .ok (.new ik, 3)) (d3 : decode cc (pc + 3) = .ok (.dup, 1)) (d4 : decode cc (pc + 4) = .ok (.ldc_w is, 3)) (d6 : decode cc (pc + 7) = .ok (.invokespecial 97, 3)) (d9 : decode cc (pc + 10) = .ok (.athrow, 1))
    (hf : 5 < R.frames) (hlo : 8 + 82 ≤ R.locals) (hr : (rest.map fun v => v.category).sum ≤ 8) (hc1 : cells + 1 ≤ R.cells) (hs1 : slots + 6 ≤ R.slots) (hc : cells + 1 ≤ mc) (hs : slots + 6 ≤ ms) (ho : XC = XX G (some 2) w) :
    W p l e R s m args below meth c H locs cells slots (vx_MQ below Qc XC args s mc ms (Ab G)) (F0 m pc ls rest) := by
  subst ho
  refine vx_throwSW (cls := "java/lang/IllegalArgumentException") (names := ["java/lang/RuntimeException", "java/lang/Exception"]) (A := Ab G) hexec hb hl hown (by decide +kernel) (by decide +kernel) (hts _ m1) (hts _ w1_21) (hE.2.2.2.2.2.2.2.2.2.2.2.1 j _ hm) (x_hat2 hts hE) x_good2 hE.2.2.2.2.2.2.2.2.2.2.1.1 hE.2.2.2.2.2.2.2.2.2.2.1.2 hS hsz d0 d3 d4 d6 d9 (fun x hx => (hnx x hx).elim) hf (by simp only [List.length_cons, List.length_nil]; omega) hc1 hs1 hlocks (fun t hvm h1 h2 => ?_) hS.2.2 hc hs
  have hZ := HP_pZ hP h1 h2
  exact ⟨pZ w t.heap.size, ⟨_, by rw [← hP.1]; exact h1, rfl⟩, ⟨⟨2, rfl, rfl⟩, hZ⟩, ⟨Nat.le_trans hS.1 h1, fun q h3 h4 => (h2 q (Nat.lt_of_lt_of_le h3 hS.1)).trans (hS.2.1 q h3 h4)⟩⟩
theorem x_hi {α β : Type} {a : Nat ⊕ α} {res : Nat ⊕ β} {w1 : Mm} (hi : ∀ x, a = .inl x → (res, w') = (.inl x, w1)) : ∀ x, lf a = some x → ∃ o2, o2 = some x ∧ XX G (lf res) w' = XX G o2 w1 := by
  intro x hx
  cases a with
  | inl y =>
    cases hx
    obtain ⟨h1, h2⟩ := Prod.mk.inj (hi x rfl)
    exact ⟨some x, rfl, by rw [h1, h2]; rfl⟩
  | inr y => cases hx
end XROWS
