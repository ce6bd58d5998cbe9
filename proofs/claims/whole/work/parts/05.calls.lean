abbrev wsOf (y : MethodName) (cc : ByteArray) (maxL : Nat) (ret : Option FieldType) : List Cond := Cond.code y cc maxL ret :: TB
def PreK (G : GG) (w : Mm) (av : List Value) : Array Value → State → Prop := va_Pc av (fun U => HP G w U.heap ∧ KE G U)
theorem preK_blind {G : GG} {w : Mm} {av : List Value} : FrameBlind (PreK G w av) := fun a U g mk h => ⟨h.1, h.2.1, KE.step h.2.2 va_S.rf rfl (State.WarmedH.refl U)⟩
def Ki (l : Launch) (G : GG) (y : MethodName) (cc : ByteArray) (maxL : Nat) (ret : Option FieldType) (rm : Room) (av : List Value) (w : Mm) (r : Int32) (w' : Mm) : Prop :=
  Met l y (wsOf y cc maxL ret) rm (PreK G w av) (va_Qi (fun r' (u : Mm) => r' = r ∧ u = w') (fun u t => HP G u t.heap) (Ab G)) rm.cells rm.slots (Ab G)
def Kl (l : Launch) (G : GG) (y : MethodName) (cc : ByteArray) (maxL : Nat) (ret : Option FieldType) (rm : Room) (av : List Value) (w : Mm) (r : Int64) (w' : Mm) : Prop :=
  Met l y (wsOf y cc maxL ret) rm (PreK G w av) (va_Ql (fun r' (u : Mm) => r' = r ∧ u = w') (fun u t => HP G u t.heap) (Ab G)) rm.cells rm.slots (Ab G)
def Kd (l : Launch) (G : GG) (y : MethodName) (cc : ByteArray) (maxL : Nat) (ret : Option FieldType) (rm : Room) (av : List Value) (w : Mm) (r : UInt64) (w' : Mm) : Prop :=
  Met l y (wsOf y cc maxL ret) rm (PreK G w av) (va_Qd (fun r' (u : Mm) => r' = r ∧ u = w') (fun u t => HP G u t.heap) (Ab G)) rm.cells rm.slots (Ab G)
def Kq (l : Launch) (G : GG) (y : MethodName) (cc : ByteArray) (maxL : Nat) (ret : Option FieldType) (rm : Room) (av : List Value) (w : Mm) (r : Option Nat) (w' : Mm) : Prop :=
  Met l y (wsOf y cc maxL ret) rm (PreK G w av) (va_Qq (fun r' (u : Mm) => r' = r ∧ u = w') (fun u t => HP G u t.heap) (Ab G)) rm.cells rm.slots (Ab G)
def Kv (l : Launch) (G : GG) (y : MethodName) (cc : ByteArray) (maxL : Nat) (ret : Option FieldType) (rm : Room) (av : List Value) (w : Mm) (w' : Mm) : Prop :=
  Met l y (wsOf y cc maxL ret) rm (PreK G w av) (va_Qv (fun (u : Mm) => u = w') (fun u t => HP G u t.heap) (Ab G)) rm.cells rm.slots (Ab G)
/-- what a call needs of its callee, once for all: an instance method; a static one; a constructor -/
def MI (C : String) (y : MethodName) (bytes : ByteArray) (maxL : Nat) (ret : Option FieldType) (n : Nat) : Prop := Cond.instanceMethod y ∈ TB ∧ Cond.selects C y y ∈ TB ∧ Cond.initialized C ∈ TB ∧ Cond.code y bytes maxL ret ∈ TB ∧ y.cls = C ∧ y.cls ≠ "java/lang/invoke/MethodHandle" ∧ y.cls ≠ "java/lang/invoke/VarHandle" ∧ (parseMethodDescriptor y.desc).map (fun d => d.parameters.length) = some n
def MS (y : MethodName) (bytes : ByteArray) (maxL : Nat) (ret : Option FieldType) (n : Nat) : Prop := Cond.static y ∈ TB ∧ Cond.initialized y.cls ∈ TB ∧ Cond.code y bytes maxL ret ∈ TB ∧ y.cls ≠ "java/lang/invoke/MethodHandle" ∧ y.cls ≠ "java/lang/invoke/VarHandle" ∧ (parseMethodDescriptor y.desc).map (fun d => d.parameters.length) = some n
def MN (y : MethodName) (bytes : ByteArray) (maxL : Nat) (n : Nat) : Prop := Cond.instanceMethod y ∈ TB ∧ Cond.initialized y.cls ∈ TB ∧ Cond.code y bytes maxL none ∈ TB ∧ y.name = "<init>" ∧ y.cls ≠ "java/lang/invoke/MethodHandle" ∧ y.cls ≠ "java/lang/invoke/VarHandle" ∧ (parseMethodDescriptor y.desc).map (fun d => d.parameters.length) = some n
theorem tb_goodin {ws : List Cond} (h : ∀ w ∈ ws, w ∈ TB) : GoodIn TB ws := fun w hw => ⟨h w hw, good_of_word (tb_good (h w hw))⟩
theorem ws_in {y : MethodName} {cc : ByteArray} {maxL : Nat} {ret : Option FieldType} (h : Cond.code y cc maxL ret ∈ TB) : ∀ w ∈ wsOf y cc maxL ret, w ∈ TB := fun w hw => (List.mem_cons.mp hw).elim (fun e => e ▸ h) id
theorem wsV_in {own C : String} {index : Nat} {y : MethodName} {cc : ByteArray} {maxL n : Nat} {ret : Option FieldType} (m1 : Cond.methodLink own index y ∈ TB) (h : MI C y cc maxL ret n) : GoodIn TB (wsV own index C y (wsOf y cc maxL ret)) := by
  refine tb_goodin fun w hw => ?_
  unfold wsV at hw
  rcases List.mem_append.mp hw with q | q
  · simp only [List.mem_cons, List.not_mem_nil, or_false] at q
    rcases q with rfl | rfl | rfl | rfl
    · exact m1
    · exact h.1
    · exact h.2.1
    · exact h.2.2.1
  · exact ws_in h.2.2.2.1 w q
theorem wsS_in {own : String} {index : Nat} {y : MethodName} {cc : ByteArray} {maxL n : Nat} {ret : Option FieldType} (m1 : Cond.methodLink own index y ∈ TB) (h : MS y cc maxL ret n) : GoodIn TB (va_wsS own index y (wsOf y cc maxL ret)) := by
  refine tb_goodin fun w hw => ?_
  unfold va_wsS at hw
  rcases List.mem_append.mp hw with q | q
  · simp only [List.mem_cons, List.not_mem_nil, or_false] at q
    rcases q with rfl | rfl | rfl
    · exact m1
    · exact h.1
    · exact h.2.1
  · exact ws_in h.2.2.1 w q
section CALLS
variable {p : Program} {l : Launch} {e : Env} {R : Room} {s : State} {m : MethodId} {args : Array Value} {below : List Frame} {meth : Method} {c : Code} {H : Heap} {locs : List Loc} {cells slots : Nat} {Q : State → Prop}
variable {cc : ByteArray} {pc : Nat} {ls : Array Slot} {rest st0 : List Value} {G : GG} {w w' : Mm} {b cd ky st : Nat} {As : List Value} {own : String} {y : MethodName} {bytes : ByteArray} {maxL nL index n : Nat} {ret : Option FieldType} {rm : Room} {Qc : Array Value → State → Outcome → State → Prop} {mc ms : Nat}
theorem c_rec (hE : KE G s) (hP : HP G w H) (hs : gS w b = (cd, ky, st)) (hc0 : cd ≠ 0) {C : String} {T : u_T} {N ci : Nat} {fs : List Value} (he : wce G w cd ky st = .inr (ci, fs)) (hc : vwCl[ci]? = some (C, T, N)) : ∃ cell : Cell, H[b]? = some cell ∧ cell.vm.isStatics = false ∧ s.vm.findClass C = some cell.cls := by
  have hp := hp_at hP hs hc0
  rw [he] at hp
  exact va_recv hE.1 hp hc (q0 := 0) rfl
theorem c_recE (hE : KE G s) (hS : va_S (Ab G) s.heap H locs) {k : Nat} (hk : k < 44) : ∃ cell : Cell, H[gA G k]? = some cell ∧ cell.vm.isStatics = false ∧ s.vm.findClass "HedgeNews$Kind" = some cell.cls := va_recvEc hE.2.2.2.1 (i := k) (by simpa [kNm] using hk) hS
theorem c_pre (hE : KE G s) (hP : HP G w H) (hS : va_S (Ab G) s.heap H locs) {U : State} (hU : U.heap = H) (hW : s.WarmedH U.vm) {av : List Value} : PreK G w av av.toArray U := ⟨rfl, by rw [hU]; exact hP, KE.step hE hS hU hW⟩
theorem c_runV {C : String} (hexec : p.tables.exec = Jvm.exec) (hb : c.code = cc) (hml : c.maxLocals = nL) (hown : s.vm.findClass own = some m.cls) (hts : ∀ w ∈ TB, w.before args s = true) (hE : KE G s) (hP : HP G w H) (hS : va_S (Ab G) s.heap H locs)
    (hM : Met l y (wsOf y bytes maxL ret) rm (PreK G w (.ref b :: As)) Qc rm.cells rm.slots (Ab G)) (hrec : ∃ cell : Cell, H[b]? = some cell ∧ cell.vm.isStatics = false ∧ s.vm.findClass C = some cell.cls) (m1 : Cond.methodLink own index y ∈ TB) (mi : MI C y bytes maxL ret n)
    (hR : rm.frames + 1 ≤ R.frames ∧ 8 + (maxL + 11) + rm.locals ≤ R.locals) (hn : As.length = n) (hsize : ls.size = nL) (hstack : st0 = As.reverse ++ .ref b :: rest) (hW : 2 * 0 + (rest.map fun v => v.category).sum ≤ 8) (hdg : decode cc pc = .ok (.invokevirtual index, 3)) (hf : cells + rm.cells ≤ R.cells ∧ slots + rm.slots ≤ R.slots) :
    va_Run p l e R s m args below meth c H locs cells slots rm.cells rm.slots (F0 m pc ls st0) rest (Qc (Value.ref b :: As).toArray) (Ab G) :=
  va_runV (As := As) (rest := rest) (Ts := TB) ⟨hexec, hb, hml, hown, hts⟩ hM (cwV n hts (wsV_in m1 mi) rfl rfl rfl mi.2.2.2.2 hR) ⟨preK_blind, hrec, fun U hU hW => c_pre hE hP hS hU hW⟩ rfl hn hsize hstack hW hdg hf
theorem c_runS (hexec : p.tables.exec = Jvm.exec) (hb : c.code = cc) (hml : c.maxLocals = nL) (hown : s.vm.findClass own = some m.cls) (hts : ∀ w ∈ TB, w.before args s = true) (hE : KE G s) (hP : HP G w H) (hS : va_S (Ab G) s.heap H locs)
    (hM : Met l y (wsOf y bytes maxL ret) rm (PreK G w As) Qc rm.cells rm.slots (Ab G)) (m1 : Cond.methodLink own index y ∈ TB) (mi : MS y bytes maxL ret n)
    (hR : rm.frames + 1 ≤ R.frames ∧ 8 + (maxL + 11) + rm.locals ≤ R.locals) (hn : As.length = n) (hsize : ls.size = nL) (hstack : st0 = As.reverse ++ rest) (hW : 2 * 0 + (rest.map fun v => v.category).sum ≤ 8) (hdg : decode cc pc = .ok (.invokestatic index, 3)) (hf : cells + rm.cells ≤ R.cells ∧ slots + rm.slots ≤ R.slots) :
    va_Run p l e R s m args below meth c H locs cells slots rm.cells rm.slots (F0 m pc ls st0) rest (Qc As.toArray) (Ab G) :=
  va_runS (As := As) (rest := rest) (Ts := TB) ⟨hexec, hb, hml, hown, hts⟩ hM (va_cwS n hts (wsS_in m1 mi) rfl rfl rfl mi.2.2.2 hR) ⟨preK_blind, fun U hU hW => c_pre hE hP hS hU hW⟩ rfl hn hsize hstack hW hdg hf
theorem c_runI (hexec : p.tables.exec = Jvm.exec) (hb : c.code = cc) (hml : c.maxLocals = nL) (hown : s.vm.findClass own = some m.cls) (hts : ∀ w ∈ TB, w.before args s = true) (hE : KE G s) (hP : HP G w H) (hS : va_S (Ab G) s.heap H locs)
    (hM : Met l y (wsOf y bytes maxL none) rm (PreK G w (.ref b :: As)) Qc rm.cells rm.slots (Ab G)) (m1 : Cond.methodLink own index y ∈ TB) (mi : MN y bytes maxL n)
    (hR : rm.frames + 1 ≤ R.frames ∧ 8 + (maxL + 11) + rm.locals ≤ R.locals) (hn : As.length = n) (hsize : ls.size = nL) (hstack : st0 = As.reverse ++ .ref b :: rest) (hW : 2 * 0 + (rest.map fun v => v.category).sum ≤ 8) (hdg : decode cc pc = .ok (.invokespecial index, 3)) (hf : cells + rm.cells ≤ R.cells ∧ slots + rm.slots ≤ R.slots) :
    va_Run p l e R s m args below meth c H locs cells slots rm.cells rm.slots (F0 m pc ls st0) rest (Qc (Value.ref b :: As).toArray) (Ab G) :=
  va_runI (As := As) (rest := rest) (Ts := TB) ⟨hexec, hb, hml, hown, hts⟩ hM (cwI n hts (tb_goodin (ws_in mi.2.2.1)) rfl rfl rfl (hts _ mi.2.1) (hts _ m1) (hts _ mi.1) mi.2.2.2.1 ⟨mi.2.2.2.2.1, mi.2.2.2.2.2.1, mi.2.2.2.2.2.2⟩ hR) ⟨preK_blind, fun U hU hW => c_pre hE hP hS hU hW⟩ rfl hn hsize hstack hW hdg hf
theorem c_oni {r : Int32} {a : Array Value} (hr : va_Run p l e R s m args below meth c H locs cells slots mc ms (F0 m pc ls st0) rest (va_Qi (fun r' (u : Mm) => r' = r ∧ u = w') (fun u t => HP G u t.heap) (Ab G) a) (Ab G)) (hS : va_S (Ab G) s.heap H locs)
    (kk : ∀ (H1 : Heap) (locs1 : List Loc), HP G w' H1 → va_S (Ab G) s.heap H1 locs1 → W p l e R s m args below meth c H1 locs1 (cells + mc) (slots + ms) Q (F0 m (pc + 3) ls (.int r :: rest))) : W p l e R s m args below meth c H locs cells slots Q (F0 m pc ls st0) :=
  va_calli hr hS (fun q _ h => h) (fun q h => h) (fun r1 u t H1 locs1 ht hvm hp hB hz hk hS1 => by
    obtain ⟨rfl, rfl⟩ := hp
    exact kk H1 locs1 (by rw [← ht]; exact hB) hS1)
theorem c_onl {r : Int64} {a : Array Value} (hr : va_Run p l e R s m args below meth c H locs cells slots mc ms (F0 m pc ls st0) rest (va_Ql (fun r' (u : Mm) => r' = r ∧ u = w') (fun u t => HP G u t.heap) (Ab G) a) (Ab G)) (hS : va_S (Ab G) s.heap H locs)
    (kk : ∀ (H1 : Heap) (locs1 : List Loc), HP G w' H1 → va_S (Ab G) s.heap H1 locs1 → W p l e R s m args below meth c H1 locs1 (cells + mc) (slots + ms) Q (F0 m (pc + 3) ls (.long r :: rest))) : W p l e R s m args below meth c H locs cells slots Q (F0 m pc ls st0) :=
  va_calll hr hS (fun q _ h => h) (fun q h => h) (fun r1 u t H1 locs1 ht hvm hp hB hz hk hS1 => by
    obtain ⟨rfl, rfl⟩ := hp
    exact kk H1 locs1 (by rw [← ht]; exact hB) hS1)
theorem c_ond {r : UInt64} {a : Array Value} (hr : va_Run p l e R s m args below meth c H locs cells slots mc ms (F0 m pc ls st0) rest (va_Qd (fun r' (u : Mm) => r' = r ∧ u = w') (fun u t => HP G u t.heap) (Ab G) a) (Ab G)) (hS : va_S (Ab G) s.heap H locs)
    (kk : ∀ (H1 : Heap) (locs1 : List Loc), HP G w' H1 → va_S (Ab G) s.heap H1 locs1 → W p l e R s m args below meth c H1 locs1 (cells + mc) (slots + ms) Q (F0 m (pc + 3) ls (.double r :: rest))) : W p l e R s m args below meth c H locs cells slots Q (F0 m pc ls st0) :=
  va_calld hr hS (fun q _ h => h) (fun q h => h) (fun r1 u t H1 locs1 ht hvm hp hB hz hk hS1 => by
    obtain ⟨rfl, rfl⟩ := hp
    exact kk H1 locs1 (by rw [← ht]; exact hB) hS1)
theorem c_onq {r : Option Nat} {a : Array Value} (hr : va_Run p l e R s m args below meth c H locs cells slots mc ms (F0 m pc ls st0) rest (va_Qq (fun r' (u : Mm) => r' = r ∧ u = w') (fun u t => HP G u t.heap) (Ab G) a) (Ab G)) (hS : va_S (Ab G) s.heap H locs)
    (kk : ∀ (H1 : Heap) (locs1 : List Loc), HP G w' H1 → va_S (Ab G) s.heap H1 locs1 → W p l e R s m args below meth c H1 locs1 (cells + mc) (slots + ms) Q (F0 m (pc + 3) ls (va_rf r :: rest))) : W p l e R s m args below meth c H locs cells slots Q (F0 m pc ls st0) :=
  va_callq hr hS (fun q _ h => h) (fun q h => h) (fun r1 u t H1 locs1 ht hvm hp hB hz hk hS1 => by
    obtain ⟨rfl, rfl⟩ := hp
    exact kk H1 locs1 (by rw [← ht]; exact hB) hS1)
theorem c_onv {a : Array Value} (hr : va_Run p l e R s m args below meth c H locs cells slots mc ms (F0 m pc ls st0) rest (va_Qv (fun (u : Mm) => u = w') (fun u t => HP G u t.heap) (Ab G) a) (Ab G)) (hS : va_S (Ab G) s.heap H locs)
    (kk : ∀ (H1 : Heap) (locs1 : List Loc), HP G w' H1 → va_S (Ab G) s.heap H1 locs1 → W p l e R s m args below meth c H1 locs1 (cells + mc) (slots + ms) Q (F0 m (pc + 3) ls rest)) : W p l e R s m args below meth c H locs cells slots Q (F0 m pc ls st0) :=
  va_callv hr hS (fun q _ h => h) (fun q h => h) (fun u t H1 locs1 ht hvm hp hB hz hk hS1 => by
    subst hp
    exact kk H1 locs1 (by rw [← ht]; exact hB) hS1)
end CALLS
-- the ends
section ENDS
variable {p : Program} {l : Launch} {e : Env} {R : Room} {s : State} {m : MethodId} {args : Array Value} {below : List Frame} {meth : Method} {c : Code} {H : Heap} {locs : List Loc} {mc ms k n : Nat}
variable {cc : ByteArray} {pc : Nat} {ls : Array Slot} {G : GG} {w w' : Mm}
theorem e_i {ty : FieldType} {r v : Int32} (hexec : p.tables.exec = Jvm.exec) (hb : c.code = cc) (hr : meth.sig.returnType = some ty) (hn : narrow ty (.int v) = .int v) (hlocks : meth.locks = false) (hP : HP G w H) (hS : va_S (Ab G) s.heap H locs) (h1 : k ≤ mc) (h2 : n ≤ ms) (hv : v = r ∧ w = w') (hdg : decode cc pc = .ok (.ireturn, 1)) :
    W p l e R s m args below meth c H locs k n (MQ below (va_Qi (fun r' (u : Mm) => r' = r ∧ u = w') (fun u t => HP G u t.heap) (Ab G)) args s mc ms (Ab G)) (F0 m pc ls [.int v]) :=
  W.widen h1 h2 (W.zret hexec hb hr hn (fun t ht hW => ⟨⟨v, w, rfl, hv, show HP G w t.heap by rw [ht]; exact hP⟩, hS.F ht⟩) hS.2.2 hdg hlocks)
theorem e_l {r v : Int64} (hexec : p.tables.exec = Jvm.exec) (hb : c.code = cc) (hr : meth.sig.returnType = some .long) (hlocks : meth.locks = false) (hP : HP G w H) (hS : va_S (Ab G) s.heap H locs) (h1 : k ≤ mc) (h2 : n ≤ ms) (hv : v = r ∧ w = w') (hdg : decode cc pc = .ok (.lreturn, 1)) :
    W p l e R s m args below meth c H locs k n (MQ below (va_Ql (fun r' (u : Mm) => r' = r ∧ u = w') (fun u t => HP G u t.heap) (Ab G)) args s mc ms (Ab G)) (F0 m pc ls [.long v]) :=
  W.widen h1 h2 (W.lret hexec hb hr (fun t ht hW => ⟨⟨v, w, rfl, hv, show HP G w t.heap by rw [ht]; exact hP⟩, hS.F ht⟩) hS.2.2 hdg hlocks)
theorem e_d {r v : UInt64} (hexec : p.tables.exec = Jvm.exec) (hb : c.code = cc) (hr : meth.sig.returnType = some .double) (hlocks : meth.locks = false) (hP : HP G w H) (hS : va_S (Ab G) s.heap H locs) (h1 : k ≤ mc) (h2 : n ≤ ms) (hv : v = r ∧ w = w') (hdg : decode cc pc = .ok (.dreturn, 1)) :
    W p l e R s m args below meth c H locs k n (MQ below (va_Qd (fun r' (u : Mm) => r' = r ∧ u = w') (fun u t => HP G u t.heap) (Ab G)) args s mc ms (Ab G)) (F0 m pc ls [.double v]) :=
  W.widen h1 h2 (W.dret hexec hb hr (fun t ht hW => ⟨⟨v, w, rfl, hv, show HP G w t.heap by rw [ht]; exact hP⟩, hS.F ht⟩) hS.2.2 hdg hlocks)
theorem e_q {rt : FieldType} {r v : Option Nat} (hexec : p.tables.exec = Jvm.exec) (hb : c.code = cc) (hr : meth.sig.returnType = some rt) (hrt : (∃ n, rt = .object n) ∨ ∃ t, rt = .array t) (hlocks : meth.locks = false) (hP : HP G w H) (hS : va_S (Ab G) s.heap H locs) (h1 : k ≤ mc) (h2 : n ≤ ms) (hv : v = r ∧ w = w') (hdg : decode cc pc = .ok (.areturn, 1)) :
    W p l e R s m args below meth c H locs k n (MQ below (va_Qq (fun r' (u : Mm) => r' = r ∧ u = w') (fun u t => HP G u t.heap) (Ab G)) args s mc ms (Ab G)) (F0 m pc ls [va_rf v]) :=
  W.widen h1 h2 (W.aret hexec hb hr hrt (va_rf_or v) (fun t ht hW => ⟨⟨v, w, rfl, hv, show HP G w t.heap by rw [ht]; exact hP⟩, hS.F ht⟩) hS.2.2 hdg hlocks)
theorem e_v (hexec : p.tables.exec = Jvm.exec) (hb : c.code = cc) (hr : meth.sig.returnType = none) (hlocks : meth.locks = false) (hP : HP G w H) (hS : va_S (Ab G) s.heap H locs) (h1 : k ≤ mc) (h2 : n ≤ ms) (hv : w = w') (hdg : decode cc pc = .ok (.return_, 1)) :
    W p l e R s m args below meth c H locs k n (MQ below (va_Qv (fun (u : Mm) => u = w') (fun u t => HP G u t.heap) (Ab G)) args s mc ms (Ab G)) (F0 m pc ls []) :=
  W.widen h1 h2 (W.vret hexec hb hr (fun t ht hW => ⟨⟨w, rfl, hv, show HP G w t.heap by rw [ht]; exact hP⟩, hS.F ht⟩) hS.2.2 hdg hlocks)
end ENDS
/-- a method's body: what is known at its entry -/
theorem k_of {l : Launch} {G : GG} {y : MethodName} {cc : ByteArray} {maxL : Nat} {ret : Option FieldType} {rm : Room} {av : List Value} {w : Mm} {Qc : Array Value → State → Outcome → State → Prop} {mc ms : Nat} (hy : plainName y.cls = true) (hlen : (lg_sl av).length ≤ maxL)
    (body : ∀ (p : Program) (e : Env) (s : State) (m : MethodId) (args : Array Value) (below : List Frame) (meth : Method) (c : Code) (ls : Array Slot), p.tables.exec = Jvm.exec → c.code = cc → c.maxLocals = maxL → meth.sig.returnType = ret → s.vm.findClass y.cls = some m.cls → meth.locks = false → (∀ w ∈ TB, w.before args s = true) → (y.name = "<init>" → meth.name = "<init>") → HP G w s.heap → KE G s → lv_has ls maxL (lv_args 0 av) →
      W p l e rm s m args below meth c s.heap [] 0 0 (MQ below Qc args s mc ms (Ab G)) (F0 m 0 ls [])) :
    Met l y (wsOf y cc maxL ret) rm (PreK G w av) Qc mc ms (Ab G) := by
  refine Met.ofW (cc := cc) (maxL := maxL) (ret := ret) hy rfl ?_
  intro p e s m args below meth c s₁ B hml hv
  obtain ⟨rfl, hP, hE⟩ := hv
  have hts := atoms_spec (ws := wsOf y cc maxL ret) B.pre
  rw [lg_entry_eq]
  exact body p e s m _ below meth c _ B.exec B.bytes hml B.returns (findClass_of_methodNamed B.named) B.notSynchronized (fun w hw => hts w (List.mem_cons_of_mem _ hw)) (fun h => (name_of_methodNamed B.named B.method).1.trans h) hP hE (lv_entry av hlen)
