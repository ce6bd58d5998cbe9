def bw {α β : Type} (e : Option ((Nat ⊕ α) × Mm)) (kx : Nat → Mm → Option β) (k : α → Mm → Option β) : Option β := match e with
  | none => none
  | some (.inl x, w) => kx x w
  | some (.inr a, w) => k a w
theorem bw_el {α β : Type} {e : Option ((Nat ⊕ α) × Mm)} {kx : Nat → Mm → Option β} {k : α → Mm → Option β} {r : β} (h : bw e kx k = some r) : ∃ a w, e = some (a, w) ∧ (∀ x, lf a = some x → kx x w = some r) ∧ (∀ v, a = .inr v → k v w = some r) := by
  unfold bw at h
  split at h
  · cases h
  · exact ⟨_, _, rfl, (fun x hx => by cases hx; exact h), (fun v hv => by cases hv)⟩
  · exact ⟨_, _, rfl, (fun x hx => by cases hx), (fun v hv => by cases hv; exact h)⟩
abbrev wsW (y : MethodName) (cc : ByteArray) (maxL : Nat) (ret : Option FieldType) (hh : List (Nat × Nat × Nat × Nat)) : List Cond := Cond.codeWith y cc maxL ret hh :: TB
def Kz (l : Launch) (G : GG) (y : MethodName) (cc : ByteArray) (maxL : Nat) (hh : List (Nat × Nat × Nat × Nat)) (rm : Room) (av : List Value) (w : Mm) (r : Int32) (w' : Mm) : Prop :=
  Met l y (wsW y cc maxL (some .int) hh) rm (PreK G w av) (va_Qi (fun r' (u : Mm) => r' = r ∧ ∃ z, gZ w' ≤ z ∧ u = pZ w' z) (fun u t => HP G u t.heap) (Ab G)) rm.cells rm.slots (Ab G)
def MSW (y : MethodName) (bytes : ByteArray) (maxL : Nat) (ret : Option FieldType) (hh : List (Nat × Nat × Nat × Nat)) (n : Nat) : Prop := Cond.static y ∈ TB ∧ Cond.initialized y.cls ∈ TB ∧ Cond.codeWith y bytes maxL ret hh ∈ TB ∧ y.cls ≠ "java/lang/invoke/MethodHandle" ∧ y.cls ≠ "java/lang/invoke/VarHandle" ∧ (parseMethodDescriptor y.desc).map (fun d => d.parameters.length) = some n
theorem z_of {l : Launch} {G : GG} {y : MethodName} {cc : ByteArray} {maxL : Nat} {hh : List (Nat × Nat × Nat × Nat)} {rm : Room} {av : List Value} {w : Mm} {Qc : Array Value → State → Outcome → State → Prop} {mc ms : Nat} (hy : plainName y.cls = true) (hlen : (lg_sl av).length ≤ maxL)
    (body : ∀ (p : Program) (e : Env) (s : State) (m : MethodId) (args : Array Value) (below : List Frame) (meth : Method) (c : Code) (ls : Array Slot), p.tables.exec = Jvm.exec → c.code = cc → c.maxLocals = maxL → meth.sig.returnType = some .int → s.vm.findClass y.cls = some m.cls → meth.locks = false → (∀ w ∈ TB, w.before args s = true) → c.exceptionTable.toList = tableOf hh → HP G w s.heap → KE G s → lv_has ls maxL (lv_args 0 av) →
      W p l e rm s m args below meth c s.heap [] 0 0 (MQ below Qc args s mc ms (Ab G)) (F0 m 0 ls [])) :
    Met l y (wsW y cc maxL (some .int) hh) rm (PreK G w av) Qc mc ms (Ab G) := by
  refine va_MetW (cc := cc) (maxL := maxL) (ret := some .int) (hh := hh) hy rfl ?_
  intro p e s m args below meth c s₁ B hml hv
  obtain ⟨rfl, hP, hE⟩ := hv
  have hts := atoms_spec (ws := wsW y cc maxL (some .int) hh) B.pre
  rw [lg_entry_eq]
  exact body p e s m _ below meth c _ B.exec B.bytes hml B.returns (findClass_of_methodNamed B.named) B.notSynchronized (fun w hw => hts w (List.mem_cons_of_mem _ hw)) (vx_table (x := y) B (hts _ List.mem_cons_self)) hP hE (lv_entry av hlen)
section CATCH
variable {p : Program} {l : Launch} {e : Env} {R : Room} {s : State} {m : MethodId} {args : Array Value} {below : List Frame} {meth : Method} {c : Code} {H : Heap} {locs : List Loc} {cells slots mc ms k nn : Nat} {Q : State → Prop}
variable {cc : ByteArray} {pc : Nat} {ls : Array Slot} {rest : List Value} {G : GG} {w w' : Mm}
theorem hCAST (hE : KE G s) (x : Nat) (hx : x < 3) : (Cond.castable (exn x) (exn x)).before args s = true := by
  have h := hE.2.2.2.2.2.2.2.2.2.1
  have hx : x = 0 ∨ x = 1 ∨ x = 2 := by omega
  rcases hx with rfl | rfl | rfl <;> exact va_Nw.use rfl (h (_, _) (by simp [NWC, exn]))
theorem hNC (hE : KE G s) (x j : Nat) (hx : (exn x, exn j) ∈ NWX) : va_Nc (exn x) (exn j) s := (hSTR hE).2.2.2.2.2 _ hx
theorem ez_i {z : Nat} {r v : Int32} (hexec : p.tables.exec = Jvm.exec) (hb : c.code = cc) (hr : meth.sig.returnType = some .int) (hlocks : meth.locks = false) (hP : HP G (pZ w z) H) (hS : va_S (Ab G) s.heap H locs) (hz : gZ w ≤ z) (h1 : k ≤ mc) (h2 : nn ≤ ms) (hv : v = r ∧ w = w') (hdg : decode cc pc = .ok (.ireturn, 1)) :
    W p l e R s m args below meth c H locs k nn (MQ below (va_Qi (fun r' (u : Mm) => r' = r ∧ ∃ z, gZ w' ≤ z ∧ u = pZ w' z) (fun u t => HP G u t.heap) (Ab G)) args s mc ms (Ab G)) (F0 m pc ls [.int v]) :=
  W.widen h1 h2 (W.zret hexec hb hr rfl (fun t ht hW => ⟨⟨v, pZ w z, rfl, ⟨hv.1, z, by rw [← hv.2]; exact hz, by rw [hv.2]⟩, show HP G (pZ w z) t.heap by rw [ht]; exact hP⟩, hS.F ht⟩) hS.2.2 hdg hlocks)
end CATCH
