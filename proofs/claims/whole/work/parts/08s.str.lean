theorem nar_c {v : Int32} (h : v.toUInt32.toUInt16.toUInt32.toInt32 = v) : narrow .char (.int v) = .int v := by show Value.int _ = _; rw [h]
theorem nar_y {v : Int32} (h : v.toInt8.toInt32 = v) : narrow .byte (.int v) = .int v := by show Value.int _ = _; rw [h]
theorem hSTR {G : GG} {s : State} (hE : KE G s) : KES G s := hE.2.2.2.2.2.2.2.2.2.2.2.2.2
def lS (i : Nat) : Int32 := Int32.ofNat (lenS.getD i 0)
def yS (i k : Nat) : Int32 := (bytS.getD i []).getD k 0
section STRS
variable {p : Program} {l : Launch} {e : Env} {R : Room} {s : State} {m : MethodId} {args : Array Value} {below : List Frame} {meth : Method} {c : Code} {H : Heap} {locs : List Loc} {cells slots : Nat} {Q : State → Prop}
variable {cc : ByteArray} {pc : Nat} {ls : Array Slot} {rest : List Value} {G : GG} {own : String} {index : Nat}
theorem k_words (hexec : p.tables.exec = Jvm.exec) (hb : c.code = cc) (hE : KE G s) (hS : va_S (Ab G) s.heap H locs) (hown : s.vm.findClass own = some m.cls) (hlink : (Cond.fieldLink own index "HedgeNewsModel" "WORDS" "[Ljava/lang/String;").before args s = true) (hdg : decode cc pc = .ok (.getstatic index, 3)) (kk : W p l e R s m args below meth c H locs cells slots Q (F0 m (pc + 3) ls (.ref (gM G 2) :: rest))) : W p l e R s m args below meth c H locs cells slots Q (F0 m pc ls (rest)) :=
  va_gets hexec hb (hSTR hE).2.1.1 hS hown hlink (fun x hx => hx) hdg kk
theorem k_wlen (hexec : p.tables.exec = Jvm.exec) (hb : c.code = cc) (hE : KE G s) (hS : va_S (Ab G) s.heap H locs) (hdg : decode cc pc = .ok (.arraylength, 1)) (kk : W p l e R s m args below meth c H locs cells slots Q (F0 m (pc + 1) ls (.int 23 :: rest))) : W p l e R s m args below meth c H locs cells slots Q (F0 m pc ls (.ref (gM G 2) :: rest)) :=
  va_tlen hexec hb (hSTR hE).2.1.2 hS (by decide) hdg kk
theorem k_wld (hexec : p.tables.exec = Jvm.exec) (hb : c.code = cc) (hE : KE G s) (hS : va_S (Ab G) s.heap H locs) {i : Int32} (g : vB i 23 = true) (hdg : decode cc pc = .ok (.aaload, 1)) (kk : W p l e R s m args below meth c H locs cells slots Q (F0 m (pc + 1) ls (.ref (gX G i.toNatClampNeg) :: rest))) : W p l e R s m args below meth c H locs cells slots Q (F0 m pc ls (.int i :: .ref (gM G 2) :: rest)) :=
  vb_tq hexec hb (hSTR hE).2.1.2 hS (vB_in g) rfl hdg kk
theorem k_slit (hexec : p.tables.exec = Jvm.exec) (hb : c.code = cc) (hE : KE G s) (hS : va_S (Ab G) s.heap H locs) (hown : s.vm.findClass "HedgeNewsModel" = some m.cls) (hdg : decode cc pc = .ok (.ldc 112, 2)) (kk : W p l e R s m args below meth c H locs cells slots Q (F0 m (pc + 2) ls (.ref (gX G 23) :: rest))) : W p l e R s m args below meth c H locs cells slots Q (F0 m pc ls (rest)) :=
  va_ldcS hexec hb hown (hSTR hE).2.2.1 hdg kk
theorem k_xval (hexec : p.tables.exec = Jvm.exec) (hb : c.code = cc) (hE : KE G s) (hS : va_S (Ab G) s.heap H locs) (hown : s.vm.findClass own = some m.cls) {i : Nat} (hi : i < 24) (hlink : (Cond.fieldLink own index "java/lang/String" "value" "[B").before args s = true) (hdg : decode cc pc = .ok (.getfield index, 3)) (kk : W p l e R s m args below meth c H locs cells slots Q (F0 m (pc + 3) ls (.ref (gY G i) :: rest))) : W p l e R s m args below meth c H locs cells slots Q (F0 m pc ls (.ref (gX G i) :: rest)) :=
  vk_getf hexec hb ((hSTR hE).1.1 i hi).2.2.1 hS hown hlink (fun x hx => hx) hdg kk
theorem k_xcod (hexec : p.tables.exec = Jvm.exec) (hb : c.code = cc) (hE : KE G s) (hS : va_S (Ab G) s.heap H locs) (hown : s.vm.findClass own = some m.cls) {i : Nat} (hi : i < 24) (hlink : (Cond.fieldLink own index "java/lang/String" "coder" "B").before args s = true) (hdg : decode cc pc = .ok (.getfield index, 3)) (kk : W p l e R s m args below meth c H locs cells slots Q (F0 m (pc + 3) ls (.int 0 :: rest))) : W p l e R s m args below meth c H locs cells slots Q (F0 m pc ls (.ref (gX G i) :: rest)) :=
  vk_getf hexec hb ((hSTR hE).1.1 i hi).2.1 hS hown hlink (fun x hx => hx) hdg kk
theorem k_ylen (hexec : p.tables.exec = Jvm.exec) (hb : c.code = cc) (hE : KE G s) (hS : va_S (Ab G) s.heap H locs) {i : Nat} (hi : i < 24) (hdg : decode cc pc = .ok (.arraylength, 1)) (kk : W p l e R s m args below meth c H locs cells slots Q (F0 m (pc + 1) ls (.int (lS i) :: rest))) : W p l e R s m args below meth c H locs cells slots Q (F0 m pc ls (.ref (gY G i) :: rest)) :=
  va_tlen hexec hb ((hSTR hE).1.1 i hi).2.2.2 hS rfl hdg kk
theorem k_yld (hexec : p.tables.exec = Jvm.exec) (hb : c.code = cc) (hE : KE G s) (hS : va_S (Ab G) s.heap H locs) {i : Nat} (hi : i < 24) {k : Int32} (g : vB k (lenS.getD i 0) = true) (hdg : decode cc pc = .ok (.baload, 1)) (kk : W p l e R s m args below meth c H locs cells slots Q (F0 m (pc + 1) ls (.int (yS i k.toNatClampNeg) :: rest))) : W p l e R s m args below meth c H locs cells slots Q (F0 m pc ls (.int k :: .ref (gY G i) :: rest)) :=
  va_tb hexec hb ((hSTR hE).1.1 i hi).2.2.2 hS (vB_in g) rfl hdg kk
theorem k_comp (hexec : p.tables.exec = Jvm.exec) (hb : c.code = cc) (hE : KE G s) (hS : va_S (Ab G) s.heap H locs) (hown : s.vm.findClass own = some m.cls) (hlink : (Cond.fieldLink own index "java/lang/String" "COMPACT_STRINGS" "Z").before args s = true) (hdg : decode cc pc = .ok (.getstatic index, 3)) (kk : W p l e R s m args below meth c H locs cells slots Q (F0 m (pc + 3) ls (.int 1 :: rest))) : W p l e R s m args below meth c H locs cells slots Q (F0 m pc ls (rest)) :=
  va_gets hexec hb (hSTR hE).2.2.2.1 hS hown hlink (fun x hx => hx) hdg kk
theorem k_sio (hexec : p.tables.exec = Jvm.exec) (hb : c.code = cc) (hE : KE G s) (hS : va_S (Ab G) s.heap H locs) (hown : s.vm.findClass own = some m.cls) (hlink : (Cond.fieldLink own index "jdk/internal/util/Preconditions" "SIOOBE_FORMATTER" "Ljava/util/function/BiFunction;").before args s = true) (hdg : decode cc pc = .ok (.getstatic index, 3)) (kk : ∀ o : Option Nat, W p l e R s m args below meth c H locs cells slots Q (F0 m (pc + 3) ls (va_rf o :: rest))) : W p l e R s m args below meth c H locs cells slots Q (F0 m pc ls (rest)) := by
  rcases (hSTR hE).2.2.2.2 with h | ⟨t, h⟩
  · exact va_gets hexec hb h hS hown hlink (fun x hx => hx) hdg (kk none)
  · exact va_gets hexec hb h hS hown hlink (fun x hx => hx) hdg (kk (some t))
theorem c_recX (hE : KE G s) (hS : va_S (Ab G) s.heap H locs) {i : Nat} (hi : i < 24) : ∃ cell : Cell, H[gX G i]? = some cell ∧ cell.vm.isStatics = false ∧ s.vm.findClass "java/lang/String" = some cell.cls := vk_recv (hSTR hE).1 hi hS
end STRS
