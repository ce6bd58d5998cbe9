def gdP (c : Bool) (k : Prop) : Prop := c = true ∧ k
theorem gdP_el {c : Bool} {k : Prop} (h : gdP c k) : c = true ∧ k := h
def sqP {α : Type} (e : α) (k : α → Prop) : Prop := k e
theorem sqP_at {α : Type} {e x : α} {k : α → Prop} (h : sqP e k) (hx : x = e) : k x := by rw [hx]; exact h
def brP (c a b : Prop) : Prop := (c → a) ∧ (¬ c → b)
theorem brP_el {c a b : Prop} (h : brP c a b) (hc : c) : a := h.1 hc
theorem brP_er {c a b : Prop} (h : brP c a b) (hc : ¬ c) : b := h.2 hc
def bd0P (e : Option Mm) (k : Mm → Prop) : Prop := ∃ w, e = some w ∧ k w
theorem bd0P_el {e : Option Mm} {k : Mm → Prop} (h : bd0P e k) : ∃ w, e = some w ∧ k w := h
def bd1P {α : Type} (e : Option (α × Mm)) (k : α → Mm → Prop) : Prop := ∃ r w, e = some (r, w) ∧ k r w
theorem bd1P_el {α : Type} {e : Option (α × Mm)} {k : α → Mm → Prop} (h : bd1P e k) : ∃ r w, e = some (r, w) ∧ k r w := h
def bnP {α : Type} (e : Option ((Nat ⊕ α) × Mm)) (k : α → Mm → Prop) : Prop := ∃ a w, e = some (.inr a, w) ∧ k a w
theorem bnP_el {α : Type} {e : Option ((Nat ⊕ α) × Mm)} {k : α → Mm → Prop} (h : bnP e k) : ∃ a w, e = some (.inr a, w) ∧ k a w := h
/-- a method of the law that catches: the heap's size behind it is not known -/
def bzP (e : Option (Int32 × Mm)) (k : Int32 → Mm → Prop) : Prop := ∃ r w, e = some (r, w) ∧ ∀ z, gZ w ≤ z → k r (pZ w z)
theorem bzP_el {e : Option (Int32 × Mm)} {k : Int32 → Mm → Prop} (h : bzP e k) : ∃ r w, e = some (r, w) ∧ ∀ z, gZ w ≤ z → k r (pZ w z) := h
def tG (G : GG) : GG := (G.1, G.2.1, G.2.2.1, G.2.2.2.1, G.2.2.2.2.1, true)
section LAWC
variable {p : Program} {l : Launch} {e : Env} {R : Room} {s : State} {m : MethodId} {args : Array Value} {below : List Frame} {meth : Method} {c : Code} {H : Heap} {locs : List Loc} {cells slots : Nat} {Q : State → Prop}
variable {cc : ByteArray} {pc : Nat} {ls : Array Slot} {rest st0 : List Value} {G : GG} {w w' : Mm} {As : List Value} {own : String} {y : MethodName} {bytes : ByteArray} {maxL nL index n : Nat} {ret : Option FieldType} {hh : List (Nat × Nat × Nat × Nat)} {rm : Room} {Qc : Array Value → State → Outcome → State → Prop} {mc ms : Nat}
theorem wsSW_in (m1 : Cond.methodLink own index y ∈ TB) (h : MSW y cc maxL ret hh n) : GoodIn TB (va_wsS own index y (wsW y cc maxL ret hh)) := by
  refine tb_goodin fun w hw => ?_
  unfold va_wsS at hw
  rcases List.mem_append.mp hw with q | q
  · simp only [List.mem_cons, List.not_mem_nil, or_false] at q
    rcases q with rfl | rfl | rfl
    · exact m1
    · exact h.1
    · exact h.2.1
  · rcases List.mem_cons.mp q with rfl | q
    · exact h.2.2.1
    · exact q
theorem c_runSW (hexec : p.tables.exec = Jvm.exec) (hb : c.code = cc) (hml : c.maxLocals = nL) (hown : s.vm.findClass own = some m.cls) (hts : ∀ w ∈ TB, w.before args s = true) (hE : KE G s) (hP : HP G w H) (hS : va_S (Ab G) s.heap H locs)
    (hM : Met l y (wsW y bytes maxL ret hh) rm (PreK G w As) Qc rm.cells rm.slots (Ab G)) (m1 : Cond.methodLink own index y ∈ TB) (mi : MSW y bytes maxL ret hh n)
    (hR : rm.frames + 1 ≤ R.frames ∧ 8 + (maxL + 11) + rm.locals ≤ R.locals) (hn : As.length = n) (hsize : ls.size = nL) (hstack : st0 = As.reverse ++ rest) (hW : 2 * 0 + (rest.map fun v => v.category).sum ≤ 8) (hdg : decode cc pc = .ok (.invokestatic index, 3)) (hf : cells + rm.cells ≤ R.cells ∧ slots + rm.slots ≤ R.slots) :
    va_Run p l e R s m args below meth c H locs cells slots rm.cells rm.slots (F0 m pc ls st0) rest (Qc As.toArray) (Ab G) :=
  vx_runSW (As := As) (rest := rest) (Ts := TB) ⟨hexec, hb, hml, hown, hts⟩ hM (vx_cwSW n hts (wsSW_in m1 mi) rfl rfl rfl mi.2.2.2 hR) ⟨preK_blind, fun U hU hW => c_pre hE hP hS hU hW⟩ rfl hn hsize hstack hW hdg hf
theorem c_onz {r : Int32} {a : Array Value} (hr : va_Run p l e R s m args below meth c H locs cells slots mc ms (F0 m pc ls st0) rest (va_Qi (fun r' (u : Mm) => r' = r ∧ ∃ z, gZ w' ≤ z ∧ u = pZ w' z) (fun u t => HP G u t.heap) (Ab G) a) (Ab G)) (hS : va_S (Ab G) s.heap H locs)
    (kk : ∀ (z : Nat), gZ w' ≤ z → ∀ (H1 : Heap) (locs1 : List Loc), HP G (pZ w' z) H1 → va_S (Ab G) s.heap H1 locs1 → W p l e R s m args below meth c H1 locs1 (cells + mc) (slots + ms) Q (F0 m (pc + 3) ls (.int r :: rest))) : W p l e R s m args below meth c H locs cells slots Q (F0 m pc ls st0) :=
  va_calli hr hS (fun q _ h => h) (fun q h => h) (fun r1 u t H1 locs1 ht hvm hp hB hz hk hS1 => by
    obtain ⟨rfl, z, hz, rfl⟩ := hp
    exact kk z hz H1 locs1 (by rw [← ht]; exact hB) hS1)
end LAWC
def BtB (b : Nat) (w : Mm) : Prop := ∀ c k, k < cnt c → gS w (adr b c k) = (c, k, full c)
def f_L_law_L (b N : Nat) (sc : Nat → Int32) : Nat → Int32 → Mm → Prop
  | 0, _, _ => False
  | n + 1, u4, w => brP (((Int32.ofNat N) - 6) < u4) (True) (gdP (vB u4 N) (brP (((sc u4.toNatClampNeg) &&& 63) = 0) (gdP (vB (u4 + 1) N) (gdP (vB (u4 + 2) N) (gdP (vB (u4 + 3) N) (gdP (vB (u4 + 4) N) (gdP (vB (u4 + 5) N) (bzP (f_L_feed (sc (u4 + 1).toNatClampNeg) (sc (u4 + 2).toNatClampNeg) (sc (u4 + 3).toNatClampNeg) (sc (u4 + 4).toNatClampNeg) (sc (u4 + 5).toNatClampNeg) w) (fun r7 w9 => gdP (vB (u4 + 1) N) (gdP (vB (u4 + 2) N) (gdP (vB (u4 + 3) N) (gdP (vB (u4 + 4) N) (gdP (vB (u4 + 5) N) (bd1P (f_X15_feed b (sc (u4 + 1).toNatClampNeg) (sc (u4 + 2).toNatClampNeg) (sc (u4 + 3).toNatClampNeg) (sc (u4 + 4).toNatClampNeg) (sc (u4 + 5).toNatClampNeg) w9) (fun r15 w16 => bd1P (f_X15_thrown w16) (fun r17 w18 => brP (r17 = r7) (brP (r7 = 0) (gdP (vB 0 1) (brP ((lg_cmp (gL w18 63 0 (0 : Int32).toNatClampNeg) r15.toInt64) = 0) (sqP (u4 + 6) (fun x21 => f_L_law_L b N sc n x21 w18)) (False))) (sqP (u4 + 6) (fun x19 => f_L_law_L b N sc n x19 w18))) (False))))))))))))))) (brP (((sc u4.toNatClampNeg) &&& 63) = 1) (gdP (vB (u4 + 1) N) (bzP (f_L_trim (sc (u4 + 1).toNatClampNeg) w) (fun r23 w25 => gdP (vB (u4 + 1) N) (bd1P (f_X15_trim (sc (u4 + 1).toNatClampNeg) w25) (fun r27 w28 => bd1P (f_X15_thrown w28) (fun r29 w30 => brP (r29 = r23) (brP (r23 = 0) (gdP (vB 0 1) (brP ((lg_cmp (gL w30 63 0 (0 : Int32).toNatClampNeg) r27.toInt64) = 0) (sqP (u4 + 6) (fun x33 => f_L_law_L b N sc n x33 w30)) (False))) (sqP (u4 + 6) (fun x31 => f_L_law_L b N sc n x31 w30))) (False))))))) (brP (((sc u4.toNatClampNeg) &&& 63) = 2) (bd1P (f_X12_teach w) (fun r34 w35 => bd1P (f_X15_teach b w35) (fun r36 w37 => brP (r34 = r36) (sqP (u4 + 6) (fun x38 => f_L_law_L b N sc n x38 w37)) (False)))) (brP (((sc u4.toNatClampNeg) &&& 63) = 3) (bd1P (f_X12_errorAt w) (fun r39 w40 => bd1P (f_X15_errorAt w40) (fun r41 w42 => brP (r39 = r41) (sqP (u4 + 6) (fun x43 => f_L_law_L b N sc n x43 w42)) (False)))) (brP (((sc u4.toNatClampNeg) &&& 63) = 4) (bd1P (f_X12_hedges w) (fun r44 w45 => bd1P (f_X15_hedges w45) (fun r46 w47 => brP (r44 = r46) (sqP (u4 + 6) (fun x48 => f_L_law_L b N sc n x48 w47)) (False)))) (brP (((sc u4.toNatClampNeg) &&& 63) = 5) (bd1P (f_X12_roses w) (fun r49 w50 => bd1P (f_X15_roses w50) (fun r51 w52 => brP (r49 = r51) (sqP (u4 + 6) (fun x53 => f_L_law_L b N sc n x53 w52)) (False)))) (brP (((sc u4.toNatClampNeg) &&& 63) = 6) (bd1P (f_X12_day w) (fun r54 w55 => bd1P (f_X15_day w55) (fun r56 w57 => brP (r54 = r56) (sqP (u4 + 6) (fun x58 => f_L_law_L b N sc n x58 w57)) (False)))) (brP (((sc u4.toNatClampNeg) &&& 63) = 7) (bd1P (f_X12_ordersCarriedOut w) (fun r59 w60 => bd1P (f_X15_ordersCarriedOut w60) (fun r61 w62 => brP (r59 = r61) (sqP (u4 + 6) (fun x63 => f_L_law_L b N sc n x63 w62)) (False)))) (brP (((sc u4.toNatClampNeg) &&& 63) = 8) (bd1P (f_X12_whispers w) (fun r64 w65 => bd1P (f_X15_whispers w65) (fun r66 w67 => brP (r64 = r66) (sqP (u4 + 6) (fun x68 => f_L_law_L b N sc n x68 w67)) (False)))) (brP (((sc u4.toNatClampNeg) &&& 63) = 9) (bd1P (f_X12_cycles w) (fun r69 w70 => bd1P (f_X15_cycles w70) (fun r71 w72 => brP (r69 = r71) (sqP (u4 + 6) (fun x73 => f_L_law_L b N sc n x73 w72)) (False)))) (brP (((sc u4.toNatClampNeg) &&& 63) = 10) (bd1P (f_X12_departures w) (fun r74 w75 => bd1P (f_X15_departures w75) (fun r76 w77 => brP (r74 = r76) (sqP (u4 + 6) (fun x78 => f_L_law_L b N sc n x78 w77)) (False)))) (brP (((sc u4.toNatClampNeg) &&& 63) = 11) (gdP (vB (u4 + 1) N) (bzP (f_L_hushOf (sc (u4 + 1).toNatClampNeg) w) (fun r80 w82 => gdP (vB (u4 + 1) N) (bd1P (f_X15_hushOf (sc (u4 + 1).toNatClampNeg) w82) (fun r84 w85 => bd1P (f_X15_thrown w85) (fun r86 w87 => brP (r86 = r80) (brP (r80 = 0) (gdP (vB 0 1) (brP ((lg_cmp (gL w87 63 0 (0 : Int32).toNatClampNeg) r84.toInt64) = 0) (sqP (u4 + 6) (fun x90 => f_L_law_L b N sc n x90 w87)) (False))) (sqP (u4 + 6) (fun x88 => f_L_law_L b N sc n x88 w87))) (False))))))) (brP (((sc u4.toNatClampNeg) &&& 63) = 12) (gdP (vB (u4 + 1) N) (bzP (f_L_heardBy (sc (u4 + 1).toNatClampNeg) w) (fun r92 w94 => gdP (vB (u4 + 1) N) (bd1P (f_X15_heardBy (sc (u4 + 1).toNatClampNeg) w94) (fun r96 w97 => bd1P (f_X15_thrown w97) (fun r98 w99 => brP (r98 = r92) (brP (r92 = 0) (gdP (vB 0 1) (brP ((lg_cmp (gL w99 63 0 (0 : Int32).toNatClampNeg) r96.toInt64) = 0) (sqP (u4 + 6) (fun x102 => f_L_law_L b N sc n x102 w99)) (False))) (sqP (u4 + 6) (fun x100 => f_L_law_L b N sc n x100 w99))) (False))))))) (brP (((sc u4.toNatClampNeg) &&& 63) = 13) (gdP (vB (u4 + 1) N) (bzP (f_L_latestOf (sc (u4 + 1).toNatClampNeg) w) (fun r104 w106 => gdP (vB (u4 + 1) N) (bd1P (f_X15_latestOf (sc (u4 + 1).toNatClampNeg) w106) (fun r108 w109 => bd1P (f_X15_thrown w109) (fun r110 w111 => brP (r110 = r104) (brP (r104 = 0) (gdP (vB 0 1) (brP ((lg_cmp (gL w111 63 0 (0 : Int32).toNatClampNeg) r108.toInt64) = 0) (sqP (u4 + 6) (fun x114 => f_L_law_L b N sc n x114 w111)) (False))) (sqP (u4 + 6) (fun x112 => f_L_law_L b N sc n x112 w111))) (False))))))) (brP (((sc u4.toNatClampNeg) &&& 63) = 14) (gdP (vB (u4 + 1) N) (bzP (f_L_listenersOf (sc (u4 + 1).toNatClampNeg) w) (fun r116 w118 => gdP (vB (u4 + 1) N) (bd1P (f_X15_listenersOf (sc (u4 + 1).toNatClampNeg) w118) (fun r120 w121 => bd1P (f_X15_thrown w121) (fun r122 w123 => brP (r122 = r116) (brP (r116 = 0) (gdP (vB 0 1) (brP ((lg_cmp (gL w123 63 0 (0 : Int32).toNatClampNeg) r120.toInt64) = 0) (sqP (u4 + 6) (fun x126 => f_L_law_L b N sc n x126 w123)) (False))) (sqP (u4 + 6) (fun x124 => f_L_law_L b N sc n x124 w123))) (False))))))) (brP (((sc u4.toNatClampNeg) &&& 63) = 15) (gdP (vB (u4 + 1) N) (gdP (vB (u4 + 2) N) (bzP (f_L_hedgeInRow (sc (u4 + 1).toNatClampNeg) (sc (u4 + 2).toNatClampNeg) w) (fun r129 w131 => gdP (vB (u4 + 1) N) (gdP (vB (u4 + 2) N) (bd1P (f_X15_hedgeInRow (sc (u4 + 1).toNatClampNeg) (sc (u4 + 2).toNatClampNeg) w131) (fun r134 w135 => bd1P (f_X15_thrown w135) (fun r136 w137 => brP (r136 = r129) (brP (r129 = 0) (gdP (vB 0 1) (brP ((lg_cmp (gL w137 63 0 (0 : Int32).toNatClampNeg) r134.toInt64) = 0) (sqP (u4 + 6) (fun x140 => f_L_law_L b N sc n x140 w137)) (False))) (sqP (u4 + 6) (fun x138 => f_L_law_L b N sc n x138 w137))) (False))))))))) (brP (((sc u4.toNatClampNeg) &&& 63) = 16) (gdP (vB (u4 + 1) N) (gdP (vB (u4 + 2) N) (bzP (f_L_roseInRow (sc (u4 + 1).toNatClampNeg) (sc (u4 + 2).toNatClampNeg) w) (fun r143 w145 => gdP (vB (u4 + 1) N) (gdP (vB (u4 + 2) N) (bd1P (f_X15_roseInRow (sc (u4 + 1).toNatClampNeg) (sc (u4 + 2).toNatClampNeg) w145) (fun r148 w149 => bd1P (f_X15_thrown w149) (fun r150 w151 => brP (r150 = r143) (brP (r143 = 0) (gdP (vB 0 1) (brP ((lg_cmp (gL w151 63 0 (0 : Int32).toNatClampNeg) r148.toInt64) = 0) (sqP (u4 + 6) (fun x154 => f_L_law_L b N sc n x154 w151)) (False))) (sqP (u4 + 6) (fun x152 => f_L_law_L b N sc n x152 w151))) (False))))))))) (brP (((sc u4.toNatClampNeg) &&& 63) = 17) (gdP (vB (u4 + 1) N) (bzP (f_L_patienceOf (sc (u4 + 1).toNatClampNeg) w) (fun r156 w158 => gdP (vB (u4 + 1) N) (bd1P (f_X15_patienceOf (sc (u4 + 1).toNatClampNeg) w158) (fun r160 w161 => bd1P (f_X15_thrown w161) (fun r162 w163 => brP (r162 = r156) (brP (r156 = 0) (gdP (vB 0 1) (brP ((lg_cmp (gL w163 63 0 (0 : Int32).toNatClampNeg) r160.toInt64) = 0) (sqP (u4 + 6) (fun x166 => f_L_law_L b N sc n x166 w163)) (False))) (sqP (u4 + 6) (fun x164 => f_L_law_L b N sc n x164 w163))) (False))))))) (brP (((sc u4.toNatClampNeg) &&& 63) = 18) (gdP (vB (u4 + 1) N) (bzP (f_L_petalsOf (sc (u4 + 1).toNatClampNeg) w) (fun r168 w170 => gdP (vB (u4 + 1) N) (bd1P (f_X15_petalsOf (sc (u4 + 1).toNatClampNeg) w170) (fun r172 w173 => bd1P (f_X15_thrown w173) (fun r174 w175 => brP (r174 = r168) (brP (r168 = 0) (gdP (vB 0 1) (brP ((lg_cmp (gL w175 63 0 (0 : Int32).toNatClampNeg) r172.toInt64) = 0) (sqP (u4 + 6) (fun x178 => f_L_law_L b N sc n x178 w175)) (False))) (sqP (u4 + 6) (fun x176 => f_L_law_L b N sc n x176 w175))) (False))))))) (brP (((sc u4.toNatClampNeg) &&& 63) = 19) (gdP (vB (u4 + 1) N) (bzP (f_L_countOf (sc (u4 + 1).toNatClampNeg) w) (fun r180 w182 => gdP (vB (u4 + 1) N) (bd1P (f_X15_countOf (sc (u4 + 1).toNatClampNeg) w182) (fun r184 w185 => bd1P (f_X15_thrown w185) (fun r186 w187 => brP (r186 = r180) (brP (r180 = 0) (gdP (vB 0 1) (brP ((lg_cmp (gL w187 63 0 (0 : Int32).toNatClampNeg) r184.toInt64) = 0) (sqP (u4 + 6) (fun x190 => f_L_law_L b N sc n x190 w187)) (False))) (sqP (u4 + 6) (fun x188 => f_L_law_L b N sc n x188 w187))) (False))))))) (brP (((sc u4.toNatClampNeg) &&& 63) = 20) (gdP (vB (u4 + 1) N) (bzP (f_L_hedgesOf (sc (u4 + 1).toNatClampNeg) w) (fun r192 w194 => gdP (vB (u4 + 1) N) (bd1P (f_X15_hedgesOf (sc (u4 + 1).toNatClampNeg) w194) (fun r196 w197 => bd1P (f_X15_thrown w197) (fun r198 w199 => brP (r198 = r192) (brP (r192 = 0) (gdP (vB 0 1) (brP ((lg_cmp (gL w199 63 0 (0 : Int32).toNatClampNeg) r196.toInt64) = 0) (sqP (u4 + 6) (fun x202 => f_L_law_L b N sc n x202 w199)) (False))) (sqP (u4 + 6) (fun x200 => f_L_law_L b N sc n x200 w199))) (False))))))) (brP (((sc u4.toNatClampNeg) &&& 63) = 21) (bd1P (f_X12_fullest w) (fun r203 w204 => bd1P (f_X15_fullest w204) (fun r205 w206 => brP (r203 = r205) (sqP (u4 + 6) (fun x207 => f_L_law_L b N sc n x207 w206)) (False)))) (brP (((sc u4.toNatClampNeg) &&& 63) = 22) (gdP (vB (u4 + 1) N) (gdP (vB (u4 + 2) N) (bzP (f_L_hedgeListens (sc (u4 + 1).toNatClampNeg) (sc (u4 + 2).toNatClampNeg) w) (fun r210 w212 => gdP (vB (u4 + 1) N) (gdP (vB (u4 + 2) N) (bd1P (f_X15_hedgeListens (sc (u4 + 1).toNatClampNeg) (sc (u4 + 2).toNatClampNeg) w212) (fun r215 w216 => bd1P (f_X15_thrown w216) (fun r217 w218 => brP (r217 = r210) (brP (r210 = 0) (gdP (vB 0 1) (brP ((lg_cmp (gL w218 63 0 (0 : Int32).toNatClampNeg) r215.toInt64) = 0) (sqP (u4 + 6) (fun x221 => f_L_law_L b N sc n x221 w218)) (False))) (sqP (u4 + 6) (fun x219 => f_L_law_L b N sc n x219 w218))) (False))))))))) (brP (((sc u4.toNatClampNeg) &&& 63) = 23) (gdP (vB (u4 + 1) N) (gdP (vB (u4 + 2) N) (bzP (f_L_roseListens (sc (u4 + 1).toNatClampNeg) (sc (u4 + 2).toNatClampNeg) w) (fun r224 w226 => gdP (vB (u4 + 1) N) (gdP (vB (u4 + 2) N) (bd1P (f_X15_roseListens (sc (u4 + 1).toNatClampNeg) (sc (u4 + 2).toNatClampNeg) w226) (fun r229 w230 => bd1P (f_X15_thrown w230) (fun r231 w232 => brP (r231 = r224) (brP (r224 = 0) (gdP (vB 0 1) (brP ((lg_cmp (gL w232 63 0 (0 : Int32).toNatClampNeg) r229.toInt64) = 0) (sqP (u4 + 6) (fun x235 => f_L_law_L b N sc n x235 w232)) (False))) (sqP (u4 + 6) (fun x233 => f_L_law_L b N sc n x233 w232))) (False))))))))) (brP (((sc u4.toNatClampNeg) &&& 63) = 24) (gdP (vB (u4 + 1) N) (gdP (vB (u4 + 2) N) (bzP (f_L_hedgeLeaves (sc (u4 + 1).toNatClampNeg) (sc (u4 + 2).toNatClampNeg) w) (fun r238 w240 => gdP (vB (u4 + 1) N) (gdP (vB (u4 + 2) N) (bd1P (f_X15_hedgeLeaves (sc (u4 + 1).toNatClampNeg) (sc (u4 + 2).toNatClampNeg) w240) (fun r243 w244 => bd1P (f_X15_thrown w244) (fun r245 w246 => brP (r245 = r238) (brP (r238 = 0) (gdP (vB 0 1) (brP ((lg_cmp (gL w246 63 0 (0 : Int32).toNatClampNeg) r243.toInt64) = 0) (sqP (u4 + 6) (fun x249 => f_L_law_L b N sc n x249 w246)) (False))) (sqP (u4 + 6) (fun x247 => f_L_law_L b N sc n x247 w246))) (False))))))))) (brP (((sc u4.toNatClampNeg) &&& 63) = 25) (gdP (vB (u4 + 1) N) (gdP (vB (u4 + 2) N) (bzP (f_L_roseLeaves (sc (u4 + 1).toNatClampNeg) (sc (u4 + 2).toNatClampNeg) w) (fun r252 w254 => gdP (vB (u4 + 1) N) (gdP (vB (u4 + 2) N) (bd1P (f_X15_roseLeaves (sc (u4 + 1).toNatClampNeg) (sc (u4 + 2).toNatClampNeg) w254) (fun r257 w258 => bd1P (f_X15_thrown w258) (fun r259 w260 => brP (r259 = r252) (brP (r252 = 0) (gdP (vB 0 1) (brP ((lg_cmp (gL w260 63 0 (0 : Int32).toNatClampNeg) r257.toInt64) = 0) (sqP (u4 + 6) (fun x263 => f_L_law_L b N sc n x263 w260)) (False))) (sqP (u4 + 6) (fun x261 => f_L_law_L b N sc n x261 w260))) (False))))))))) (brP (((sc u4.toNatClampNeg) &&& 63) = 26) (gdP (vB (u4 + 1) N) (gdP (vB (u4 + 2) N) (bzP (f_L_tell (sc (u4 + 1).toNatClampNeg) (sc (u4 + 2).toNatClampNeg) w) (fun r266 w268 => gdP (vB (u4 + 1) N) (gdP (vB (u4 + 2) N) (bd1P (f_X15_tell (sc (u4 + 1).toNatClampNeg) (sc (u4 + 2).toNatClampNeg) w268) (fun r271 w272 => bd1P (f_X15_thrown w272) (fun r273 w274 => brP (r273 = r266) (brP (r266 = 0) (gdP (vB 0 1) (brP ((lg_cmp (gL w274 63 0 (0 : Int32).toNatClampNeg) r271.toInt64) = 0) (sqP (u4 + 6) (fun x277 => f_L_law_L b N sc n x277 w274)) (False))) (sqP (u4 + 6) (fun x275 => f_L_law_L b N sc n x275 w274))) (False))))))))) (brP (((sc u4.toNatClampNeg) &&& 63) = 27) (gdP (vB (u4 + 1) N) (bzP (f_L_passDays (sc (u4 + 1).toNatClampNeg) w) (fun r279 w281 => gdP (vB (u4 + 1) N) (bd1P (f_X15_passDays (sc (u4 + 1).toNatClampNeg) w281) (fun r283 w284 => bd1P (f_X15_thrown w284) (fun r285 w286 => brP (r285 = r279) (brP (r279 = 0) (gdP (vB 0 1) (brP ((lg_cmp (gL w286 63 0 (0 : Int32).toNatClampNeg) r283.toInt64) = 0) (sqP (u4 + 6) (fun x289 => f_L_law_L b N sc n x289 w286)) (False))) (sqP (u4 + 6) (fun x287 => f_L_law_L b N sc n x287 w286))) (False))))))) (brP (((sc u4.toNatClampNeg) &&& 63) = 28) (gdP (vB (u4 + 1) N) (gdP (vB (u4 + 2) N) (bzP (f_L_reach (sc (u4 + 1).toNatClampNeg) (sc (u4 + 2).toNatClampNeg) w) (fun r292 w294 => gdP (vB (u4 + 1) N) (gdP (vB (u4 + 2) N) (bd1P (f_X15_reach b (sc (u4 + 1).toNatClampNeg) (sc (u4 + 2).toNatClampNeg) w294) (fun r297 w298 => bd1P (f_X15_thrown w298) (fun r299 w300 => brP (r299 = r292) (brP (r292 = 0) (gdP (vB 0 1) (brP ((lg_cmp (gL w300 63 0 (0 : Int32).toNatClampNeg) r297.toInt64) = 0) (sqP (u4 + 6) (fun x303 => f_L_law_L b N sc n x303 w300)) (False))) (sqP (u4 + 6) (fun x301 => f_L_law_L b N sc n x301 w300))) (False))))))))) (brP (((sc u4.toNatClampNeg) &&& 63) = 29) (gdP (vB (u4 + 1) N) (gdP (vB (u4 + 2) N) (bzP (f_L_loudnessAt (sc (u4 + 1).toNatClampNeg) (sc (u4 + 2).toNatClampNeg) w) (fun r306 w308 => gdP (vB (u4 + 1) N) (gdP (vB (u4 + 2) N) (bd1P (f_X15_loudnessAt b (sc (u4 + 1).toNatClampNeg) (sc (u4 + 2).toNatClampNeg) w308) (fun r311 w312 => bd1P (f_X15_thrown w312) (fun r313 w314 => brP (r313 = r306) (brP (r306 = 0) (gdP (vB 0 1) (brP ((lg_cmp (gL w314 63 0 (0 : Int32).toNatClampNeg) r311.toInt64) = 0) (sqP (u4 + 6) (fun x317 => f_L_law_L b N sc n x317 w314)) (False))) (sqP (u4 + 6) (fun x315 => f_L_law_L b N sc n x315 w314))) (False))))))))) (brP (((sc u4.toNatClampNeg) &&& 63) = 30) (gdP (vB (u4 + 1) N) (bzP (f_L_comesBack (sc (u4 + 1).toNatClampNeg) w) (fun r319 w321 => gdP (vB (u4 + 1) N) (bd1P (f_X15_comesBack b (sc (u4 + 1).toNatClampNeg) w321) (fun r323 w324 => bd1P (f_X15_thrown w324) (fun r325 w326 => brP (r325 = r319) (brP (r319 = 0) (gdP (vB 0 1) (brP (r323 = 0) (brP ((lg_cmp (gL w326 63 0 (0 : Int32).toNatClampNeg) 0) = 0) (sqP (u4 + 6) (fun x329 => f_L_law_L b N sc n x329 w326)) (False)) (brP ((lg_cmp (gL w326 63 0 (0 : Int32).toNatClampNeg) 1) = 0) (sqP (u4 + 6) (fun x330 => f_L_law_L b N sc n x330 w326)) (False)))) (sqP (u4 + 6) (fun x327 => f_L_law_L b N sc n x327 w326))) (False))))))) (brP (((sc u4.toNatClampNeg) &&& 63) = 31) (gdP (vB (u4 + 1) N) (gdP (vB (u4 + 2) N) (bzP (f_L_petalsAfter (sc (u4 + 1).toNatClampNeg) (sc (u4 + 2).toNatClampNeg) w) (fun r333 w335 => gdP (vB (u4 + 1) N) (gdP (vB (u4 + 2) N) (bd1P (f_X15_petalsAfter b (sc (u4 + 1).toNatClampNeg) (sc (u4 + 2).toNatClampNeg) w335) (fun r338 w339 => bd1P (f_X15_thrown w339) (fun r340 w341 => brP (r340 = r333) (brP (r333 = 0) (gdP (vB 0 1) (brP ((lg_cmp (gL w341 63 0 (0 : Int32).toNatClampNeg) r338.toInt64) = 0) (sqP (u4 + 6) (fun x344 => f_L_law_L b N sc n x344 w341)) (False))) (sqP (u4 + 6) (fun x342 => f_L_law_L b N sc n x342 w341))) (False))))))))) (brP (((sc u4.toNatClampNeg) &&& 63) = 32) (gdP (vB (u4 + 1) N) (bzP (f_L_daysUntilLeft (sc (u4 + 1).toNatClampNeg) w) (fun r346 w348 => gdP (vB (u4 + 1) N) (bd1P (f_X15_daysUntilLeft b (sc (u4 + 1).toNatClampNeg) w348) (fun r350 w351 => bd1P (f_X15_thrown w351) (fun r352 w353 => brP (r352 = r346) (brP (r346 = 0) (gdP (vB 0 1) (brP ((lg_cmp (gL w353 63 0 (0 : Int32).toNatClampNeg) r350.toInt64) = 0) (sqP (u4 + 6) (fun x356 => f_L_law_L b N sc n x356 w353)) (False))) (sqP (u4 + 6) (fun x354 => f_L_law_L b N sc n x354 w353))) (False))))))) (brP (((sc u4.toNatClampNeg) &&& 63) = 33) (gdP (vB (u4 + 1) N) (bzP (f_L_bestToTell (sc (u4 + 1).toNatClampNeg) w) (fun r358 w360 => gdP (vB (u4 + 1) N) (bd1P (f_X15_bestToTell b (sc (u4 + 1).toNatClampNeg) w360) (fun r362 w363 => bd1P (f_X15_thrown w363) (fun r364 w365 => brP (r364 = r358) (brP (r358 = 0) (gdP (vB 0 1) (brP ((lg_cmp (gL w365 63 0 (0 : Int32).toNatClampNeg) r362.toInt64) = 0) (sqP (u4 + 6) (fun x368 => f_L_law_L b N sc n x368 w365)) (False))) (sqP (u4 + 6) (fun x366 => f_L_law_L b N sc n x366 w365))) (False))))))) (brP (((sc u4.toNatClampNeg) &&& 63) = 34) (bd1P (f_X12_meanPetals w) (fun r369 w370 => bd1P (f_X15_meanPetals w370) (fun r371 w372 => brP ((Op.cmpValue (FP.dcmp r369 r371) (.l)) = 0) (sqP (u4 + 6) (fun x373 => f_L_law_L b N sc n x373 w372)) (brP ((Op.cmpValue (FP.dcmp r369 r369) (.l)) = 0) (False) (brP ((Op.cmpValue (FP.dcmp r371 r371) (.l)) = 0) (False) (sqP (u4 + 6) (fun x374 => f_L_law_L b N sc n x374 w372))))))) (brP (((sc u4.toNatClampNeg) &&& 63) = 35) (bd1P (f_X12_digest w) (fun r375 w376 => bd1P (f_X15_digest b w376) (fun r377 w378 => brP ((lg_cmp r375 r377) = 0) (sqP (u4 + 6) (fun x379 => f_L_law_L b N sc n x379 w378)) (False)))) (sqP (u4 + 6) (fun x380 => f_L_law_L b N sc n x380 w)))))))))))))))))))))))))))))))))))))))
def f_L_law (b N : Nat) (sc : Nat → Int32) (w : Mm) : Prop := gdP (decide (adr b 1 0 = gZ w)) (sqP (nw w 1 0 0) (fun w1 => bd0P (f_X12_init b w1) (fun w3 => gdP (decide (adr b 32 0 = gZ w3)) (sqP (nw w3 32 0 0) (fun w4 => bd0P (f_X15_init b w4) (fun w6 => gdP (decide (adr b 63 0 = gZ w6)) (sqP (nw w6 63 0 0) (fun w7 => BtB b w7 ∧ f_L_law_L b N sc 513 0 w7))))))))
set_option maxHeartbeats 8000000 in
set_option maxRecDepth 100000 in
theorem l_L_law {p : Program} {l : Launch} {e : Env} {s : State} {m : MethodId} {args : Array Value} {below : List Frame} {meth : Method} {c : Code} {Q : State → Prop} {G : GG} (hC : CX p s m args c meth G cL_law 9 (some .boolean) RL) (hF : gF G = true) (hst : l.stackTraces = false) (a0 N : Nat) (sc : Nat → Int32) (hX : va_X a0 N sc s s.heap) (hbl : a0 < s.heap.size) (hbA : ¬ Ab G a0) : ∀ (n cells slots : Nat) (hcs : cells + 1000 * n ≤ 601024 ∧ slots + 14000 * n ≤ 7293034) (u4 : Int32) (w : Mm), f_L_law_L (gB G) N sc n u4 w → ∀ (H : Heap) (locs : List Loc) (ls : Array Slot), HP G w H → va_S (Ab G) s.heap H locs → lv_has ls 9 [(0, .ref a0), (1, .ref (adr (gB G) 1 0)), (2, .ref (adr (gB G) 32 0)), (3, .ref (adr (gB G) 63 0)), (4, .int u4)] →
    (k0 : ∀ (cells slots : Nat), cells ≤ 601024 → slots ≤ 7293034 → ∀ (w' : Mm) (H : Heap) (locs : List Loc) (ls : Array Slot), HP G w' H → va_S (Ab G) s.heap H locs → lv_has ls 9 [] → W p l e room_1 s m args below meth c H locs cells slots Q (F0 m 1910 ls [])) → W p l e room_1 s m args below meth c H locs cells slots Q (F0 m 23 ls []) := by
  obtain ⟨hx, hb, hml, hr, hown, hlocks, hts, hE⟩ := id hC
  intro n
  induction n with
  | zero =>
    intro cells slots hcs u4 w h
    rw [f_L_law_L] at h
    exact h.elim
  | succ n ih =>
    intro cells slots hcs u4 w h H locs ls hP hS hl k0
    rw [f_L_law_L] at h
    refine lv_iload hx hb dL_law_23 (lv_at hl 4 rfl) ?_
    refine lv_aload_n hx hb dL_law_25 rfl (lv_at hl 0 rfl) ?_
    refine va_slen hx hb hX hbl hbA hS dL_law_26 ?_
    refine lv_bipush (v := 6) hx hb dL_law_27 (by decide) ?_
    refine lv_isub hx hb dL_law_29 ?_
    refine lv_icmp_gt (tgt := 1910) hx hb dL_law_30 (by decide) (fun cc => ?_) (fun cc => ?_)
    · have h := brP_el h cc
      exact k0 _ _ (by (try dsimp only); omega) (by (try dsimp only); omega) _ _ _ _ hP hS (lv_sub hl [] rfl)
    · have h := brP_er h cc
      refine lv_aload_n hx hb dL_law_33 rfl (lv_at hl 0 rfl) ?_
      refine lv_iload hx hb dL_law_34 (lv_at hl 4 rfl) ?_
      obtain ⟨g1, h⟩ := gdP_el h
      refine va_sld hx hb hX hbl hbA hS (vB_in g1) dL_law_36 ?_
      refine lv_bipush (v := 63) hx hb dL_law_37 (by decide) ?_
      refine lv_iand hx hb dL_law_39 ?_
      have ho := h
      by_cases c0 : ((sc u4.toNatClampNeg) &&& 63) = 0
      · have h := brP_el h c0
        refine k_tab (tgt := 200) hx hb dL_law_40 (by decide) (by have cq := c0; (rw [cq]; decide)) ?_
        refine lv_aload_n hx hb dL_law_200 rfl (lv_at hl 1 rfl) ?_
        refine lv_aload_n hx hb dL_law_201 rfl (lv_at hl 0 rfl) ?_
        refine lv_iload hx hb dL_law_202 (lv_at hl 4 rfl) ?_
        refine lv_iconst (v := 1) hx hb dL_law_204 (by decide) ?_
        refine lv_iadd hx hb dL_law_205 ?_
        obtain ⟨g2, h⟩ := gdP_el h
        refine va_sld hx hb hX hbl hbA hS (vB_in g2) dL_law_206 ?_
        refine lv_aload_n hx hb dL_law_207 rfl (lv_at hl 0 rfl) ?_
        refine lv_iload hx hb dL_law_208 (lv_at hl 4 rfl) ?_
        refine lv_iconst (v := 2) hx hb dL_law_210 (by decide) ?_
        refine lv_iadd hx hb dL_law_211 ?_
        obtain ⟨g3, h⟩ := gdP_el h
        refine va_sld hx hb hX hbl hbA hS (vB_in g3) dL_law_212 ?_
        refine lv_aload_n hx hb dL_law_213 rfl (lv_at hl 0 rfl) ?_
        refine lv_iload hx hb dL_law_214 (lv_at hl 4 rfl) ?_
        refine lv_iconst (v := 3) hx hb dL_law_216 (by decide) ?_
        refine lv_iadd hx hb dL_law_217 ?_
        obtain ⟨g4, h⟩ := gdP_el h
        refine va_sld hx hb hX hbl hbA hS (vB_in g4) dL_law_218 ?_
        refine lv_aload_n hx hb dL_law_219 rfl (lv_at hl 0 rfl) ?_
        refine lv_iload hx hb dL_law_220 (lv_at hl 4 rfl) ?_
        refine lv_iconst (v := 4) hx hb dL_law_222 (by decide) ?_
        refine lv_iadd hx hb dL_law_223 ?_
        obtain ⟨g5, h⟩ := gdP_el h
        refine va_sld hx hb hX hbl hbA hS (vB_in g5) dL_law_224 ?_
        refine lv_aload_n hx hb dL_law_225 rfl (lv_at hl 0 rfl) ?_
        refine lv_iload hx hb dL_law_226 (lv_at hl 4 rfl) ?_
        refine lv_iconst (v := 5) hx hb dL_law_228 (by decide) ?_
        refine lv_iadd hx hb dL_law_229 ?_
        obtain ⟨g6, h⟩ := gdP_el h
        refine va_sld hx hb hX hbl hbA hS (vB_in g6) dL_law_230 ?_
        refine lv_aload_n hx hb dL_law_231 rfl (lv_at hl 3 rfl) ?_
        obtain ⟨r7, w8, hf, h⟩ := bzP_el h
        refine c_onz (c_runSW (As := [.ref (adr (gB G) 1 0), .int (sc (u4 + 1).toNatClampNeg), .int (sc (u4 + 2).toNatClampNeg), .int (sc (u4 + 3).toNatClampNeg), .int (sc (u4 + 4).toNatClampNeg), .int (sc (u4 + 5).toNatClampNeg), .ref (adr (gB G) 63 0)]) (rest := []) hx hb hml hown hts hE hP hS (c_L_feed l G hF hst (sc (u4 + 1).toNatClampNeg) (sc (u4 + 2).toNatClampNeg) (sc (u4 + 3).toNatClampNeg) (sc (u4 + 4).toNatClampNeg) (sc (u4 + 5).toNatClampNeg) w r7 w8 hf) w4_196 miL_feed ⟨(Nat.le_of_ble_eq_true rfl), (Nat.le_of_ble_eq_true rfl)⟩ rfl hl.1 rfl (Nat.le_of_ble_eq_true rfl) dL_law_232 (⟨by show _ ≤ 601024; (try dsimp only); omega, by show _ ≤ 7293034; (try dsimp only); omega⟩ : _ ∧ _)) hS (fun z9 hz9 H locs hP hS => ?_)
        have h := h z9 hz9
        obtain ⟨w9, e9⟩ : ∃ u : Mm, u = pZ w8 z9 := ⟨_, rfl⟩
        rw [← e9] at h hP
        skip
        refine lv_istore (i := 5) (lv' := [(5, .int r7), (0, .ref a0), (1, .ref (adr (gB G) 1 0)), (2, .ref (adr (gB G) 32 0)), (3, .ref (adr (gB G) 63 0)), (4, .int u4)]) hx hb dL_law_235 hl (by decide) rfl (fun ls hl => ?_)
        refine lv_aload_n hx hb dL_law_237 rfl (lv_at hl 3 rfl) ?_
        refine lv_aload_n hx hb dL_law_238 rfl (lv_at hl 1 rfl) ?_
        refine lv_iload hx hb dL_law_239 (lv_at hl 5 rfl) ?_
        refine lv_iconst (v := 1) hx hb dL_law_241 (by decide) ?_
        refine lv_iadd hx hb dL_law_242 ?_
        obtain ⟨g10, h⟩ := gdP_el h
        refine va_sld hx hb hX hbl hbA hS (vB_in g10) dL_law_243 ?_
        refine lv_aload_n hx hb dL_law_244 rfl (lv_at hl 1 rfl) ?_
        refine lv_iload hx hb dL_law_245 (lv_at hl 5 rfl) ?_
        refine lv_iconst (v := 2) hx hb dL_law_247 (by decide) ?_
        refine lv_iadd hx hb dL_law_248 ?_
        obtain ⟨g11, h⟩ := gdP_el h
        refine va_sld hx hb hX hbl hbA hS (vB_in g11) dL_law_249 ?_
        refine lv_aload_n hx hb dL_law_250 rfl (lv_at hl 1 rfl) ?_
        refine lv_iload hx hb dL_law_251 (lv_at hl 5 rfl) ?_
        refine lv_iconst (v := 3) hx hb dL_law_253 (by decide) ?_
        refine lv_iadd hx hb dL_law_254 ?_
        obtain ⟨g12, h⟩ := gdP_el h
        refine va_sld hx hb hX hbl hbA hS (vB_in g12) dL_law_255 ?_
        refine lv_aload_n hx hb dL_law_256 rfl (lv_at hl 1 rfl) ?_
        refine lv_iload hx hb dL_law_257 (lv_at hl 5 rfl) ?_
        refine lv_iconst (v := 4) hx hb dL_law_259 (by decide) ?_
        refine lv_iadd hx hb dL_law_260 ?_
        obtain ⟨g13, h⟩ := gdP_el h
        refine va_sld hx hb hX hbl hbA hS (vB_in g13) dL_law_261 ?_
        refine lv_aload_n hx hb dL_law_262 rfl (lv_at hl 1 rfl) ?_
        refine lv_iload hx hb dL_law_263 (lv_at hl 5 rfl) ?_
        refine lv_iconst (v := 5) hx hb dL_law_265 (by decide) ?_
        refine lv_iadd hx hb dL_law_266 ?_
        obtain ⟨g14, h⟩ := gdP_el h
        refine va_sld hx hb hX hbl hbA hS (vB_in g14) dL_law_267 ?_
        obtain ⟨r15, w16, hf, h⟩ := bd1P_el h
        refine c_oni (c_runV (b := adr (gB G) 32 0) (As := [.int (sc (u4 + 1).toNatClampNeg), .int (sc (u4 + 2).toNatClampNeg), .int (sc (u4 + 3).toNatClampNeg), .int (sc (u4 + 4).toNatClampNeg), .int (sc (u4 + 5).toNatClampNeg)]) (rest := []) hx hb hml hown hts hE hP hS (c_X15_feed l G hF (sc (u4 + 1).toNatClampNeg) (sc (u4 + 2).toNatClampNeg) (sc (u4 + 3).toNatClampNeg) (sc (u4 + 4).toNatClampNeg) (sc (u4 + 5).toNatClampNeg) w9 r15 w16 hf) (c_rec hE hP (hp_sh hP hF 0 32 (by decide)) (by decide) rfl rfl) w6_195 miX15_feed ⟨(Nat.le_of_ble_eq_true rfl), (Nat.le_of_ble_eq_true rfl)⟩ rfl hl.1 rfl (Nat.le_of_ble_eq_true rfl) dL_law_268 (⟨by show _ ≤ 601024; (try dsimp only); omega, by show _ ≤ 7293034; (try dsimp only); omega⟩ : _ ∧ _)) hS (fun H locs hP hS => ?_)
        refine lv_istore (i := 6) (lv' := [(6, .int r15), (5, .int r7), (0, .ref a0), (1, .ref (adr (gB G) 1 0)), (2, .ref (adr (gB G) 32 0)), (3, .ref (adr (gB G) 63 0)), (4, .int u4)]) hx hb dL_law_271 hl (by decide) rfl (fun ls hl => ?_)
        refine lv_aload_n hx hb dL_law_273 rfl (lv_at hl 4 rfl) ?_
        obtain ⟨r17, w18, hf, h⟩ := bd1P_el h
        refine c_oni (c_runV (b := adr (gB G) 32 0) (As := []) (rest := []) hx hb hml hown hts hE hP hS (c_X15_thrown l G hF w16 r17 w18 hf) (c_rec hE hP (hp_sh hP hF 0 32 (by decide)) (by decide) rfl rfl) w6_191 miX15_thrown ⟨(Nat.le_of_ble_eq_true rfl), (Nat.le_of_ble_eq_true rfl)⟩ rfl hl.1 rfl (Nat.le_of_ble_eq_true rfl) dL_law_274 (⟨by show _ ≤ 601024; (try dsimp only); omega, by show _ ≤ 7293034; (try dsimp only); omega⟩ : _ ∧ _)) hS (fun H locs hP hS => ?_)
        refine lv_iload hx hb dL_law_277 (lv_at hl 1 rfl) ?_
        refine lv_icmp_eq (tgt := 284) hx hb dL_law_279 (by decide) (fun cc => ?_) (fun cc => ?_)
        · have h := brP_el h cc
          refine lv_iload hx hb dL_law_284 (lv_at hl 1 rfl) ?_
          refine lv_if_ne (tgt := 301) hx hb dL_law_286 (by decide) (fun cc => ?_) (fun cc => ?_)
          · have h := brP_er h cc
            refine lv_goto (tgt := 1904) hx hb dL_law_301 (by decide) ?_
            obtain ⟨x19, e⟩ : ∃ z : Int32, z = u4 + 6 := ⟨_, rfl⟩
            have h := sqP_at h e
            refine lv_iinc (v := x19) (lv' := [(4, .int x19), (6, .int r15), (5, .int r7), (0, .ref a0), (1, .ref (adr (gB G) 1 0)), (2, .ref (adr (gB G) 32 0)), (3, .ref (adr (gB G) 63 0))]) hx hb dL_law_1904 hl (k := 6) rfl (by rw [e]; rfl) (by decide) rfl (fun ls hl => ?_)
            refine lv_goto (tgt := 23) hx hb dL_law_1907 (by decide) ?_
            exact ih _ _ ⟨by (try dsimp only); omega, by (try dsimp only); omega⟩ x19 w18  h _ _ _ hP hS (lv_sub hl [3, 4, 5, 6, 0] rfl) k0
          · have h := brP_el h cc
            refine lv_aload_n hx hb dL_law_289 rfl (lv_at hl 5 rfl) ?_
            refine lv_iconst (v := 0) hx hb dL_law_290 (by decide) ?_
            obtain ⟨g20, h⟩ := gdP_el h
            refine k_lald hx hb hE hP (hp_sh hP hF 0 63 (by decide)) (by decide) rfl g20 dL_law_291 ?_
            refine lv_iload hx hb dL_law_292 (lv_at hl 0 rfl) ?_
            refine lv_i2l hx hb dL_law_294 rfl ?_
            refine W.lcmp hx hb dL_law_295 ?_
            refine lv_if_eq (tgt := 301) hx hb dL_law_296 (by decide) (fun cc => ?_) (fun cc => ?_)
            · have h := brP_el h cc
              refine lv_goto (tgt := 1904) hx hb dL_law_301 (by decide) ?_
              obtain ⟨x21, e⟩ : ∃ z : Int32, z = u4 + 6 := ⟨_, rfl⟩
              have h := sqP_at h e
              refine lv_iinc (v := x21) (lv' := [(4, .int x21), (6, .int r15), (5, .int r7), (0, .ref a0), (1, .ref (adr (gB G) 1 0)), (2, .ref (adr (gB G) 32 0)), (3, .ref (adr (gB G) 63 0))]) hx hb dL_law_1904 hl (k := 6) rfl (by rw [e]; rfl) (by decide) rfl (fun ls hl => ?_)
              refine lv_goto (tgt := 23) hx hb dL_law_1907 (by decide) ?_
              exact ih _ _ ⟨by (try dsimp only); omega, by (try dsimp only); omega⟩ x21 w18  h _ _ _ hP hS (lv_sub hl [3, 4, 5, 6, 0] rfl) k0
            · have h := brP_er h cc
              refine lv_iconst (v := 0) hx hb dL_law_299 (by decide) ?_
              exact h.elim
        · have h := brP_er h cc
          refine lv_iconst (v := 0) hx hb dL_law_282 (by decide) ?_
          exact h.elim
      · have h := brP_er h c0
        by_cases c1 : ((sc u4.toNatClampNeg) &&& 63) = 1
        · have h := brP_el h c1
          refine k_tab (tgt := 304) hx hb dL_law_40 (by decide) (by have cq := c1; (rw [cq]; decide)) ?_
          refine lv_aload_n hx hb dL_law_304 rfl (lv_at hl 1 rfl) ?_
          refine lv_aload_n hx hb dL_law_305 rfl (lv_at hl 0 rfl) ?_
          refine lv_iload hx hb dL_law_306 (lv_at hl 4 rfl) ?_
          refine lv_iconst (v := 1) hx hb dL_law_308 (by decide) ?_
          refine lv_iadd hx hb dL_law_309 ?_
          obtain ⟨g22, h⟩ := gdP_el h
          refine va_sld hx hb hX hbl hbA hS (vB_in g22) dL_law_310 ?_
          refine lv_aload_n hx hb dL_law_311 rfl (lv_at hl 3 rfl) ?_
          obtain ⟨r23, w24, hf, h⟩ := bzP_el h
          refine c_onz (c_runSW (As := [.ref (adr (gB G) 1 0), .int (sc (u4 + 1).toNatClampNeg), .ref (adr (gB G) 63 0)]) (rest := []) hx hb hml hown hts hE hP hS (c_L_trim l G hF hst (sc (u4 + 1).toNatClampNeg) w r23 w24 hf) w4_224 miL_trim ⟨(Nat.le_of_ble_eq_true rfl), (Nat.le_of_ble_eq_true rfl)⟩ rfl hl.1 rfl (Nat.le_of_ble_eq_true rfl) dL_law_312 (⟨by show _ ≤ 601024; (try dsimp only); omega, by show _ ≤ 7293034; (try dsimp only); omega⟩ : _ ∧ _)) hS (fun z9 hz9 H locs hP hS => ?_)
          have h := h z9 hz9
          obtain ⟨w25, e9⟩ : ∃ u : Mm, u = pZ w24 z9 := ⟨_, rfl⟩
          rw [← e9] at h hP
          skip
          refine lv_istore (i := 5) (lv' := [(5, .int r23), (0, .ref a0), (1, .ref (adr (gB G) 1 0)), (2, .ref (adr (gB G) 32 0)), (3, .ref (adr (gB G) 63 0)), (4, .int u4)]) hx hb dL_law_315 hl (by decide) rfl (fun ls hl => ?_)
          refine lv_aload_n hx hb dL_law_317 rfl (lv_at hl 3 rfl) ?_
          refine lv_aload_n hx hb dL_law_318 rfl (lv_at hl 1 rfl) ?_
          refine lv_iload hx hb dL_law_319 (lv_at hl 5 rfl) ?_
          refine lv_iconst (v := 1) hx hb dL_law_321 (by decide) ?_
          refine lv_iadd hx hb dL_law_322 ?_
          obtain ⟨g26, h⟩ := gdP_el h
          refine va_sld hx hb hX hbl hbA hS (vB_in g26) dL_law_323 ?_
          obtain ⟨r27, w28, hf, h⟩ := bd1P_el h
          refine c_oni (c_runV (b := adr (gB G) 32 0) (As := [.int (sc (u4 + 1).toNatClampNeg)]) (rest := []) hx hb hml hown hts hE hP hS (c_X15_trim l G hF (sc (u4 + 1).toNatClampNeg) w25 r27 w28 hf) (c_rec hE hP (hp_sh hP hF 0 32 (by decide)) (by decide) rfl rfl) w6_203 miX15_trim ⟨(Nat.le_of_ble_eq_true rfl), (Nat.le_of_ble_eq_true rfl)⟩ rfl hl.1 rfl (Nat.le_of_ble_eq_true rfl) dL_law_324 (⟨by show _ ≤ 601024; (try dsimp only); omega, by show _ ≤ 7293034; (try dsimp only); omega⟩ : _ ∧ _)) hS (fun H locs hP hS => ?_)
          refine lv_istore (i := 6) (lv' := [(6, .int r27), (5, .int r23), (0, .ref a0), (1, .ref (adr (gB G) 1 0)), (2, .ref (adr (gB G) 32 0)), (3, .ref (adr (gB G) 63 0)), (4, .int u4)]) hx hb dL_law_327 hl (by decide) rfl (fun ls hl => ?_)
          refine lv_aload_n hx hb dL_law_329 rfl (lv_at hl 4 rfl) ?_
          obtain ⟨r29, w30, hf, h⟩ := bd1P_el h
          refine c_oni (c_runV (b := adr (gB G) 32 0) (As := []) (rest := []) hx hb hml hown hts hE hP hS (c_X15_thrown l G hF w28 r29 w30 hf) (c_rec hE hP (hp_sh hP hF 0 32 (by decide)) (by decide) rfl rfl) w6_191 miX15_thrown ⟨(Nat.le_of_ble_eq_true rfl), (Nat.le_of_ble_eq_true rfl)⟩ rfl hl.1 rfl (Nat.le_of_ble_eq_true rfl) dL_law_330 (⟨by show _ ≤ 601024; (try dsimp only); omega, by show _ ≤ 7293034; (try dsimp only); omega⟩ : _ ∧ _)) hS (fun H locs hP hS => ?_)
          refine lv_iload hx hb dL_law_333 (lv_at hl 1 rfl) ?_
          refine lv_icmp_eq (tgt := 340) hx hb dL_law_335 (by decide) (fun cc => ?_) (fun cc => ?_)
          · have h := brP_el h cc
            refine lv_iload hx hb dL_law_340 (lv_at hl 1 rfl) ?_
            refine lv_if_ne (tgt := 357) hx hb dL_law_342 (by decide) (fun cc => ?_) (fun cc => ?_)
            · have h := brP_er h cc
              refine lv_goto (tgt := 1904) hx hb dL_law_357 (by decide) ?_
              obtain ⟨x31, e⟩ : ∃ z : Int32, z = u4 + 6 := ⟨_, rfl⟩
              have h := sqP_at h e
              refine lv_iinc (v := x31) (lv' := [(4, .int x31), (6, .int r27), (5, .int r23), (0, .ref a0), (1, .ref (adr (gB G) 1 0)), (2, .ref (adr (gB G) 32 0)), (3, .ref (adr (gB G) 63 0))]) hx hb dL_law_1904 hl (k := 6) rfl (by rw [e]; rfl) (by decide) rfl (fun ls hl => ?_)
              refine lv_goto (tgt := 23) hx hb dL_law_1907 (by decide) ?_
              exact ih _ _ ⟨by (try dsimp only); omega, by (try dsimp only); omega⟩ x31 w30  h _ _ _ hP hS (lv_sub hl [3, 4, 5, 6, 0] rfl) k0
            · have h := brP_el h cc
              refine lv_aload_n hx hb dL_law_345 rfl (lv_at hl 5 rfl) ?_
              refine lv_iconst (v := 0) hx hb dL_law_346 (by decide) ?_
              obtain ⟨g32, h⟩ := gdP_el h
              refine k_lald hx hb hE hP (hp_sh hP hF 0 63 (by decide)) (by decide) rfl g32 dL_law_347 ?_
              refine lv_iload hx hb dL_law_348 (lv_at hl 0 rfl) ?_
              refine lv_i2l hx hb dL_law_350 rfl ?_
              refine W.lcmp hx hb dL_law_351 ?_
              refine lv_if_eq (tgt := 357) hx hb dL_law_352 (by decide) (fun cc => ?_) (fun cc => ?_)
              · have h := brP_el h cc
                refine lv_goto (tgt := 1904) hx hb dL_law_357 (by decide) ?_
                obtain ⟨x33, e⟩ : ∃ z : Int32, z = u4 + 6 := ⟨_, rfl⟩
                have h := sqP_at h e
                refine lv_iinc (v := x33) (lv' := [(4, .int x33), (6, .int r27), (5, .int r23), (0, .ref a0), (1, .ref (adr (gB G) 1 0)), (2, .ref (adr (gB G) 32 0)), (3, .ref (adr (gB G) 63 0))]) hx hb dL_law_1904 hl (k := 6) rfl (by rw [e]; rfl) (by decide) rfl (fun ls hl => ?_)
                refine lv_goto (tgt := 23) hx hb dL_law_1907 (by decide) ?_
                exact ih _ _ ⟨by (try dsimp only); omega, by (try dsimp only); omega⟩ x33 w30  h _ _ _ hP hS (lv_sub hl [3, 4, 5, 6, 0] rfl) k0
              · have h := brP_er h cc
                refine lv_iconst (v := 0) hx hb dL_law_355 (by decide) ?_
                exact h.elim
          · have h := brP_er h cc
            refine lv_iconst (v := 0) hx hb dL_law_338 (by decide) ?_
            exact h.elim
        · have h := brP_er h c1
          by_cases c2 : ((sc u4.toNatClampNeg) &&& 63) = 2
          · have h := brP_el h c2
            refine k_tab (tgt := 360) hx hb dL_law_40 (by decide) (by have cq := c2; (rw [cq]; decide)) ?_
            refine lv_aload_n hx hb dL_law_360 rfl (lv_at hl 1 rfl) ?_
            obtain ⟨r34, w35, hf, h⟩ := bd1P_el h
            refine c_oni (c_runV (b := adr (gB G) 1 0) (As := []) (rest := []) hx hb hml hown hts hE hP hS (c_X12_teach l G hF w r34 w35 hf) (c_rec hE hP (hp_sh hP hF 0 1 (by decide)) (by decide) rfl rfl) w2_118 miX12_teach ⟨(Nat.le_of_ble_eq_true rfl), (Nat.le_of_ble_eq_true rfl)⟩ rfl hl.1 rfl (Nat.le_of_ble_eq_true rfl) dL_law_361 (⟨by show _ ≤ 601024; (try dsimp only); omega, by show _ ≤ 7293034; (try dsimp only); omega⟩ : _ ∧ _)) hS (fun H locs hP hS => ?_)
            refine lv_aload_n hx hb dL_law_364 rfl (lv_at hl 2 rfl) ?_
            obtain ⟨r36, w37, hf, h⟩ := bd1P_el h
            refine c_oni (c_runV (b := adr (gB G) 32 0) (As := []) (rest := [.int r34]) hx hb hml hown hts hE hP hS (c_X15_teach l G hF w35 r36 w37 hf) (c_rec hE hP (hp_sh hP hF 0 32 (by decide)) (by decide) rfl rfl) w6_210 miX15_teach ⟨(Nat.le_of_ble_eq_true rfl), (Nat.le_of_ble_eq_true rfl)⟩ rfl hl.1 rfl (Nat.le_of_ble_eq_true rfl) dL_law_365 (⟨by show _ ≤ 601024; (try dsimp only); omega, by show _ ≤ 7293034; (try dsimp only); omega⟩ : _ ∧ _)) hS (fun H locs hP hS => ?_)
            refine lv_icmp_eq (tgt := 1904) hx hb dL_law_368 (by decide) (fun cc => ?_) (fun cc => ?_)
            · have h := brP_el h cc
              obtain ⟨x38, e⟩ : ∃ z : Int32, z = u4 + 6 := ⟨_, rfl⟩
              have h := sqP_at h e
              refine lv_iinc (v := x38) (lv' := [(4, .int x38), (0, .ref a0), (1, .ref (adr (gB G) 1 0)), (2, .ref (adr (gB G) 32 0)), (3, .ref (adr (gB G) 63 0))]) hx hb dL_law_1904 hl (k := 4) rfl (by rw [e]; rfl) (by decide) rfl (fun ls hl => ?_)
              refine lv_goto (tgt := 23) hx hb dL_law_1907 (by decide) ?_
              exact ih _ _ ⟨by (try dsimp only); omega, by (try dsimp only); omega⟩ x38 w37  h _ _ _ hP hS (lv_sub hl [1, 2, 3, 4, 0] rfl) k0
            · have h := brP_er h cc
              refine lv_iconst (v := 0) hx hb dL_law_371 (by decide) ?_
              exact h.elim
          · have h := brP_er h c2
            by_cases c3 : ((sc u4.toNatClampNeg) &&& 63) = 3
            · have h := brP_el h c3
              refine k_tab (tgt := 373) hx hb dL_law_40 (by decide) (by have cq := c3; (rw [cq]; decide)) ?_
              refine lv_aload_n hx hb dL_law_373 rfl (lv_at hl 1 rfl) ?_
              obtain ⟨r39, w40, hf, h⟩ := bd1P_el h
              refine c_oni (c_runV (b := adr (gB G) 1 0) (As := []) (rest := []) hx hb hml hown hts hE hP hS (c_X12_errorAt l G hF w r39 w40 hf) (c_rec hE hP (hp_sh hP hF 0 1 (by decide)) (by decide) rfl rfl) w3_171 miX12_errorAt ⟨(Nat.le_of_ble_eq_true rfl), (Nat.le_of_ble_eq_true rfl)⟩ rfl hl.1 rfl (Nat.le_of_ble_eq_true rfl) dL_law_374 (⟨by show _ ≤ 601024; (try dsimp only); omega, by show _ ≤ 7293034; (try dsimp only); omega⟩ : _ ∧ _)) hS (fun H locs hP hS => ?_)
              refine lv_aload_n hx hb dL_law_377 rfl (lv_at hl 2 rfl) ?_
              obtain ⟨r41, w42, hf, h⟩ := bd1P_el h
              refine c_oni (c_runV (b := adr (gB G) 32 0) (As := []) (rest := [.int r39]) hx hb hml hown hts hE hP hS (c_X15_errorAt l G hF w40 r41 w42 hf) (c_rec hE hP (hp_sh hP hF 0 32 (by decide)) (by decide) rfl rfl) w8_0 miX15_errorAt ⟨(Nat.le_of_ble_eq_true rfl), (Nat.le_of_ble_eq_true rfl)⟩ rfl hl.1 rfl (Nat.le_of_ble_eq_true rfl) dL_law_378 (⟨by show _ ≤ 601024; (try dsimp only); omega, by show _ ≤ 7293034; (try dsimp only); omega⟩ : _ ∧ _)) hS (fun H locs hP hS => ?_)
              refine lv_icmp_eq (tgt := 1904) hx hb dL_law_381 (by decide) (fun cc => ?_) (fun cc => ?_)
              · have h := brP_el h cc
                obtain ⟨x43, e⟩ : ∃ z : Int32, z = u4 + 6 := ⟨_, rfl⟩
                have h := sqP_at h e
                refine lv_iinc (v := x43) (lv' := [(4, .int x43), (0, .ref a0), (1, .ref (adr (gB G) 1 0)), (2, .ref (adr (gB G) 32 0)), (3, .ref (adr (gB G) 63 0))]) hx hb dL_law_1904 hl (k := 4) rfl (by rw [e]; rfl) (by decide) rfl (fun ls hl => ?_)
                refine lv_goto (tgt := 23) hx hb dL_law_1907 (by decide) ?_
                exact ih _ _ ⟨by (try dsimp only); omega, by (try dsimp only); omega⟩ x43 w42  h _ _ _ hP hS (lv_sub hl [1, 2, 3, 4, 0] rfl) k0
              · have h := brP_er h cc
                refine lv_iconst (v := 0) hx hb dL_law_384 (by decide) ?_
                exact h.elim
            · have h := brP_er h c3
              by_cases c4 : ((sc u4.toNatClampNeg) &&& 63) = 4
              · have h := brP_el h c4
                refine k_tab (tgt := 386) hx hb dL_law_40 (by decide) (by have cq := c4; (rw [cq]; decide)) ?_
                refine lv_aload_n hx hb dL_law_386 rfl (lv_at hl 1 rfl) ?_
                obtain ⟨r44, w45, hf, h⟩ := bd1P_el h
                refine c_oni (c_runV (b := adr (gB G) 1 0) (As := []) (rest := []) hx hb hml hown hts hE hP hS (c_X12_hedges l G hF w r44 w45 hf) (c_rec hE hP (hp_sh hP hF 0 1 (by decide)) (by decide) rfl rfl) w3_175 miX12_hedges ⟨(Nat.le_of_ble_eq_true rfl), (Nat.le_of_ble_eq_true rfl)⟩ rfl hl.1 rfl (Nat.le_of_ble_eq_true rfl) dL_law_387 (⟨by show _ ≤ 601024; (try dsimp only); omega, by show _ ≤ 7293034; (try dsimp only); omega⟩ : _ ∧ _)) hS (fun H locs hP hS => ?_)
                refine lv_aload_n hx hb dL_law_390 rfl (lv_at hl 2 rfl) ?_
                obtain ⟨r46, w47, hf, h⟩ := bd1P_el h
                refine c_oni (c_runV (b := adr (gB G) 32 0) (As := []) (rest := [.int r44]) hx hb hml hown hts hE hP hS (c_X15_hedges l G hF w45 r46 w47 hf) (c_rec hE hP (hp_sh hP hF 0 32 (by decide)) (by decide) rfl rfl) w8_8 miX15_hedges ⟨(Nat.le_of_ble_eq_true rfl), (Nat.le_of_ble_eq_true rfl)⟩ rfl hl.1 rfl (Nat.le_of_ble_eq_true rfl) dL_law_391 (⟨by show _ ≤ 601024; (try dsimp only); omega, by show _ ≤ 7293034; (try dsimp only); omega⟩ : _ ∧ _)) hS (fun H locs hP hS => ?_)
                refine lv_icmp_eq (tgt := 1904) hx hb dL_law_394 (by decide) (fun cc => ?_) (fun cc => ?_)
                · have h := brP_el h cc
                  obtain ⟨x48, e⟩ : ∃ z : Int32, z = u4 + 6 := ⟨_, rfl⟩
                  have h := sqP_at h e
                  refine lv_iinc (v := x48) (lv' := [(4, .int x48), (0, .ref a0), (1, .ref (adr (gB G) 1 0)), (2, .ref (adr (gB G) 32 0)), (3, .ref (adr (gB G) 63 0))]) hx hb dL_law_1904 hl (k := 4) rfl (by rw [e]; rfl) (by decide) rfl (fun ls hl => ?_)
                  refine lv_goto (tgt := 23) hx hb dL_law_1907 (by decide) ?_
                  exact ih _ _ ⟨by (try dsimp only); omega, by (try dsimp only); omega⟩ x48 w47  h _ _ _ hP hS (lv_sub hl [1, 2, 3, 4, 0] rfl) k0
                · have h := brP_er h cc
                  refine lv_iconst (v := 0) hx hb dL_law_397 (by decide) ?_
                  exact h.elim
              · have h := brP_er h c4
                by_cases c5 : ((sc u4.toNatClampNeg) &&& 63) = 5
                · have h := brP_el h c5
                  refine k_tab (tgt := 399) hx hb dL_law_40 (by decide) (by have cq := c5; (rw [cq]; decide)) ?_
                  refine lv_aload_n hx hb dL_law_399 rfl (lv_at hl 1 rfl) ?_
                  obtain ⟨r49, w50, hf, h⟩ := bd1P_el h
                  refine c_oni (c_runV (b := adr (gB G) 1 0) (As := []) (rest := []) hx hb hml hown hts hE hP hS (c_X12_roses l G hF w r49 w50 hf) (c_rec hE hP (hp_sh hP hF 0 1 (by decide)) (by decide) rfl rfl) w3_179 miX12_roses ⟨(Nat.le_of_ble_eq_true rfl), (Nat.le_of_ble_eq_true rfl)⟩ rfl hl.1 rfl (Nat.le_of_ble_eq_true rfl) dL_law_400 (⟨by show _ ≤ 601024; (try dsimp only); omega, by show _ ≤ 7293034; (try dsimp only); omega⟩ : _ ∧ _)) hS (fun H locs hP hS => ?_)
                  refine lv_aload_n hx hb dL_law_403 rfl (lv_at hl 2 rfl) ?_
                  obtain ⟨r51, w52, hf, h⟩ := bd1P_el h
                  refine c_oni (c_runV (b := adr (gB G) 32 0) (As := []) (rest := [.int r49]) hx hb hml hown hts hE hP hS (c_X15_roses l G hF w50 r51 w52 hf) (c_rec hE hP (hp_sh hP hF 0 32 (by decide)) (by decide) rfl rfl) w8_12 miX15_roses ⟨(Nat.le_of_ble_eq_true rfl), (Nat.le_of_ble_eq_true rfl)⟩ rfl hl.1 rfl (Nat.le_of_ble_eq_true rfl) dL_law_404 (⟨by show _ ≤ 601024; (try dsimp only); omega, by show _ ≤ 7293034; (try dsimp only); omega⟩ : _ ∧ _)) hS (fun H locs hP hS => ?_)
                  refine lv_icmp_eq (tgt := 1904) hx hb dL_law_407 (by decide) (fun cc => ?_) (fun cc => ?_)
                  · have h := brP_el h cc
                    obtain ⟨x53, e⟩ : ∃ z : Int32, z = u4 + 6 := ⟨_, rfl⟩
                    have h := sqP_at h e
                    refine lv_iinc (v := x53) (lv' := [(4, .int x53), (0, .ref a0), (1, .ref (adr (gB G) 1 0)), (2, .ref (adr (gB G) 32 0)), (3, .ref (adr (gB G) 63 0))]) hx hb dL_law_1904 hl (k := 4) rfl (by rw [e]; rfl) (by decide) rfl (fun ls hl => ?_)
                    refine lv_goto (tgt := 23) hx hb dL_law_1907 (by decide) ?_
                    exact ih _ _ ⟨by (try dsimp only); omega, by (try dsimp only); omega⟩ x53 w52  h _ _ _ hP hS (lv_sub hl [1, 2, 3, 4, 0] rfl) k0
                  · have h := brP_er h cc
                    refine lv_iconst (v := 0) hx hb dL_law_410 (by decide) ?_
                    exact h.elim
                · have h := brP_er h c5
                  by_cases c6 : ((sc u4.toNatClampNeg) &&& 63) = 6
                  · have h := brP_el h c6
                    refine k_tab (tgt := 412) hx hb dL_law_40 (by decide) (by have cq := c6; (rw [cq]; decide)) ?_
                    refine lv_aload_n hx hb dL_law_412 rfl (lv_at hl 1 rfl) ?_
                    obtain ⟨r54, w55, hf, h⟩ := bd1P_el h
                    refine c_oni (c_runV (b := adr (gB G) 1 0) (As := []) (rest := []) hx hb hml hown hts hE hP hS (c_X12_day l G hF w r54 w55 hf) (c_rec hE hP (hp_sh hP hF 0 1 (by decide)) (by decide) rfl rfl) w3_183 miX12_day ⟨(Nat.le_of_ble_eq_true rfl), (Nat.le_of_ble_eq_true rfl)⟩ rfl hl.1 rfl (Nat.le_of_ble_eq_true rfl) dL_law_413 (⟨by show _ ≤ 601024; (try dsimp only); omega, by show _ ≤ 7293034; (try dsimp only); omega⟩ : _ ∧ _)) hS (fun H locs hP hS => ?_)
                    refine lv_aload_n hx hb dL_law_416 rfl (lv_at hl 2 rfl) ?_
                    obtain ⟨r56, w57, hf, h⟩ := bd1P_el h
                    refine c_oni (c_runV (b := adr (gB G) 32 0) (As := []) (rest := [.int r54]) hx hb hml hown hts hE hP hS (c_X15_day l G hF w55 r56 w57 hf) (c_rec hE hP (hp_sh hP hF 0 32 (by decide)) (by decide) rfl rfl) w8_16 miX15_day ⟨(Nat.le_of_ble_eq_true rfl), (Nat.le_of_ble_eq_true rfl)⟩ rfl hl.1 rfl (Nat.le_of_ble_eq_true rfl) dL_law_417 (⟨by show _ ≤ 601024; (try dsimp only); omega, by show _ ≤ 7293034; (try dsimp only); omega⟩ : _ ∧ _)) hS (fun H locs hP hS => ?_)
                    refine lv_icmp_eq (tgt := 1904) hx hb dL_law_420 (by decide) (fun cc => ?_) (fun cc => ?_)
                    · have h := brP_el h cc
                      obtain ⟨x58, e⟩ : ∃ z : Int32, z = u4 + 6 := ⟨_, rfl⟩
                      have h := sqP_at h e
                      refine lv_iinc (v := x58) (lv' := [(4, .int x58), (0, .ref a0), (1, .ref (adr (gB G) 1 0)), (2, .ref (adr (gB G) 32 0)), (3, .ref (adr (gB G) 63 0))]) hx hb dL_law_1904 hl (k := 4) rfl (by rw [e]; rfl) (by decide) rfl (fun ls hl => ?_)
                      refine lv_goto (tgt := 23) hx hb dL_law_1907 (by decide) ?_
                      exact ih _ _ ⟨by (try dsimp only); omega, by (try dsimp only); omega⟩ x58 w57  h _ _ _ hP hS (lv_sub hl [1, 2, 3, 4, 0] rfl) k0
                    · have h := brP_er h cc
                      refine lv_iconst (v := 0) hx hb dL_law_423 (by decide) ?_
                      exact h.elim
                  · have h := brP_er h c6
                    by_cases c7 : ((sc u4.toNatClampNeg) &&& 63) = 7
                    · have h := brP_el h c7
                      refine k_tab (tgt := 425) hx hb dL_law_40 (by decide) (by have cq := c7; (rw [cq]; decide)) ?_
                      refine lv_aload_n hx hb dL_law_425 rfl (lv_at hl 1 rfl) ?_
                      obtain ⟨r59, w60, hf, h⟩ := bd1P_el h
                      refine c_oni (c_runV (b := adr (gB G) 1 0) (As := []) (rest := []) hx hb hml hown hts hE hP hS (c_X12_ordersCarriedOut l G hF w r59 w60 hf) (c_rec hE hP (hp_sh hP hF 0 1 (by decide)) (by decide) rfl rfl) w3_187 miX12_ordersCarriedOut ⟨(Nat.le_of_ble_eq_true rfl), (Nat.le_of_ble_eq_true rfl)⟩ rfl hl.1 rfl (Nat.le_of_ble_eq_true rfl) dL_law_426 (⟨by show _ ≤ 601024; (try dsimp only); omega, by show _ ≤ 7293034; (try dsimp only); omega⟩ : _ ∧ _)) hS (fun H locs hP hS => ?_)
                      refine lv_aload_n hx hb dL_law_429 rfl (lv_at hl 2 rfl) ?_
                      obtain ⟨r61, w62, hf, h⟩ := bd1P_el h
                      refine c_oni (c_runV (b := adr (gB G) 32 0) (As := []) (rest := [.int r59]) hx hb hml hown hts hE hP hS (c_X15_ordersCarriedOut l G hF w60 r61 w62 hf) (c_rec hE hP (hp_sh hP hF 0 32 (by decide)) (by decide) rfl rfl) w8_20 miX15_ordersCarriedOut ⟨(Nat.le_of_ble_eq_true rfl), (Nat.le_of_ble_eq_true rfl)⟩ rfl hl.1 rfl (Nat.le_of_ble_eq_true rfl) dL_law_430 (⟨by show _ ≤ 601024; (try dsimp only); omega, by show _ ≤ 7293034; (try dsimp only); omega⟩ : _ ∧ _)) hS (fun H locs hP hS => ?_)
                      refine lv_icmp_eq (tgt := 1904) hx hb dL_law_433 (by decide) (fun cc => ?_) (fun cc => ?_)
                      · have h := brP_el h cc
                        obtain ⟨x63, e⟩ : ∃ z : Int32, z = u4 + 6 := ⟨_, rfl⟩
                        have h := sqP_at h e
                        refine lv_iinc (v := x63) (lv' := [(4, .int x63), (0, .ref a0), (1, .ref (adr (gB G) 1 0)), (2, .ref (adr (gB G) 32 0)), (3, .ref (adr (gB G) 63 0))]) hx hb dL_law_1904 hl (k := 4) rfl (by rw [e]; rfl) (by decide) rfl (fun ls hl => ?_)
                        refine lv_goto (tgt := 23) hx hb dL_law_1907 (by decide) ?_
                        exact ih _ _ ⟨by (try dsimp only); omega, by (try dsimp only); omega⟩ x63 w62  h _ _ _ hP hS (lv_sub hl [1, 2, 3, 4, 0] rfl) k0
                      · have h := brP_er h cc
                        refine lv_iconst (v := 0) hx hb dL_law_436 (by decide) ?_
                        exact h.elim
                    · have h := brP_er h c7
                      by_cases c8 : ((sc u4.toNatClampNeg) &&& 63) = 8
                      · have h := brP_el h c8
                        refine k_tab (tgt := 438) hx hb dL_law_40 (by decide) (by have cq := c8; (rw [cq]; decide)) ?_
                        refine lv_aload_n hx hb dL_law_438 rfl (lv_at hl 1 rfl) ?_
                        obtain ⟨r64, w65, hf, h⟩ := bd1P_el h
                        refine c_oni (c_runV (b := adr (gB G) 1 0) (As := []) (rest := []) hx hb hml hown hts hE hP hS (c_X12_whispers l G hF w r64 w65 hf) (c_rec hE hP (hp_sh hP hF 0 1 (by decide)) (by decide) rfl rfl) w3_191 miX12_whispers ⟨(Nat.le_of_ble_eq_true rfl), (Nat.le_of_ble_eq_true rfl)⟩ rfl hl.1 rfl (Nat.le_of_ble_eq_true rfl) dL_law_439 (⟨by show _ ≤ 601024; (try dsimp only); omega, by show _ ≤ 7293034; (try dsimp only); omega⟩ : _ ∧ _)) hS (fun H locs hP hS => ?_)
                        refine lv_aload_n hx hb dL_law_442 rfl (lv_at hl 2 rfl) ?_
                        obtain ⟨r66, w67, hf, h⟩ := bd1P_el h
                        refine c_oni (c_runV (b := adr (gB G) 32 0) (As := []) (rest := [.int r64]) hx hb hml hown hts hE hP hS (c_X15_whispers l G hF w65 r66 w67 hf) (c_rec hE hP (hp_sh hP hF 0 32 (by decide)) (by decide) rfl rfl) w8_24 miX15_whispers ⟨(Nat.le_of_ble_eq_true rfl), (Nat.le_of_ble_eq_true rfl)⟩ rfl hl.1 rfl (Nat.le_of_ble_eq_true rfl) dL_law_443 (⟨by show _ ≤ 601024; (try dsimp only); omega, by show _ ≤ 7293034; (try dsimp only); omega⟩ : _ ∧ _)) hS (fun H locs hP hS => ?_)
                        refine lv_icmp_eq (tgt := 1904) hx hb dL_law_446 (by decide) (fun cc => ?_) (fun cc => ?_)
                        · have h := brP_el h cc
                          obtain ⟨x68, e⟩ : ∃ z : Int32, z = u4 + 6 := ⟨_, rfl⟩
                          have h := sqP_at h e
                          refine lv_iinc (v := x68) (lv' := [(4, .int x68), (0, .ref a0), (1, .ref (adr (gB G) 1 0)), (2, .ref (adr (gB G) 32 0)), (3, .ref (adr (gB G) 63 0))]) hx hb dL_law_1904 hl (k := 4) rfl (by rw [e]; rfl) (by decide) rfl (fun ls hl => ?_)
                          refine lv_goto (tgt := 23) hx hb dL_law_1907 (by decide) ?_
                          exact ih _ _ ⟨by (try dsimp only); omega, by (try dsimp only); omega⟩ x68 w67  h _ _ _ hP hS (lv_sub hl [1, 2, 3, 4, 0] rfl) k0
                        · have h := brP_er h cc
                          refine lv_iconst (v := 0) hx hb dL_law_449 (by decide) ?_
                          exact h.elim
                      · have h := brP_er h c8
                        by_cases c9 : ((sc u4.toNatClampNeg) &&& 63) = 9
                        · have h := brP_el h c9
                          refine k_tab (tgt := 451) hx hb dL_law_40 (by decide) (by have cq := c9; (rw [cq]; decide)) ?_
                          refine lv_aload_n hx hb dL_law_451 rfl (lv_at hl 1 rfl) ?_
                          obtain ⟨r69, w70, hf, h⟩ := bd1P_el h
                          refine c_oni (c_runV (b := adr (gB G) 1 0) (As := []) (rest := []) hx hb hml hown hts hE hP hS (c_X12_cycles l G hF w r69 w70 hf) (c_rec hE hP (hp_sh hP hF 0 1 (by decide)) (by decide) rfl rfl) w3_195 miX12_cycles ⟨(Nat.le_of_ble_eq_true rfl), (Nat.le_of_ble_eq_true rfl)⟩ rfl hl.1 rfl (Nat.le_of_ble_eq_true rfl) dL_law_452 (⟨by show _ ≤ 601024; (try dsimp only); omega, by show _ ≤ 7293034; (try dsimp only); omega⟩ : _ ∧ _)) hS (fun H locs hP hS => ?_)
                          refine lv_aload_n hx hb dL_law_455 rfl (lv_at hl 2 rfl) ?_
                          obtain ⟨r71, w72, hf, h⟩ := bd1P_el h
                          refine c_oni (c_runV (b := adr (gB G) 32 0) (As := []) (rest := [.int r69]) hx hb hml hown hts hE hP hS (c_X15_cycles l G hF w70 r71 w72 hf) (c_rec hE hP (hp_sh hP hF 0 32 (by decide)) (by decide) rfl rfl) w8_28 miX15_cycles ⟨(Nat.le_of_ble_eq_true rfl), (Nat.le_of_ble_eq_true rfl)⟩ rfl hl.1 rfl (Nat.le_of_ble_eq_true rfl) dL_law_456 (⟨by show _ ≤ 601024; (try dsimp only); omega, by show _ ≤ 7293034; (try dsimp only); omega⟩ : _ ∧ _)) hS (fun H locs hP hS => ?_)
                          refine lv_icmp_eq (tgt := 1904) hx hb dL_law_459 (by decide) (fun cc => ?_) (fun cc => ?_)
                          · have h := brP_el h cc
                            obtain ⟨x73, e⟩ : ∃ z : Int32, z = u4 + 6 := ⟨_, rfl⟩
                            have h := sqP_at h e
                            refine lv_iinc (v := x73) (lv' := [(4, .int x73), (0, .ref a0), (1, .ref (adr (gB G) 1 0)), (2, .ref (adr (gB G) 32 0)), (3, .ref (adr (gB G) 63 0))]) hx hb dL_law_1904 hl (k := 4) rfl (by rw [e]; rfl) (by decide) rfl (fun ls hl => ?_)
                            refine lv_goto (tgt := 23) hx hb dL_law_1907 (by decide) ?_
                            exact ih _ _ ⟨by (try dsimp only); omega, by (try dsimp only); omega⟩ x73 w72  h _ _ _ hP hS (lv_sub hl [1, 2, 3, 4, 0] rfl) k0
                          · have h := brP_er h cc
                            refine lv_iconst (v := 0) hx hb dL_law_462 (by decide) ?_
                            exact h.elim
                        · have h := brP_er h c9
                          by_cases c10 : ((sc u4.toNatClampNeg) &&& 63) = 10
                          · have h := brP_el h c10
                            refine k_tab (tgt := 464) hx hb dL_law_40 (by decide) (by have cq := c10; (rw [cq]; decide)) ?_
                            refine lv_aload_n hx hb dL_law_464 rfl (lv_at hl 1 rfl) ?_
                            obtain ⟨r74, w75, hf, h⟩ := bd1P_el h
                            refine c_oni (c_runV (b := adr (gB G) 1 0) (As := []) (rest := []) hx hb hml hown hts hE hP hS (c_X12_departures l G hF w r74 w75 hf) (c_rec hE hP (hp_sh hP hF 0 1 (by decide)) (by decide) rfl rfl) w3_199 miX12_departures ⟨(Nat.le_of_ble_eq_true rfl), (Nat.le_of_ble_eq_true rfl)⟩ rfl hl.1 rfl (Nat.le_of_ble_eq_true rfl) dL_law_465 (⟨by show _ ≤ 601024; (try dsimp only); omega, by show _ ≤ 7293034; (try dsimp only); omega⟩ : _ ∧ _)) hS (fun H locs hP hS => ?_)
                            refine lv_aload_n hx hb dL_law_468 rfl (lv_at hl 2 rfl) ?_
                            obtain ⟨r76, w77, hf, h⟩ := bd1P_el h
                            refine c_oni (c_runV (b := adr (gB G) 32 0) (As := []) (rest := [.int r74]) hx hb hml hown hts hE hP hS (c_X15_departures l G hF w75 r76 w77 hf) (c_rec hE hP (hp_sh hP hF 0 32 (by decide)) (by decide) rfl rfl) w8_32 miX15_departures ⟨(Nat.le_of_ble_eq_true rfl), (Nat.le_of_ble_eq_true rfl)⟩ rfl hl.1 rfl (Nat.le_of_ble_eq_true rfl) dL_law_469 (⟨by show _ ≤ 601024; (try dsimp only); omega, by show _ ≤ 7293034; (try dsimp only); omega⟩ : _ ∧ _)) hS (fun H locs hP hS => ?_)
                            refine lv_icmp_eq (tgt := 1904) hx hb dL_law_472 (by decide) (fun cc => ?_) (fun cc => ?_)
                            · have h := brP_el h cc
                              obtain ⟨x78, e⟩ : ∃ z : Int32, z = u4 + 6 := ⟨_, rfl⟩
                              have h := sqP_at h e
                              refine lv_iinc (v := x78) (lv' := [(4, .int x78), (0, .ref a0), (1, .ref (adr (gB G) 1 0)), (2, .ref (adr (gB G) 32 0)), (3, .ref (adr (gB G) 63 0))]) hx hb dL_law_1904 hl (k := 4) rfl (by rw [e]; rfl) (by decide) rfl (fun ls hl => ?_)
                              refine lv_goto (tgt := 23) hx hb dL_law_1907 (by decide) ?_
                              exact ih _ _ ⟨by (try dsimp only); omega, by (try dsimp only); omega⟩ x78 w77  h _ _ _ hP hS (lv_sub hl [1, 2, 3, 4, 0] rfl) k0
                            · have h := brP_er h cc
                              refine lv_iconst (v := 0) hx hb dL_law_475 (by decide) ?_
                              exact h.elim
                          · have h := brP_er h c10
                            by_cases c11 : ((sc u4.toNatClampNeg) &&& 63) = 11
                            · have h := brP_el h c11
                              refine k_tab (tgt := 477) hx hb dL_law_40 (by decide) (by have cq := c11; (rw [cq]; decide)) ?_
                              refine lv_aload_n hx hb dL_law_477 rfl (lv_at hl 1 rfl) ?_
                              refine lv_aload_n hx hb dL_law_478 rfl (lv_at hl 0 rfl) ?_
                              refine lv_iload hx hb dL_law_479 (lv_at hl 4 rfl) ?_
                              refine lv_iconst (v := 1) hx hb dL_law_481 (by decide) ?_
                              refine lv_iadd hx hb dL_law_482 ?_
                              obtain ⟨g79, h⟩ := gdP_el h
                              refine va_sld hx hb hX hbl hbA hS (vB_in g79) dL_law_483 ?_
                              refine lv_aload_n hx hb dL_law_484 rfl (lv_at hl 3 rfl) ?_
                              obtain ⟨r80, w81, hf, h⟩ := bzP_el h
                              refine c_onz (c_runSW (As := [.ref (adr (gB G) 1 0), .int (sc (u4 + 1).toNatClampNeg), .ref (adr (gB G) 63 0)]) (rest := []) hx hb hml hown hts hE hP hS (c_L_hushOf l G hF hst (sc (u4 + 1).toNatClampNeg) w r80 w81 hf) w4_233 miL_hushOf ⟨(Nat.le_of_ble_eq_true rfl), (Nat.le_of_ble_eq_true rfl)⟩ rfl hl.1 rfl (Nat.le_of_ble_eq_true rfl) dL_law_485 (⟨by show _ ≤ 601024; (try dsimp only); omega, by show _ ≤ 7293034; (try dsimp only); omega⟩ : _ ∧ _)) hS (fun z9 hz9 H locs hP hS => ?_)
                              have h := h z9 hz9
                              obtain ⟨w82, e9⟩ : ∃ u : Mm, u = pZ w81 z9 := ⟨_, rfl⟩
                              rw [← e9] at h hP
                              skip
                              refine lv_istore (i := 5) (lv' := [(5, .int r80), (0, .ref a0), (1, .ref (adr (gB G) 1 0)), (2, .ref (adr (gB G) 32 0)), (3, .ref (adr (gB G) 63 0)), (4, .int u4)]) hx hb dL_law_488 hl (by decide) rfl (fun ls hl => ?_)
                              refine lv_aload_n hx hb dL_law_490 rfl (lv_at hl 3 rfl) ?_
                              refine lv_aload_n hx hb dL_law_491 rfl (lv_at hl 1 rfl) ?_
                              refine lv_iload hx hb dL_law_492 (lv_at hl 5 rfl) ?_
                              refine lv_iconst (v := 1) hx hb dL_law_494 (by decide) ?_
                              refine lv_iadd hx hb dL_law_495 ?_
                              obtain ⟨g83, h⟩ := gdP_el h
                              refine va_sld hx hb hX hbl hbA hS (vB_in g83) dL_law_496 ?_
                              obtain ⟨r84, w85, hf, h⟩ := bd1P_el h
                              refine c_oni (c_runV (b := adr (gB G) 32 0) (As := [.int (sc (u4 + 1).toNatClampNeg)]) (rest := []) hx hb hml hown hts hE hP hS (c_X15_hushOf l G hF (sc (u4 + 1).toNatClampNeg) w82 r84 w85 hf) (c_rec hE hP (hp_sh hP hF 0 32 (by decide)) (by decide) rfl rfl) w8_40 miX15_hushOf ⟨(Nat.le_of_ble_eq_true rfl), (Nat.le_of_ble_eq_true rfl)⟩ rfl hl.1 rfl (Nat.le_of_ble_eq_true rfl) dL_law_497 (⟨by show _ ≤ 601024; (try dsimp only); omega, by show _ ≤ 7293034; (try dsimp only); omega⟩ : _ ∧ _)) hS (fun H locs hP hS => ?_)
                              refine lv_istore (i := 6) (lv' := [(6, .int r84), (5, .int r80), (0, .ref a0), (1, .ref (adr (gB G) 1 0)), (2, .ref (adr (gB G) 32 0)), (3, .ref (adr (gB G) 63 0)), (4, .int u4)]) hx hb dL_law_500 hl (by decide) rfl (fun ls hl => ?_)
                              refine lv_aload_n hx hb dL_law_502 rfl (lv_at hl 4 rfl) ?_
                              obtain ⟨r86, w87, hf, h⟩ := bd1P_el h
                              refine c_oni (c_runV (b := adr (gB G) 32 0) (As := []) (rest := []) hx hb hml hown hts hE hP hS (c_X15_thrown l G hF w85 r86 w87 hf) (c_rec hE hP (hp_sh hP hF 0 32 (by decide)) (by decide) rfl rfl) w6_191 miX15_thrown ⟨(Nat.le_of_ble_eq_true rfl), (Nat.le_of_ble_eq_true rfl)⟩ rfl hl.1 rfl (Nat.le_of_ble_eq_true rfl) dL_law_503 (⟨by show _ ≤ 601024; (try dsimp only); omega, by show _ ≤ 7293034; (try dsimp only); omega⟩ : _ ∧ _)) hS (fun H locs hP hS => ?_)
                              refine lv_iload hx hb dL_law_506 (lv_at hl 1 rfl) ?_
                              refine lv_icmp_eq (tgt := 513) hx hb dL_law_508 (by decide) (fun cc => ?_) (fun cc => ?_)
                              · have h := brP_el h cc
                                refine lv_iload hx hb dL_law_513 (lv_at hl 1 rfl) ?_
                                refine lv_if_ne (tgt := 530) hx hb dL_law_515 (by decide) (fun cc => ?_) (fun cc => ?_)
                                · have h := brP_er h cc
                                  refine lv_goto (tgt := 1904) hx hb dL_law_530 (by decide) ?_
                                  obtain ⟨x88, e⟩ : ∃ z : Int32, z = u4 + 6 := ⟨_, rfl⟩
                                  have h := sqP_at h e
                                  refine lv_iinc (v := x88) (lv' := [(4, .int x88), (6, .int r84), (5, .int r80), (0, .ref a0), (1, .ref (adr (gB G) 1 0)), (2, .ref (adr (gB G) 32 0)), (3, .ref (adr (gB G) 63 0))]) hx hb dL_law_1904 hl (k := 6) rfl (by rw [e]; rfl) (by decide) rfl (fun ls hl => ?_)
                                  refine lv_goto (tgt := 23) hx hb dL_law_1907 (by decide) ?_
                                  exact ih _ _ ⟨by (try dsimp only); omega, by (try dsimp only); omega⟩ x88 w87  h _ _ _ hP hS (lv_sub hl [3, 4, 5, 6, 0] rfl) k0
                                · have h := brP_el h cc
                                  refine lv_aload_n hx hb dL_law_518 rfl (lv_at hl 5 rfl) ?_
                                  refine lv_iconst (v := 0) hx hb dL_law_519 (by decide) ?_
                                  obtain ⟨g89, h⟩ := gdP_el h
                                  refine k_lald hx hb hE hP (hp_sh hP hF 0 63 (by decide)) (by decide) rfl g89 dL_law_520 ?_
                                  refine lv_iload hx hb dL_law_521 (lv_at hl 0 rfl) ?_
                                  refine lv_i2l hx hb dL_law_523 rfl ?_
                                  refine W.lcmp hx hb dL_law_524 ?_
                                  refine lv_if_eq (tgt := 530) hx hb dL_law_525 (by decide) (fun cc => ?_) (fun cc => ?_)
                                  · have h := brP_el h cc
                                    refine lv_goto (tgt := 1904) hx hb dL_law_530 (by decide) ?_
                                    obtain ⟨x90, e⟩ : ∃ z : Int32, z = u4 + 6 := ⟨_, rfl⟩
                                    have h := sqP_at h e
                                    refine lv_iinc (v := x90) (lv' := [(4, .int x90), (6, .int r84), (5, .int r80), (0, .ref a0), (1, .ref (adr (gB G) 1 0)), (2, .ref (adr (gB G) 32 0)), (3, .ref (adr (gB G) 63 0))]) hx hb dL_law_1904 hl (k := 6) rfl (by rw [e]; rfl) (by decide) rfl (fun ls hl => ?_)
                                    refine lv_goto (tgt := 23) hx hb dL_law_1907 (by decide) ?_
                                    exact ih _ _ ⟨by (try dsimp only); omega, by (try dsimp only); omega⟩ x90 w87  h _ _ _ hP hS (lv_sub hl [3, 4, 5, 6, 0] rfl) k0
                                  · have h := brP_er h cc
                                    refine lv_iconst (v := 0) hx hb dL_law_528 (by decide) ?_
                                    exact h.elim
                              · have h := brP_er h cc
                                refine lv_iconst (v := 0) hx hb dL_law_511 (by decide) ?_
                                exact h.elim
                            · have h := brP_er h c11
                              by_cases c12 : ((sc u4.toNatClampNeg) &&& 63) = 12
                              · have h := brP_el h c12
                                refine k_tab (tgt := 533) hx hb dL_law_40 (by decide) (by have cq := c12; (rw [cq]; decide)) ?_
                                refine lv_aload_n hx hb dL_law_533 rfl (lv_at hl 1 rfl) ?_
                                refine lv_aload_n hx hb dL_law_534 rfl (lv_at hl 0 rfl) ?_
                                refine lv_iload hx hb dL_law_535 (lv_at hl 4 rfl) ?_
                                refine lv_iconst (v := 1) hx hb dL_law_537 (by decide) ?_
                                refine lv_iadd hx hb dL_law_538 ?_
                                obtain ⟨g91, h⟩ := gdP_el h
                                refine va_sld hx hb hX hbl hbA hS (vB_in g91) dL_law_539 ?_
                                refine lv_aload_n hx hb dL_law_540 rfl (lv_at hl 3 rfl) ?_
                                obtain ⟨r92, w93, hf, h⟩ := bzP_el h
                                refine c_onz (c_runSW (As := [.ref (adr (gB G) 1 0), .int (sc (u4 + 1).toNatClampNeg), .ref (adr (gB G) 63 0)]) (rest := []) hx hb hml hown hts hE hP hS (c_L_heardBy l G hF hst (sc (u4 + 1).toNatClampNeg) w r92 w93 hf) w5_1 miL_heardBy ⟨(Nat.le_of_ble_eq_true rfl), (Nat.le_of_ble_eq_true rfl)⟩ rfl hl.1 rfl (Nat.le_of_ble_eq_true rfl) dL_law_541 (⟨by show _ ≤ 601024; (try dsimp only); omega, by show _ ≤ 7293034; (try dsimp only); omega⟩ : _ ∧ _)) hS (fun z9 hz9 H locs hP hS => ?_)
                                have h := h z9 hz9
                                obtain ⟨w94, e9⟩ : ∃ u : Mm, u = pZ w93 z9 := ⟨_, rfl⟩
                                rw [← e9] at h hP
                                skip
                                refine lv_istore (i := 5) (lv' := [(5, .int r92), (0, .ref a0), (1, .ref (adr (gB G) 1 0)), (2, .ref (adr (gB G) 32 0)), (3, .ref (adr (gB G) 63 0)), (4, .int u4)]) hx hb dL_law_544 hl (by decide) rfl (fun ls hl => ?_)
                                refine lv_aload_n hx hb dL_law_546 rfl (lv_at hl 3 rfl) ?_
                                refine lv_aload_n hx hb dL_law_547 rfl (lv_at hl 1 rfl) ?_
                                refine lv_iload hx hb dL_law_548 (lv_at hl 5 rfl) ?_
                                refine lv_iconst (v := 1) hx hb dL_law_550 (by decide) ?_
                                refine lv_iadd hx hb dL_law_551 ?_
                                obtain ⟨g95, h⟩ := gdP_el h
                                refine va_sld hx hb hX hbl hbA hS (vB_in g95) dL_law_552 ?_
                                obtain ⟨r96, w97, hf, h⟩ := bd1P_el h
                                refine c_oni (c_runV (b := adr (gB G) 32 0) (As := [.int (sc (u4 + 1).toNatClampNeg)]) (rest := []) hx hb hml hown hts hE hP hS (c_X15_heardBy l G hF (sc (u4 + 1).toNatClampNeg) w94 r96 w97 hf) (c_rec hE hP (hp_sh hP hF 0 32 (by decide)) (by decide) rfl rfl) w8_52 miX15_heardBy ⟨(Nat.le_of_ble_eq_true rfl), (Nat.le_of_ble_eq_true rfl)⟩ rfl hl.1 rfl (Nat.le_of_ble_eq_true rfl) dL_law_553 (⟨by show _ ≤ 601024; (try dsimp only); omega, by show _ ≤ 7293034; (try dsimp only); omega⟩ : _ ∧ _)) hS (fun H locs hP hS => ?_)
                                refine lv_istore (i := 6) (lv' := [(6, .int r96), (5, .int r92), (0, .ref a0), (1, .ref (adr (gB G) 1 0)), (2, .ref (adr (gB G) 32 0)), (3, .ref (adr (gB G) 63 0)), (4, .int u4)]) hx hb dL_law_556 hl (by decide) rfl (fun ls hl => ?_)
                                refine lv_aload_n hx hb dL_law_558 rfl (lv_at hl 4 rfl) ?_
                                obtain ⟨r98, w99, hf, h⟩ := bd1P_el h
                                refine c_oni (c_runV (b := adr (gB G) 32 0) (As := []) (rest := []) hx hb hml hown hts hE hP hS (c_X15_thrown l G hF w97 r98 w99 hf) (c_rec hE hP (hp_sh hP hF 0 32 (by decide)) (by decide) rfl rfl) w6_191 miX15_thrown ⟨(Nat.le_of_ble_eq_true rfl), (Nat.le_of_ble_eq_true rfl)⟩ rfl hl.1 rfl (Nat.le_of_ble_eq_true rfl) dL_law_559 (⟨by show _ ≤ 601024; (try dsimp only); omega, by show _ ≤ 7293034; (try dsimp only); omega⟩ : _ ∧ _)) hS (fun H locs hP hS => ?_)
                                refine lv_iload hx hb dL_law_562 (lv_at hl 1 rfl) ?_
                                refine lv_icmp_eq (tgt := 569) hx hb dL_law_564 (by decide) (fun cc => ?_) (fun cc => ?_)
                                · have h := brP_el h cc
                                  refine lv_iload hx hb dL_law_569 (lv_at hl 1 rfl) ?_
                                  refine lv_if_ne (tgt := 586) hx hb dL_law_571 (by decide) (fun cc => ?_) (fun cc => ?_)
                                  · have h := brP_er h cc
                                    refine lv_goto (tgt := 1904) hx hb dL_law_586 (by decide) ?_
                                    obtain ⟨x100, e⟩ : ∃ z : Int32, z = u4 + 6 := ⟨_, rfl⟩
                                    have h := sqP_at h e
                                    refine lv_iinc (v := x100) (lv' := [(4, .int x100), (6, .int r96), (5, .int r92), (0, .ref a0), (1, .ref (adr (gB G) 1 0)), (2, .ref (adr (gB G) 32 0)), (3, .ref (adr (gB G) 63 0))]) hx hb dL_law_1904 hl (k := 6) rfl (by rw [e]; rfl) (by decide) rfl (fun ls hl => ?_)
                                    refine lv_goto (tgt := 23) hx hb dL_law_1907 (by decide) ?_
                                    exact ih _ _ ⟨by (try dsimp only); omega, by (try dsimp only); omega⟩ x100 w99  h _ _ _ hP hS (lv_sub hl [3, 4, 5, 6, 0] rfl) k0
                                  · have h := brP_el h cc
                                    refine lv_aload_n hx hb dL_law_574 rfl (lv_at hl 5 rfl) ?_
                                    refine lv_iconst (v := 0) hx hb dL_law_575 (by decide) ?_
                                    obtain ⟨g101, h⟩ := gdP_el h
                                    refine k_lald hx hb hE hP (hp_sh hP hF 0 63 (by decide)) (by decide) rfl g101 dL_law_576 ?_
                                    refine lv_iload hx hb dL_law_577 (lv_at hl 0 rfl) ?_
                                    refine lv_i2l hx hb dL_law_579 rfl ?_
                                    refine W.lcmp hx hb dL_law_580 ?_
                                    refine lv_if_eq (tgt := 586) hx hb dL_law_581 (by decide) (fun cc => ?_) (fun cc => ?_)
                                    · have h := brP_el h cc
                                      refine lv_goto (tgt := 1904) hx hb dL_law_586 (by decide) ?_
                                      obtain ⟨x102, e⟩ : ∃ z : Int32, z = u4 + 6 := ⟨_, rfl⟩
                                      have h := sqP_at h e
                                      refine lv_iinc (v := x102) (lv' := [(4, .int x102), (6, .int r96), (5, .int r92), (0, .ref a0), (1, .ref (adr (gB G) 1 0)), (2, .ref (adr (gB G) 32 0)), (3, .ref (adr (gB G) 63 0))]) hx hb dL_law_1904 hl (k := 6) rfl (by rw [e]; rfl) (by decide) rfl (fun ls hl => ?_)
                                      refine lv_goto (tgt := 23) hx hb dL_law_1907 (by decide) ?_
                                      exact ih _ _ ⟨by (try dsimp only); omega, by (try dsimp only); omega⟩ x102 w99  h _ _ _ hP hS (lv_sub hl [3, 4, 5, 6, 0] rfl) k0
                                    · have h := brP_er h cc
                                      refine lv_iconst (v := 0) hx hb dL_law_584 (by decide) ?_
                                      exact h.elim
                                · have h := brP_er h cc
                                  refine lv_iconst (v := 0) hx hb dL_law_567 (by decide) ?_
                                  exact h.elim
                              · have h := brP_er h c12
                                by_cases c13 : ((sc u4.toNatClampNeg) &&& 63) = 13
                                · have h := brP_el h c13
                                  refine k_tab (tgt := 589) hx hb dL_law_40 (by decide) (by have cq := c13; (rw [cq]; decide)) ?_
                                  refine lv_aload_n hx hb dL_law_589 rfl (lv_at hl 1 rfl) ?_
                                  refine lv_aload_n hx hb dL_law_590 rfl (lv_at hl 0 rfl) ?_
                                  refine lv_iload hx hb dL_law_591 (lv_at hl 4 rfl) ?_
                                  refine lv_iconst (v := 1) hx hb dL_law_593 (by decide) ?_
                                  refine lv_iadd hx hb dL_law_594 ?_
                                  obtain ⟨g103, h⟩ := gdP_el h
                                  refine va_sld hx hb hX hbl hbA hS (vB_in g103) dL_law_595 ?_
                                  refine lv_aload_n hx hb dL_law_596 rfl (lv_at hl 3 rfl) ?_
                                  obtain ⟨r104, w105, hf, h⟩ := bzP_el h
                                  refine c_onz (c_runSW (As := [.ref (adr (gB G) 1 0), .int (sc (u4 + 1).toNatClampNeg), .ref (adr (gB G) 63 0)]) (rest := []) hx hb hml hown hts hE hP hS (c_L_latestOf l G hF hst (sc (u4 + 1).toNatClampNeg) w r104 w105 hf) w5_5 miL_latestOf ⟨(Nat.le_of_ble_eq_true rfl), (Nat.le_of_ble_eq_true rfl)⟩ rfl hl.1 rfl (Nat.le_of_ble_eq_true rfl) dL_law_597 (⟨by show _ ≤ 601024; (try dsimp only); omega, by show _ ≤ 7293034; (try dsimp only); omega⟩ : _ ∧ _)) hS (fun z9 hz9 H locs hP hS => ?_)
                                  have h := h z9 hz9
                                  obtain ⟨w106, e9⟩ : ∃ u : Mm, u = pZ w105 z9 := ⟨_, rfl⟩
                                  rw [← e9] at h hP
                                  skip
                                  refine lv_istore (i := 5) (lv' := [(5, .int r104), (0, .ref a0), (1, .ref (adr (gB G) 1 0)), (2, .ref (adr (gB G) 32 0)), (3, .ref (adr (gB G) 63 0)), (4, .int u4)]) hx hb dL_law_600 hl (by decide) rfl (fun ls hl => ?_)
                                  refine lv_aload_n hx hb dL_law_602 rfl (lv_at hl 3 rfl) ?_
                                  refine lv_aload_n hx hb dL_law_603 rfl (lv_at hl 1 rfl) ?_
                                  refine lv_iload hx hb dL_law_604 (lv_at hl 5 rfl) ?_
                                  refine lv_iconst (v := 1) hx hb dL_law_606 (by decide) ?_
                                  refine lv_iadd hx hb dL_law_607 ?_
                                  obtain ⟨g107, h⟩ := gdP_el h
                                  refine va_sld hx hb hX hbl hbA hS (vB_in g107) dL_law_608 ?_
                                  obtain ⟨r108, w109, hf, h⟩ := bd1P_el h
                                  refine c_oni (c_runV (b := adr (gB G) 32 0) (As := [.int (sc (u4 + 1).toNatClampNeg)]) (rest := []) hx hb hml hown hts hE hP hS (c_X15_latestOf l G hF (sc (u4 + 1).toNatClampNeg) w106 r108 w109 hf) (c_rec hE hP (hp_sh hP hF 0 32 (by decide)) (by decide) rfl rfl) w8_56 miX15_latestOf ⟨(Nat.le_of_ble_eq_true rfl), (Nat.le_of_ble_eq_true rfl)⟩ rfl hl.1 rfl (Nat.le_of_ble_eq_true rfl) dL_law_609 (⟨by show _ ≤ 601024; (try dsimp only); omega, by show _ ≤ 7293034; (try dsimp only); omega⟩ : _ ∧ _)) hS (fun H locs hP hS => ?_)
                                  refine lv_istore (i := 6) (lv' := [(6, .int r108), (5, .int r104), (0, .ref a0), (1, .ref (adr (gB G) 1 0)), (2, .ref (adr (gB G) 32 0)), (3, .ref (adr (gB G) 63 0)), (4, .int u4)]) hx hb dL_law_612 hl (by decide) rfl (fun ls hl => ?_)
                                  refine lv_aload_n hx hb dL_law_614 rfl (lv_at hl 4 rfl) ?_
                                  obtain ⟨r110, w111, hf, h⟩ := bd1P_el h
                                  refine c_oni (c_runV (b := adr (gB G) 32 0) (As := []) (rest := []) hx hb hml hown hts hE hP hS (c_X15_thrown l G hF w109 r110 w111 hf) (c_rec hE hP (hp_sh hP hF 0 32 (by decide)) (by decide) rfl rfl) w6_191 miX15_thrown ⟨(Nat.le_of_ble_eq_true rfl), (Nat.le_of_ble_eq_true rfl)⟩ rfl hl.1 rfl (Nat.le_of_ble_eq_true rfl) dL_law_615 (⟨by show _ ≤ 601024; (try dsimp only); omega, by show _ ≤ 7293034; (try dsimp only); omega⟩ : _ ∧ _)) hS (fun H locs hP hS => ?_)
                                  refine lv_iload hx hb dL_law_618 (lv_at hl 1 rfl) ?_
                                  refine lv_icmp_eq (tgt := 625) hx hb dL_law_620 (by decide) (fun cc => ?_) (fun cc => ?_)
                                  · have h := brP_el h cc
                                    refine lv_iload hx hb dL_law_625 (lv_at hl 1 rfl) ?_
                                    refine lv_if_ne (tgt := 642) hx hb dL_law_627 (by decide) (fun cc => ?_) (fun cc => ?_)
                                    · have h := brP_er h cc
                                      refine lv_goto (tgt := 1904) hx hb dL_law_642 (by decide) ?_
                                      obtain ⟨x112, e⟩ : ∃ z : Int32, z = u4 + 6 := ⟨_, rfl⟩
                                      have h := sqP_at h e
                                      refine lv_iinc (v := x112) (lv' := [(4, .int x112), (6, .int r108), (5, .int r104), (0, .ref a0), (1, .ref (adr (gB G) 1 0)), (2, .ref (adr (gB G) 32 0)), (3, .ref (adr (gB G) 63 0))]) hx hb dL_law_1904 hl (k := 6) rfl (by rw [e]; rfl) (by decide) rfl (fun ls hl => ?_)
                                      refine lv_goto (tgt := 23) hx hb dL_law_1907 (by decide) ?_
                                      exact ih _ _ ⟨by (try dsimp only); omega, by (try dsimp only); omega⟩ x112 w111  h _ _ _ hP hS (lv_sub hl [3, 4, 5, 6, 0] rfl) k0
                                    · have h := brP_el h cc
                                      refine lv_aload_n hx hb dL_law_630 rfl (lv_at hl 5 rfl) ?_
                                      refine lv_iconst (v := 0) hx hb dL_law_631 (by decide) ?_
                                      obtain ⟨g113, h⟩ := gdP_el h
                                      refine k_lald hx hb hE hP (hp_sh hP hF 0 63 (by decide)) (by decide) rfl g113 dL_law_632 ?_
                                      refine lv_iload hx hb dL_law_633 (lv_at hl 0 rfl) ?_
                                      refine lv_i2l hx hb dL_law_635 rfl ?_
                                      refine W.lcmp hx hb dL_law_636 ?_
                                      refine lv_if_eq (tgt := 642) hx hb dL_law_637 (by decide) (fun cc => ?_) (fun cc => ?_)
                                      · have h := brP_el h cc
                                        refine lv_goto (tgt := 1904) hx hb dL_law_642 (by decide) ?_
                                        obtain ⟨x114, e⟩ : ∃ z : Int32, z = u4 + 6 := ⟨_, rfl⟩
                                        have h := sqP_at h e
                                        refine lv_iinc (v := x114) (lv' := [(4, .int x114), (6, .int r108), (5, .int r104), (0, .ref a0), (1, .ref (adr (gB G) 1 0)), (2, .ref (adr (gB G) 32 0)), (3, .ref (adr (gB G) 63 0))]) hx hb dL_law_1904 hl (k := 6) rfl (by rw [e]; rfl) (by decide) rfl (fun ls hl => ?_)
                                        refine lv_goto (tgt := 23) hx hb dL_law_1907 (by decide) ?_
                                        exact ih _ _ ⟨by (try dsimp only); omega, by (try dsimp only); omega⟩ x114 w111  h _ _ _ hP hS (lv_sub hl [3, 4, 5, 6, 0] rfl) k0
                                      · have h := brP_er h cc
                                        refine lv_iconst (v := 0) hx hb dL_law_640 (by decide) ?_
                                        exact h.elim
                                  · have h := brP_er h cc
                                    refine lv_iconst (v := 0) hx hb dL_law_623 (by decide) ?_
                                    exact h.elim
                                · have h := brP_er h c13
                                  by_cases c14 : ((sc u4.toNatClampNeg) &&& 63) = 14
                                  · have h := brP_el h c14
                                    refine k_tab (tgt := 645) hx hb dL_law_40 (by decide) (by have cq := c14; (rw [cq]; decide)) ?_
                                    refine lv_aload_n hx hb dL_law_645 rfl (lv_at hl 1 rfl) ?_
                                    refine lv_aload_n hx hb dL_law_646 rfl (lv_at hl 0 rfl) ?_
                                    refine lv_iload hx hb dL_law_647 (lv_at hl 4 rfl) ?_
                                    refine lv_iconst (v := 1) hx hb dL_law_649 (by decide) ?_
                                    refine lv_iadd hx hb dL_law_650 ?_
                                    obtain ⟨g115, h⟩ := gdP_el h
                                    refine va_sld hx hb hX hbl hbA hS (vB_in g115) dL_law_651 ?_
                                    refine lv_aload_n hx hb dL_law_652 rfl (lv_at hl 3 rfl) ?_
                                    obtain ⟨r116, w117, hf, h⟩ := bzP_el h
                                    refine c_onz (c_runSW (As := [.ref (adr (gB G) 1 0), .int (sc (u4 + 1).toNatClampNeg), .ref (adr (gB G) 63 0)]) (rest := []) hx hb hml hown hts hE hP hS (c_L_listenersOf l G hF hst (sc (u4 + 1).toNatClampNeg) w r116 w117 hf) w5_9 miL_listenersOf ⟨(Nat.le_of_ble_eq_true rfl), (Nat.le_of_ble_eq_true rfl)⟩ rfl hl.1 rfl (Nat.le_of_ble_eq_true rfl) dL_law_653 (⟨by show _ ≤ 601024; (try dsimp only); omega, by show _ ≤ 7293034; (try dsimp only); omega⟩ : _ ∧ _)) hS (fun z9 hz9 H locs hP hS => ?_)
                                    have h := h z9 hz9
                                    obtain ⟨w118, e9⟩ : ∃ u : Mm, u = pZ w117 z9 := ⟨_, rfl⟩
                                    rw [← e9] at h hP
                                    skip
                                    refine lv_istore (i := 5) (lv' := [(5, .int r116), (0, .ref a0), (1, .ref (adr (gB G) 1 0)), (2, .ref (adr (gB G) 32 0)), (3, .ref (adr (gB G) 63 0)), (4, .int u4)]) hx hb dL_law_656 hl (by decide) rfl (fun ls hl => ?_)
                                    refine lv_aload_n hx hb dL_law_658 rfl (lv_at hl 3 rfl) ?_
                                    refine lv_aload_n hx hb dL_law_659 rfl (lv_at hl 1 rfl) ?_
                                    refine lv_iload hx hb dL_law_660 (lv_at hl 5 rfl) ?_
                                    refine lv_iconst (v := 1) hx hb dL_law_662 (by decide) ?_
                                    refine lv_iadd hx hb dL_law_663 ?_
                                    obtain ⟨g119, h⟩ := gdP_el h
                                    refine va_sld hx hb hX hbl hbA hS (vB_in g119) dL_law_664 ?_
                                    obtain ⟨r120, w121, hf, h⟩ := bd1P_el h
                                    refine c_oni (c_runV (b := adr (gB G) 32 0) (As := [.int (sc (u4 + 1).toNatClampNeg)]) (rest := []) hx hb hml hown hts hE hP hS (c_X15_listenersOf l G hF (sc (u4 + 1).toNatClampNeg) w118 r120 w121 hf) (c_rec hE hP (hp_sh hP hF 0 32 (by decide)) (by decide) rfl rfl) w8_60 miX15_listenersOf ⟨(Nat.le_of_ble_eq_true rfl), (Nat.le_of_ble_eq_true rfl)⟩ rfl hl.1 rfl (Nat.le_of_ble_eq_true rfl) dL_law_665 (⟨by show _ ≤ 601024; (try dsimp only); omega, by show _ ≤ 7293034; (try dsimp only); omega⟩ : _ ∧ _)) hS (fun H locs hP hS => ?_)
                                    refine lv_istore (i := 6) (lv' := [(6, .int r120), (5, .int r116), (0, .ref a0), (1, .ref (adr (gB G) 1 0)), (2, .ref (adr (gB G) 32 0)), (3, .ref (adr (gB G) 63 0)), (4, .int u4)]) hx hb dL_law_668 hl (by decide) rfl (fun ls hl => ?_)
                                    refine lv_aload_n hx hb dL_law_670 rfl (lv_at hl 4 rfl) ?_
                                    obtain ⟨r122, w123, hf, h⟩ := bd1P_el h
                                    refine c_oni (c_runV (b := adr (gB G) 32 0) (As := []) (rest := []) hx hb hml hown hts hE hP hS (c_X15_thrown l G hF w121 r122 w123 hf) (c_rec hE hP (hp_sh hP hF 0 32 (by decide)) (by decide) rfl rfl) w6_191 miX15_thrown ⟨(Nat.le_of_ble_eq_true rfl), (Nat.le_of_ble_eq_true rfl)⟩ rfl hl.1 rfl (Nat.le_of_ble_eq_true rfl) dL_law_671 (⟨by show _ ≤ 601024; (try dsimp only); omega, by show _ ≤ 7293034; (try dsimp only); omega⟩ : _ ∧ _)) hS (fun H locs hP hS => ?_)
                                    refine lv_iload hx hb dL_law_674 (lv_at hl 1 rfl) ?_
                                    refine lv_icmp_eq (tgt := 681) hx hb dL_law_676 (by decide) (fun cc => ?_) (fun cc => ?_)
                                    · have h := brP_el h cc
                                      refine lv_iload hx hb dL_law_681 (lv_at hl 1 rfl) ?_
                                      refine lv_if_ne (tgt := 698) hx hb dL_law_683 (by decide) (fun cc => ?_) (fun cc => ?_)
                                      · have h := brP_er h cc
                                        refine lv_goto (tgt := 1904) hx hb dL_law_698 (by decide) ?_
                                        obtain ⟨x124, e⟩ : ∃ z : Int32, z = u4 + 6 := ⟨_, rfl⟩
                                        have h := sqP_at h e
                                        refine lv_iinc (v := x124) (lv' := [(4, .int x124), (6, .int r120), (5, .int r116), (0, .ref a0), (1, .ref (adr (gB G) 1 0)), (2, .ref (adr (gB G) 32 0)), (3, .ref (adr (gB G) 63 0))]) hx hb dL_law_1904 hl (k := 6) rfl (by rw [e]; rfl) (by decide) rfl (fun ls hl => ?_)
                                        refine lv_goto (tgt := 23) hx hb dL_law_1907 (by decide) ?_
                                        exact ih _ _ ⟨by (try dsimp only); omega, by (try dsimp only); omega⟩ x124 w123  h _ _ _ hP hS (lv_sub hl [3, 4, 5, 6, 0] rfl) k0
                                      · have h := brP_el h cc
                                        refine lv_aload_n hx hb dL_law_686 rfl (lv_at hl 5 rfl) ?_
                                        refine lv_iconst (v := 0) hx hb dL_law_687 (by decide) ?_
                                        obtain ⟨g125, h⟩ := gdP_el h
                                        refine k_lald hx hb hE hP (hp_sh hP hF 0 63 (by decide)) (by decide) rfl g125 dL_law_688 ?_
                                        refine lv_iload hx hb dL_law_689 (lv_at hl 0 rfl) ?_
                                        refine lv_i2l hx hb dL_law_691 rfl ?_
                                        refine W.lcmp hx hb dL_law_692 ?_
                                        refine lv_if_eq (tgt := 698) hx hb dL_law_693 (by decide) (fun cc => ?_) (fun cc => ?_)
                                        · have h := brP_el h cc
                                          refine lv_goto (tgt := 1904) hx hb dL_law_698 (by decide) ?_
                                          obtain ⟨x126, e⟩ : ∃ z : Int32, z = u4 + 6 := ⟨_, rfl⟩
                                          have h := sqP_at h e
                                          refine lv_iinc (v := x126) (lv' := [(4, .int x126), (6, .int r120), (5, .int r116), (0, .ref a0), (1, .ref (adr (gB G) 1 0)), (2, .ref (adr (gB G) 32 0)), (3, .ref (adr (gB G) 63 0))]) hx hb dL_law_1904 hl (k := 6) rfl (by rw [e]; rfl) (by decide) rfl (fun ls hl => ?_)
                                          refine lv_goto (tgt := 23) hx hb dL_law_1907 (by decide) ?_
                                          exact ih _ _ ⟨by (try dsimp only); omega, by (try dsimp only); omega⟩ x126 w123  h _ _ _ hP hS (lv_sub hl [3, 4, 5, 6, 0] rfl) k0
                                        · have h := brP_er h cc
                                          refine lv_iconst (v := 0) hx hb dL_law_696 (by decide) ?_
                                          exact h.elim
                                    · have h := brP_er h cc
                                      refine lv_iconst (v := 0) hx hb dL_law_679 (by decide) ?_
                                      exact h.elim
                                  · have h := brP_er h c14
                                    by_cases c15 : ((sc u4.toNatClampNeg) &&& 63) = 15
                                    · have h := brP_el h c15
                                      refine k_tab (tgt := 701) hx hb dL_law_40 (by decide) (by have cq := c15; (rw [cq]; decide)) ?_
                                      refine lv_aload_n hx hb dL_law_701 rfl (lv_at hl 1 rfl) ?_
                                      refine lv_aload_n hx hb dL_law_702 rfl (lv_at hl 0 rfl) ?_
                                      refine lv_iload hx hb dL_law_703 (lv_at hl 4 rfl) ?_
                                      refine lv_iconst (v := 1) hx hb dL_law_705 (by decide) ?_
                                      refine lv_iadd hx hb dL_law_706 ?_
                                      obtain ⟨g127, h⟩ := gdP_el h
                                      refine va_sld hx hb hX hbl hbA hS (vB_in g127) dL_law_707 ?_
                                      refine lv_aload_n hx hb dL_law_708 rfl (lv_at hl 0 rfl) ?_
                                      refine lv_iload hx hb dL_law_709 (lv_at hl 4 rfl) ?_
                                      refine lv_iconst (v := 2) hx hb dL_law_711 (by decide) ?_
                                      refine lv_iadd hx hb dL_law_712 ?_
                                      obtain ⟨g128, h⟩ := gdP_el h
                                      refine va_sld hx hb hX hbl hbA hS (vB_in g128) dL_law_713 ?_
                                      refine lv_aload_n hx hb dL_law_714 rfl (lv_at hl 3 rfl) ?_
                                      obtain ⟨r129, w130, hf, h⟩ := bzP_el h
                                      refine c_onz (c_runSW (As := [.ref (adr (gB G) 1 0), .int (sc (u4 + 1).toNatClampNeg), .int (sc (u4 + 2).toNatClampNeg), .ref (adr (gB G) 63 0)]) (rest := []) hx hb hml hown hts hE hP hS (c_L_hedgeInRow l G hF hst (sc (u4 + 1).toNatClampNeg) (sc (u4 + 2).toNatClampNeg) w r129 w130 hf) w5_13 miL_hedgeInRow ⟨(Nat.le_of_ble_eq_true rfl), (Nat.le_of_ble_eq_true rfl)⟩ rfl hl.1 rfl (Nat.le_of_ble_eq_true rfl) dL_law_715 (⟨by show _ ≤ 601024; (try dsimp only); omega, by show _ ≤ 7293034; (try dsimp only); omega⟩ : _ ∧ _)) hS (fun z9 hz9 H locs hP hS => ?_)
                                      have h := h z9 hz9
                                      obtain ⟨w131, e9⟩ : ∃ u : Mm, u = pZ w130 z9 := ⟨_, rfl⟩
                                      rw [← e9] at h hP
                                      skip
                                      refine lv_istore (i := 5) (lv' := [(5, .int r129), (0, .ref a0), (1, .ref (adr (gB G) 1 0)), (2, .ref (adr (gB G) 32 0)), (3, .ref (adr (gB G) 63 0)), (4, .int u4)]) hx hb dL_law_718 hl (by decide) rfl (fun ls hl => ?_)
                                      refine lv_aload_n hx hb dL_law_720 rfl (lv_at hl 3 rfl) ?_
                                      refine lv_aload_n hx hb dL_law_721 rfl (lv_at hl 1 rfl) ?_
                                      refine lv_iload hx hb dL_law_722 (lv_at hl 5 rfl) ?_
                                      refine lv_iconst (v := 1) hx hb dL_law_724 (by decide) ?_
                                      refine lv_iadd hx hb dL_law_725 ?_
                                      obtain ⟨g132, h⟩ := gdP_el h
                                      refine va_sld hx hb hX hbl hbA hS (vB_in g132) dL_law_726 ?_
                                      refine lv_aload_n hx hb dL_law_727 rfl (lv_at hl 1 rfl) ?_
                                      refine lv_iload hx hb dL_law_728 (lv_at hl 5 rfl) ?_
                                      refine lv_iconst (v := 2) hx hb dL_law_730 (by decide) ?_
                                      refine lv_iadd hx hb dL_law_731 ?_
                                      obtain ⟨g133, h⟩ := gdP_el h
                                      refine va_sld hx hb hX hbl hbA hS (vB_in g133) dL_law_732 ?_
                                      obtain ⟨r134, w135, hf, h⟩ := bd1P_el h
                                      refine c_oni (c_runV (b := adr (gB G) 32 0) (As := [.int (sc (u4 + 1).toNatClampNeg), .int (sc (u4 + 2).toNatClampNeg)]) (rest := []) hx hb hml hown hts hE hP hS (c_X15_hedgeInRow l G hF (sc (u4 + 1).toNatClampNeg) (sc (u4 + 2).toNatClampNeg) w131 r134 w135 hf) (c_rec hE hP (hp_sh hP hF 0 32 (by decide)) (by decide) rfl rfl) w8_64 miX15_hedgeInRow ⟨(Nat.le_of_ble_eq_true rfl), (Nat.le_of_ble_eq_true rfl)⟩ rfl hl.1 rfl (Nat.le_of_ble_eq_true rfl) dL_law_733 (⟨by show _ ≤ 601024; (try dsimp only); omega, by show _ ≤ 7293034; (try dsimp only); omega⟩ : _ ∧ _)) hS (fun H locs hP hS => ?_)
                                      refine lv_istore (i := 6) (lv' := [(6, .int r134), (5, .int r129), (0, .ref a0), (1, .ref (adr (gB G) 1 0)), (2, .ref (adr (gB G) 32 0)), (3, .ref (adr (gB G) 63 0)), (4, .int u4)]) hx hb dL_law_736 hl (by decide) rfl (fun ls hl => ?_)
                                      refine lv_aload_n hx hb dL_law_738 rfl (lv_at hl 4 rfl) ?_
                                      obtain ⟨r136, w137, hf, h⟩ := bd1P_el h
                                      refine c_oni (c_runV (b := adr (gB G) 32 0) (As := []) (rest := []) hx hb hml hown hts hE hP hS (c_X15_thrown l G hF w135 r136 w137 hf) (c_rec hE hP (hp_sh hP hF 0 32 (by decide)) (by decide) rfl rfl) w6_191 miX15_thrown ⟨(Nat.le_of_ble_eq_true rfl), (Nat.le_of_ble_eq_true rfl)⟩ rfl hl.1 rfl (Nat.le_of_ble_eq_true rfl) dL_law_739 (⟨by show _ ≤ 601024; (try dsimp only); omega, by show _ ≤ 7293034; (try dsimp only); omega⟩ : _ ∧ _)) hS (fun H locs hP hS => ?_)
                                      refine lv_iload hx hb dL_law_742 (lv_at hl 1 rfl) ?_
                                      refine lv_icmp_eq (tgt := 749) hx hb dL_law_744 (by decide) (fun cc => ?_) (fun cc => ?_)
                                      · have h := brP_el h cc
                                        refine lv_iload hx hb dL_law_749 (lv_at hl 1 rfl) ?_
                                        refine lv_if_ne (tgt := 766) hx hb dL_law_751 (by decide) (fun cc => ?_) (fun cc => ?_)
                                        · have h := brP_er h cc
                                          refine lv_goto (tgt := 1904) hx hb dL_law_766 (by decide) ?_
                                          obtain ⟨x138, e⟩ : ∃ z : Int32, z = u4 + 6 := ⟨_, rfl⟩
                                          have h := sqP_at h e
                                          refine lv_iinc (v := x138) (lv' := [(4, .int x138), (6, .int r134), (5, .int r129), (0, .ref a0), (1, .ref (adr (gB G) 1 0)), (2, .ref (adr (gB G) 32 0)), (3, .ref (adr (gB G) 63 0))]) hx hb dL_law_1904 hl (k := 6) rfl (by rw [e]; rfl) (by decide) rfl (fun ls hl => ?_)
                                          refine lv_goto (tgt := 23) hx hb dL_law_1907 (by decide) ?_
                                          exact ih _ _ ⟨by (try dsimp only); omega, by (try dsimp only); omega⟩ x138 w137  h _ _ _ hP hS (lv_sub hl [3, 4, 5, 6, 0] rfl) k0
                                        · have h := brP_el h cc
                                          refine lv_aload_n hx hb dL_law_754 rfl (lv_at hl 5 rfl) ?_
                                          refine lv_iconst (v := 0) hx hb dL_law_755 (by decide) ?_
                                          obtain ⟨g139, h⟩ := gdP_el h
                                          refine k_lald hx hb hE hP (hp_sh hP hF 0 63 (by decide)) (by decide) rfl g139 dL_law_756 ?_
                                          refine lv_iload hx hb dL_law_757 (lv_at hl 0 rfl) ?_
                                          refine lv_i2l hx hb dL_law_759 rfl ?_
                                          refine W.lcmp hx hb dL_law_760 ?_
                                          refine lv_if_eq (tgt := 766) hx hb dL_law_761 (by decide) (fun cc => ?_) (fun cc => ?_)
                                          · have h := brP_el h cc
                                            refine lv_goto (tgt := 1904) hx hb dL_law_766 (by decide) ?_
                                            obtain ⟨x140, e⟩ : ∃ z : Int32, z = u4 + 6 := ⟨_, rfl⟩
                                            have h := sqP_at h e
                                            refine lv_iinc (v := x140) (lv' := [(4, .int x140), (6, .int r134), (5, .int r129), (0, .ref a0), (1, .ref (adr (gB G) 1 0)), (2, .ref (adr (gB G) 32 0)), (3, .ref (adr (gB G) 63 0))]) hx hb dL_law_1904 hl (k := 6) rfl (by rw [e]; rfl) (by decide) rfl (fun ls hl => ?_)
                                            refine lv_goto (tgt := 23) hx hb dL_law_1907 (by decide) ?_
                                            exact ih _ _ ⟨by (try dsimp only); omega, by (try dsimp only); omega⟩ x140 w137  h _ _ _ hP hS (lv_sub hl [3, 4, 5, 6, 0] rfl) k0
                                          · have h := brP_er h cc
                                            refine lv_iconst (v := 0) hx hb dL_law_764 (by decide) ?_
                                            exact h.elim
                                      · have h := brP_er h cc
                                        refine lv_iconst (v := 0) hx hb dL_law_747 (by decide) ?_
                                        exact h.elim
                                    · have h := brP_er h c15
                                      by_cases c16 : ((sc u4.toNatClampNeg) &&& 63) = 16
                                      · have h := brP_el h c16
                                        refine k_tab (tgt := 769) hx hb dL_law_40 (by decide) (by have cq := c16; (rw [cq]; decide)) ?_
                                        refine lv_aload_n hx hb dL_law_769 rfl (lv_at hl 1 rfl) ?_
                                        refine lv_aload_n hx hb dL_law_770 rfl (lv_at hl 0 rfl) ?_
                                        refine lv_iload hx hb dL_law_771 (lv_at hl 4 rfl) ?_
                                        refine lv_iconst (v := 1) hx hb dL_law_773 (by decide) ?_
                                        refine lv_iadd hx hb dL_law_774 ?_
                                        obtain ⟨g141, h⟩ := gdP_el h
                                        refine va_sld hx hb hX hbl hbA hS (vB_in g141) dL_law_775 ?_
                                        refine lv_aload_n hx hb dL_law_776 rfl (lv_at hl 0 rfl) ?_
                                        refine lv_iload hx hb dL_law_777 (lv_at hl 4 rfl) ?_
                                        refine lv_iconst (v := 2) hx hb dL_law_779 (by decide) ?_
                                        refine lv_iadd hx hb dL_law_780 ?_
                                        obtain ⟨g142, h⟩ := gdP_el h
                                        refine va_sld hx hb hX hbl hbA hS (vB_in g142) dL_law_781 ?_
                                        refine lv_aload_n hx hb dL_law_782 rfl (lv_at hl 3 rfl) ?_
                                        obtain ⟨r143, w144, hf, h⟩ := bzP_el h
                                        refine c_onz (c_runSW (As := [.ref (adr (gB G) 1 0), .int (sc (u4 + 1).toNatClampNeg), .int (sc (u4 + 2).toNatClampNeg), .ref (adr (gB G) 63 0)]) (rest := []) hx hb hml hown hts hE hP hS (c_L_roseInRow l G hF hst (sc (u4 + 1).toNatClampNeg) (sc (u4 + 2).toNatClampNeg) w r143 w144 hf) w5_17 miL_roseInRow ⟨(Nat.le_of_ble_eq_true rfl), (Nat.le_of_ble_eq_true rfl)⟩ rfl hl.1 rfl (Nat.le_of_ble_eq_true rfl) dL_law_783 (⟨by show _ ≤ 601024; (try dsimp only); omega, by show _ ≤ 7293034; (try dsimp only); omega⟩ : _ ∧ _)) hS (fun z9 hz9 H locs hP hS => ?_)
                                        have h := h z9 hz9
                                        obtain ⟨w145, e9⟩ : ∃ u : Mm, u = pZ w144 z9 := ⟨_, rfl⟩
                                        rw [← e9] at h hP
                                        skip
                                        refine lv_istore (i := 5) (lv' := [(5, .int r143), (0, .ref a0), (1, .ref (adr (gB G) 1 0)), (2, .ref (adr (gB G) 32 0)), (3, .ref (adr (gB G) 63 0)), (4, .int u4)]) hx hb dL_law_786 hl (by decide) rfl (fun ls hl => ?_)
                                        refine lv_aload_n hx hb dL_law_788 rfl (lv_at hl 3 rfl) ?_
                                        refine lv_aload_n hx hb dL_law_789 rfl (lv_at hl 1 rfl) ?_
                                        refine lv_iload hx hb dL_law_790 (lv_at hl 5 rfl) ?_
                                        refine lv_iconst (v := 1) hx hb dL_law_792 (by decide) ?_
                                        refine lv_iadd hx hb dL_law_793 ?_
                                        obtain ⟨g146, h⟩ := gdP_el h
                                        refine va_sld hx hb hX hbl hbA hS (vB_in g146) dL_law_794 ?_
                                        refine lv_aload_n hx hb dL_law_795 rfl (lv_at hl 1 rfl) ?_
                                        refine lv_iload hx hb dL_law_796 (lv_at hl 5 rfl) ?_
                                        refine lv_iconst (v := 2) hx hb dL_law_798 (by decide) ?_
                                        refine lv_iadd hx hb dL_law_799 ?_
                                        obtain ⟨g147, h⟩ := gdP_el h
                                        refine va_sld hx hb hX hbl hbA hS (vB_in g147) dL_law_800 ?_
                                        obtain ⟨r148, w149, hf, h⟩ := bd1P_el h
                                        refine c_oni (c_runV (b := adr (gB G) 32 0) (As := [.int (sc (u4 + 1).toNatClampNeg), .int (sc (u4 + 2).toNatClampNeg)]) (rest := []) hx hb hml hown hts hE hP hS (c_X15_roseInRow l G hF (sc (u4 + 1).toNatClampNeg) (sc (u4 + 2).toNatClampNeg) w145 r148 w149 hf) (c_rec hE hP (hp_sh hP hF 0 32 (by decide)) (by decide) rfl rfl) w8_76 miX15_roseInRow ⟨(Nat.le_of_ble_eq_true rfl), (Nat.le_of_ble_eq_true rfl)⟩ rfl hl.1 rfl (Nat.le_of_ble_eq_true rfl) dL_law_801 (⟨by show _ ≤ 601024; (try dsimp only); omega, by show _ ≤ 7293034; (try dsimp only); omega⟩ : _ ∧ _)) hS (fun H locs hP hS => ?_)
                                        refine lv_istore (i := 6) (lv' := [(6, .int r148), (5, .int r143), (0, .ref a0), (1, .ref (adr (gB G) 1 0)), (2, .ref (adr (gB G) 32 0)), (3, .ref (adr (gB G) 63 0)), (4, .int u4)]) hx hb dL_law_804 hl (by decide) rfl (fun ls hl => ?_)
                                        refine lv_aload_n hx hb dL_law_806 rfl (lv_at hl 4 rfl) ?_
                                        obtain ⟨r150, w151, hf, h⟩ := bd1P_el h
                                        refine c_oni (c_runV (b := adr (gB G) 32 0) (As := []) (rest := []) hx hb hml hown hts hE hP hS (c_X15_thrown l G hF w149 r150 w151 hf) (c_rec hE hP (hp_sh hP hF 0 32 (by decide)) (by decide) rfl rfl) w6_191 miX15_thrown ⟨(Nat.le_of_ble_eq_true rfl), (Nat.le_of_ble_eq_true rfl)⟩ rfl hl.1 rfl (Nat.le_of_ble_eq_true rfl) dL_law_807 (⟨by show _ ≤ 601024; (try dsimp only); omega, by show _ ≤ 7293034; (try dsimp only); omega⟩ : _ ∧ _)) hS (fun H locs hP hS => ?_)
                                        refine lv_iload hx hb dL_law_810 (lv_at hl 1 rfl) ?_
                                        refine lv_icmp_eq (tgt := 817) hx hb dL_law_812 (by decide) (fun cc => ?_) (fun cc => ?_)
                                        · have h := brP_el h cc
                                          refine lv_iload hx hb dL_law_817 (lv_at hl 1 rfl) ?_
                                          refine lv_if_ne (tgt := 834) hx hb dL_law_819 (by decide) (fun cc => ?_) (fun cc => ?_)
                                          · have h := brP_er h cc
                                            refine lv_goto (tgt := 1904) hx hb dL_law_834 (by decide) ?_
                                            obtain ⟨x152, e⟩ : ∃ z : Int32, z = u4 + 6 := ⟨_, rfl⟩
                                            have h := sqP_at h e
                                            refine lv_iinc (v := x152) (lv' := [(4, .int x152), (6, .int r148), (5, .int r143), (0, .ref a0), (1, .ref (adr (gB G) 1 0)), (2, .ref (adr (gB G) 32 0)), (3, .ref (adr (gB G) 63 0))]) hx hb dL_law_1904 hl (k := 6) rfl (by rw [e]; rfl) (by decide) rfl (fun ls hl => ?_)
                                            refine lv_goto (tgt := 23) hx hb dL_law_1907 (by decide) ?_
                                            exact ih _ _ ⟨by (try dsimp only); omega, by (try dsimp only); omega⟩ x152 w151  h _ _ _ hP hS (lv_sub hl [3, 4, 5, 6, 0] rfl) k0
                                          · have h := brP_el h cc
                                            refine lv_aload_n hx hb dL_law_822 rfl (lv_at hl 5 rfl) ?_
                                            refine lv_iconst (v := 0) hx hb dL_law_823 (by decide) ?_
                                            obtain ⟨g153, h⟩ := gdP_el h
                                            refine k_lald hx hb hE hP (hp_sh hP hF 0 63 (by decide)) (by decide) rfl g153 dL_law_824 ?_
                                            refine lv_iload hx hb dL_law_825 (lv_at hl 0 rfl) ?_
                                            refine lv_i2l hx hb dL_law_827 rfl ?_
                                            refine W.lcmp hx hb dL_law_828 ?_
                                            refine lv_if_eq (tgt := 834) hx hb dL_law_829 (by decide) (fun cc => ?_) (fun cc => ?_)
                                            · have h := brP_el h cc
                                              refine lv_goto (tgt := 1904) hx hb dL_law_834 (by decide) ?_
                                              obtain ⟨x154, e⟩ : ∃ z : Int32, z = u4 + 6 := ⟨_, rfl⟩
                                              have h := sqP_at h e
                                              refine lv_iinc (v := x154) (lv' := [(4, .int x154), (6, .int r148), (5, .int r143), (0, .ref a0), (1, .ref (adr (gB G) 1 0)), (2, .ref (adr (gB G) 32 0)), (3, .ref (adr (gB G) 63 0))]) hx hb dL_law_1904 hl (k := 6) rfl (by rw [e]; rfl) (by decide) rfl (fun ls hl => ?_)
                                              refine lv_goto (tgt := 23) hx hb dL_law_1907 (by decide) ?_
                                              exact ih _ _ ⟨by (try dsimp only); omega, by (try dsimp only); omega⟩ x154 w151  h _ _ _ hP hS (lv_sub hl [3, 4, 5, 6, 0] rfl) k0
                                            · have h := brP_er h cc
                                              refine lv_iconst (v := 0) hx hb dL_law_832 (by decide) ?_
                                              exact h.elim
                                        · have h := brP_er h cc
                                          refine lv_iconst (v := 0) hx hb dL_law_815 (by decide) ?_
                                          exact h.elim
                                      · have h := brP_er h c16
                                        by_cases c17 : ((sc u4.toNatClampNeg) &&& 63) = 17
                                        · have h := brP_el h c17
                                          refine k_tab (tgt := 837) hx hb dL_law_40 (by decide) (by have cq := c17; (rw [cq]; decide)) ?_
                                          refine lv_aload_n hx hb dL_law_837 rfl (lv_at hl 1 rfl) ?_
                                          refine lv_aload_n hx hb dL_law_838 rfl (lv_at hl 0 rfl) ?_
                                          refine lv_iload hx hb dL_law_839 (lv_at hl 4 rfl) ?_
                                          refine lv_iconst (v := 1) hx hb dL_law_841 (by decide) ?_
                                          refine lv_iadd hx hb dL_law_842 ?_
                                          obtain ⟨g155, h⟩ := gdP_el h
                                          refine va_sld hx hb hX hbl hbA hS (vB_in g155) dL_law_843 ?_
                                          refine lv_aload_n hx hb dL_law_844 rfl (lv_at hl 3 rfl) ?_
                                          obtain ⟨r156, w157, hf, h⟩ := bzP_el h
                                          refine c_onz (c_runSW (As := [.ref (adr (gB G) 1 0), .int (sc (u4 + 1).toNatClampNeg), .ref (adr (gB G) 63 0)]) (rest := []) hx hb hml hown hts hE hP hS (c_L_patienceOf l G hF hst (sc (u4 + 1).toNatClampNeg) w r156 w157 hf) w5_21 miL_patienceOf ⟨(Nat.le_of_ble_eq_true rfl), (Nat.le_of_ble_eq_true rfl)⟩ rfl hl.1 rfl (Nat.le_of_ble_eq_true rfl) dL_law_845 (⟨by show _ ≤ 601024; (try dsimp only); omega, by show _ ≤ 7293034; (try dsimp only); omega⟩ : _ ∧ _)) hS (fun z9 hz9 H locs hP hS => ?_)
                                          have h := h z9 hz9
                                          obtain ⟨w158, e9⟩ : ∃ u : Mm, u = pZ w157 z9 := ⟨_, rfl⟩
                                          rw [← e9] at h hP
                                          skip
                                          refine lv_istore (i := 5) (lv' := [(5, .int r156), (0, .ref a0), (1, .ref (adr (gB G) 1 0)), (2, .ref (adr (gB G) 32 0)), (3, .ref (adr (gB G) 63 0)), (4, .int u4)]) hx hb dL_law_848 hl (by decide) rfl (fun ls hl => ?_)
                                          refine lv_aload_n hx hb dL_law_850 rfl (lv_at hl 3 rfl) ?_
                                          refine lv_aload_n hx hb dL_law_851 rfl (lv_at hl 1 rfl) ?_
                                          refine lv_iload hx hb dL_law_852 (lv_at hl 5 rfl) ?_
                                          refine lv_iconst (v := 1) hx hb dL_law_854 (by decide) ?_
                                          refine lv_iadd hx hb dL_law_855 ?_
                                          obtain ⟨g159, h⟩ := gdP_el h
                                          refine va_sld hx hb hX hbl hbA hS (vB_in g159) dL_law_856 ?_
                                          obtain ⟨r160, w161, hf, h⟩ := bd1P_el h
                                          refine c_oni (c_runV (b := adr (gB G) 32 0) (As := [.int (sc (u4 + 1).toNatClampNeg)]) (rest := []) hx hb hml hown hts hE hP hS (c_X15_patienceOf l G hF (sc (u4 + 1).toNatClampNeg) w158 r160 w161 hf) (c_rec hE hP (hp_sh hP hF 0 32 (by decide)) (by decide) rfl rfl) w8_84 miX15_patienceOf ⟨(Nat.le_of_ble_eq_true rfl), (Nat.le_of_ble_eq_true rfl)⟩ rfl hl.1 rfl (Nat.le_of_ble_eq_true rfl) dL_law_857 (⟨by show _ ≤ 601024; (try dsimp only); omega, by show _ ≤ 7293034; (try dsimp only); omega⟩ : _ ∧ _)) hS (fun H locs hP hS => ?_)
                                          refine lv_istore (i := 6) (lv' := [(6, .int r160), (5, .int r156), (0, .ref a0), (1, .ref (adr (gB G) 1 0)), (2, .ref (adr (gB G) 32 0)), (3, .ref (adr (gB G) 63 0)), (4, .int u4)]) hx hb dL_law_860 hl (by decide) rfl (fun ls hl => ?_)
                                          refine lv_aload_n hx hb dL_law_862 rfl (lv_at hl 4 rfl) ?_
                                          obtain ⟨r162, w163, hf, h⟩ := bd1P_el h
                                          refine c_oni (c_runV (b := adr (gB G) 32 0) (As := []) (rest := []) hx hb hml hown hts hE hP hS (c_X15_thrown l G hF w161 r162 w163 hf) (c_rec hE hP (hp_sh hP hF 0 32 (by decide)) (by decide) rfl rfl) w6_191 miX15_thrown ⟨(Nat.le_of_ble_eq_true rfl), (Nat.le_of_ble_eq_true rfl)⟩ rfl hl.1 rfl (Nat.le_of_ble_eq_true rfl) dL_law_863 (⟨by show _ ≤ 601024; (try dsimp only); omega, by show _ ≤ 7293034; (try dsimp only); omega⟩ : _ ∧ _)) hS (fun H locs hP hS => ?_)
                                          refine lv_iload hx hb dL_law_866 (lv_at hl 1 rfl) ?_
                                          refine lv_icmp_eq (tgt := 873) hx hb dL_law_868 (by decide) (fun cc => ?_) (fun cc => ?_)
                                          · have h := brP_el h cc
                                            refine lv_iload hx hb dL_law_873 (lv_at hl 1 rfl) ?_
                                            refine lv_if_ne (tgt := 890) hx hb dL_law_875 (by decide) (fun cc => ?_) (fun cc => ?_)
                                            · have h := brP_er h cc
                                              refine lv_goto (tgt := 1904) hx hb dL_law_890 (by decide) ?_
                                              obtain ⟨x164, e⟩ : ∃ z : Int32, z = u4 + 6 := ⟨_, rfl⟩
                                              have h := sqP_at h e
                                              refine lv_iinc (v := x164) (lv' := [(4, .int x164), (6, .int r160), (5, .int r156), (0, .ref a0), (1, .ref (adr (gB G) 1 0)), (2, .ref (adr (gB G) 32 0)), (3, .ref (adr (gB G) 63 0))]) hx hb dL_law_1904 hl (k := 6) rfl (by rw [e]; rfl) (by decide) rfl (fun ls hl => ?_)
                                              refine lv_goto (tgt := 23) hx hb dL_law_1907 (by decide) ?_
                                              exact ih _ _ ⟨by (try dsimp only); omega, by (try dsimp only); omega⟩ x164 w163  h _ _ _ hP hS (lv_sub hl [3, 4, 5, 6, 0] rfl) k0
                                            · have h := brP_el h cc
                                              refine lv_aload_n hx hb dL_law_878 rfl (lv_at hl 5 rfl) ?_
                                              refine lv_iconst (v := 0) hx hb dL_law_879 (by decide) ?_
                                              obtain ⟨g165, h⟩ := gdP_el h
                                              refine k_lald hx hb hE hP (hp_sh hP hF 0 63 (by decide)) (by decide) rfl g165 dL_law_880 ?_
                                              refine lv_iload hx hb dL_law_881 (lv_at hl 0 rfl) ?_
                                              refine lv_i2l hx hb dL_law_883 rfl ?_
                                              refine W.lcmp hx hb dL_law_884 ?_
                                              refine lv_if_eq (tgt := 890) hx hb dL_law_885 (by decide) (fun cc => ?_) (fun cc => ?_)
                                              · have h := brP_el h cc
                                                refine lv_goto (tgt := 1904) hx hb dL_law_890 (by decide) ?_
                                                obtain ⟨x166, e⟩ : ∃ z : Int32, z = u4 + 6 := ⟨_, rfl⟩
                                                have h := sqP_at h e
                                                refine lv_iinc (v := x166) (lv' := [(4, .int x166), (6, .int r160), (5, .int r156), (0, .ref a0), (1, .ref (adr (gB G) 1 0)), (2, .ref (adr (gB G) 32 0)), (3, .ref (adr (gB G) 63 0))]) hx hb dL_law_1904 hl (k := 6) rfl (by rw [e]; rfl) (by decide) rfl (fun ls hl => ?_)
                                                refine lv_goto (tgt := 23) hx hb dL_law_1907 (by decide) ?_
                                                exact ih _ _ ⟨by (try dsimp only); omega, by (try dsimp only); omega⟩ x166 w163  h _ _ _ hP hS (lv_sub hl [3, 4, 5, 6, 0] rfl) k0
                                              · have h := brP_er h cc
                                                refine lv_iconst (v := 0) hx hb dL_law_888 (by decide) ?_
                                                exact h.elim
                                          · have h := brP_er h cc
                                            refine lv_iconst (v := 0) hx hb dL_law_871 (by decide) ?_
                                            exact h.elim
                                        · have h := brP_er h c17
                                          by_cases c18 : ((sc u4.toNatClampNeg) &&& 63) = 18
                                          · have h := brP_el h c18
                                            refine k_tab (tgt := 893) hx hb dL_law_40 (by decide) (by have cq := c18; (rw [cq]; decide)) ?_
                                            refine lv_aload_n hx hb dL_law_893 rfl (lv_at hl 1 rfl) ?_
                                            refine lv_aload_n hx hb dL_law_894 rfl (lv_at hl 0 rfl) ?_
                                            refine lv_iload hx hb dL_law_895 (lv_at hl 4 rfl) ?_
                                            refine lv_iconst (v := 1) hx hb dL_law_897 (by decide) ?_
                                            refine lv_iadd hx hb dL_law_898 ?_
                                            obtain ⟨g167, h⟩ := gdP_el h
                                            refine va_sld hx hb hX hbl hbA hS (vB_in g167) dL_law_899 ?_
                                            refine lv_aload_n hx hb dL_law_900 rfl (lv_at hl 3 rfl) ?_
                                            obtain ⟨r168, w169, hf, h⟩ := bzP_el h
                                            refine c_onz (c_runSW (As := [.ref (adr (gB G) 1 0), .int (sc (u4 + 1).toNatClampNeg), .ref (adr (gB G) 63 0)]) (rest := []) hx hb hml hown hts hE hP hS (c_L_petalsOf l G hF hst (sc (u4 + 1).toNatClampNeg) w r168 w169 hf) w5_28 miL_petalsOf ⟨(Nat.le_of_ble_eq_true rfl), (Nat.le_of_ble_eq_true rfl)⟩ rfl hl.1 rfl (Nat.le_of_ble_eq_true rfl) dL_law_901 (⟨by show _ ≤ 601024; (try dsimp only); omega, by show _ ≤ 7293034; (try dsimp only); omega⟩ : _ ∧ _)) hS (fun z9 hz9 H locs hP hS => ?_)
                                            have h := h z9 hz9
                                            obtain ⟨w170, e9⟩ : ∃ u : Mm, u = pZ w169 z9 := ⟨_, rfl⟩
                                            rw [← e9] at h hP
                                            skip
                                            refine lv_istore (i := 5) (lv' := [(5, .int r168), (0, .ref a0), (1, .ref (adr (gB G) 1 0)), (2, .ref (adr (gB G) 32 0)), (3, .ref (adr (gB G) 63 0)), (4, .int u4)]) hx hb dL_law_904 hl (by decide) rfl (fun ls hl => ?_)
                                            refine lv_aload_n hx hb dL_law_906 rfl (lv_at hl 3 rfl) ?_
                                            refine lv_aload_n hx hb dL_law_907 rfl (lv_at hl 1 rfl) ?_
                                            refine lv_iload hx hb dL_law_908 (lv_at hl 5 rfl) ?_
                                            refine lv_iconst (v := 1) hx hb dL_law_910 (by decide) ?_
                                            refine lv_iadd hx hb dL_law_911 ?_
                                            obtain ⟨g171, h⟩ := gdP_el h
                                            refine va_sld hx hb hX hbl hbA hS (vB_in g171) dL_law_912 ?_
                                            obtain ⟨r172, w173, hf, h⟩ := bd1P_el h
                                            refine c_oni (c_runV (b := adr (gB G) 32 0) (As := [.int (sc (u4 + 1).toNatClampNeg)]) (rest := []) hx hb hml hown hts hE hP hS (c_X15_petalsOf l G hF (sc (u4 + 1).toNatClampNeg) w170 r172 w173 hf) (c_rec hE hP (hp_sh hP hF 0 32 (by decide)) (by decide) rfl rfl) w8_88 miX15_petalsOf ⟨(Nat.le_of_ble_eq_true rfl), (Nat.le_of_ble_eq_true rfl)⟩ rfl hl.1 rfl (Nat.le_of_ble_eq_true rfl) dL_law_913 (⟨by show _ ≤ 601024; (try dsimp only); omega, by show _ ≤ 7293034; (try dsimp only); omega⟩ : _ ∧ _)) hS (fun H locs hP hS => ?_)
                                            refine lv_istore (i := 6) (lv' := [(6, .int r172), (5, .int r168), (0, .ref a0), (1, .ref (adr (gB G) 1 0)), (2, .ref (adr (gB G) 32 0)), (3, .ref (adr (gB G) 63 0)), (4, .int u4)]) hx hb dL_law_916 hl (by decide) rfl (fun ls hl => ?_)
                                            refine lv_aload_n hx hb dL_law_918 rfl (lv_at hl 4 rfl) ?_
                                            obtain ⟨r174, w175, hf, h⟩ := bd1P_el h
                                            refine c_oni (c_runV (b := adr (gB G) 32 0) (As := []) (rest := []) hx hb hml hown hts hE hP hS (c_X15_thrown l G hF w173 r174 w175 hf) (c_rec hE hP (hp_sh hP hF 0 32 (by decide)) (by decide) rfl rfl) w6_191 miX15_thrown ⟨(Nat.le_of_ble_eq_true rfl), (Nat.le_of_ble_eq_true rfl)⟩ rfl hl.1 rfl (Nat.le_of_ble_eq_true rfl) dL_law_919 (⟨by show _ ≤ 601024; (try dsimp only); omega, by show _ ≤ 7293034; (try dsimp only); omega⟩ : _ ∧ _)) hS (fun H locs hP hS => ?_)
                                            refine lv_iload hx hb dL_law_922 (lv_at hl 1 rfl) ?_
                                            refine lv_icmp_eq (tgt := 929) hx hb dL_law_924 (by decide) (fun cc => ?_) (fun cc => ?_)
                                            · have h := brP_el h cc
                                              refine lv_iload hx hb dL_law_929 (lv_at hl 1 rfl) ?_
                                              refine lv_if_ne (tgt := 946) hx hb dL_law_931 (by decide) (fun cc => ?_) (fun cc => ?_)
                                              · have h := brP_er h cc
                                                refine lv_goto (tgt := 1904) hx hb dL_law_946 (by decide) ?_
                                                obtain ⟨x176, e⟩ : ∃ z : Int32, z = u4 + 6 := ⟨_, rfl⟩
                                                have h := sqP_at h e
                                                refine lv_iinc (v := x176) (lv' := [(4, .int x176), (6, .int r172), (5, .int r168), (0, .ref a0), (1, .ref (adr (gB G) 1 0)), (2, .ref (adr (gB G) 32 0)), (3, .ref (adr (gB G) 63 0))]) hx hb dL_law_1904 hl (k := 6) rfl (by rw [e]; rfl) (by decide) rfl (fun ls hl => ?_)
                                                refine lv_goto (tgt := 23) hx hb dL_law_1907 (by decide) ?_
                                                exact ih _ _ ⟨by (try dsimp only); omega, by (try dsimp only); omega⟩ x176 w175  h _ _ _ hP hS (lv_sub hl [3, 4, 5, 6, 0] rfl) k0
                                              · have h := brP_el h cc
                                                refine lv_aload_n hx hb dL_law_934 rfl (lv_at hl 5 rfl) ?_
                                                refine lv_iconst (v := 0) hx hb dL_law_935 (by decide) ?_
                                                obtain ⟨g177, h⟩ := gdP_el h
                                                refine k_lald hx hb hE hP (hp_sh hP hF 0 63 (by decide)) (by decide) rfl g177 dL_law_936 ?_
                                                refine lv_iload hx hb dL_law_937 (lv_at hl 0 rfl) ?_
                                                refine lv_i2l hx hb dL_law_939 rfl ?_
                                                refine W.lcmp hx hb dL_law_940 ?_
                                                refine lv_if_eq (tgt := 946) hx hb dL_law_941 (by decide) (fun cc => ?_) (fun cc => ?_)
                                                · have h := brP_el h cc
                                                  refine lv_goto (tgt := 1904) hx hb dL_law_946 (by decide) ?_
                                                  obtain ⟨x178, e⟩ : ∃ z : Int32, z = u4 + 6 := ⟨_, rfl⟩
                                                  have h := sqP_at h e
                                                  refine lv_iinc (v := x178) (lv' := [(4, .int x178), (6, .int r172), (5, .int r168), (0, .ref a0), (1, .ref (adr (gB G) 1 0)), (2, .ref (adr (gB G) 32 0)), (3, .ref (adr (gB G) 63 0))]) hx hb dL_law_1904 hl (k := 6) rfl (by rw [e]; rfl) (by decide) rfl (fun ls hl => ?_)
                                                  refine lv_goto (tgt := 23) hx hb dL_law_1907 (by decide) ?_
                                                  exact ih _ _ ⟨by (try dsimp only); omega, by (try dsimp only); omega⟩ x178 w175  h _ _ _ hP hS (lv_sub hl [3, 4, 5, 6, 0] rfl) k0
                                                · have h := brP_er h cc
                                                  refine lv_iconst (v := 0) hx hb dL_law_944 (by decide) ?_
                                                  exact h.elim
                                            · have h := brP_er h cc
                                              refine lv_iconst (v := 0) hx hb dL_law_927 (by decide) ?_
                                              exact h.elim
                                          · have h := brP_er h c18
                                            by_cases c19 : ((sc u4.toNatClampNeg) &&& 63) = 19
                                            · have h := brP_el h c19
                                              refine k_tab (tgt := 949) hx hb dL_law_40 (by decide) (by have cq := c19; (rw [cq]; decide)) ?_
                                              refine lv_aload_n hx hb dL_law_949 rfl (lv_at hl 1 rfl) ?_
                                              refine lv_aload_n hx hb dL_law_950 rfl (lv_at hl 0 rfl) ?_
                                              refine lv_iload hx hb dL_law_951 (lv_at hl 4 rfl) ?_
                                              refine lv_iconst (v := 1) hx hb dL_law_953 (by decide) ?_
                                              refine lv_iadd hx hb dL_law_954 ?_
                                              obtain ⟨g179, h⟩ := gdP_el h
                                              refine va_sld hx hb hX hbl hbA hS (vB_in g179) dL_law_955 ?_
                                              refine lv_aload_n hx hb dL_law_956 rfl (lv_at hl 3 rfl) ?_
                                              obtain ⟨r180, w181, hf, h⟩ := bzP_el h
                                              refine c_onz (c_runSW (As := [.ref (adr (gB G) 1 0), .int (sc (u4 + 1).toNatClampNeg), .ref (adr (gB G) 63 0)]) (rest := []) hx hb hml hown hts hE hP hS (c_L_countOf l G hF hst (sc (u4 + 1).toNatClampNeg) w r180 w181 hf) w5_32 miL_countOf ⟨(Nat.le_of_ble_eq_true rfl), (Nat.le_of_ble_eq_true rfl)⟩ rfl hl.1 rfl (Nat.le_of_ble_eq_true rfl) dL_law_957 (⟨by show _ ≤ 601024; (try dsimp only); omega, by show _ ≤ 7293034; (try dsimp only); omega⟩ : _ ∧ _)) hS (fun z9 hz9 H locs hP hS => ?_)
                                              have h := h z9 hz9
                                              obtain ⟨w182, e9⟩ : ∃ u : Mm, u = pZ w181 z9 := ⟨_, rfl⟩
                                              rw [← e9] at h hP
                                              skip
                                              refine lv_istore (i := 5) (lv' := [(5, .int r180), (0, .ref a0), (1, .ref (adr (gB G) 1 0)), (2, .ref (adr (gB G) 32 0)), (3, .ref (adr (gB G) 63 0)), (4, .int u4)]) hx hb dL_law_960 hl (by decide) rfl (fun ls hl => ?_)
                                              refine lv_aload_n hx hb dL_law_962 rfl (lv_at hl 3 rfl) ?_
                                              refine lv_aload_n hx hb dL_law_963 rfl (lv_at hl 1 rfl) ?_
                                              refine lv_iload hx hb dL_law_964 (lv_at hl 5 rfl) ?_
                                              refine lv_iconst (v := 1) hx hb dL_law_966 (by decide) ?_
                                              refine lv_iadd hx hb dL_law_967 ?_
                                              obtain ⟨g183, h⟩ := gdP_el h
                                              refine va_sld hx hb hX hbl hbA hS (vB_in g183) dL_law_968 ?_
                                              obtain ⟨r184, w185, hf, h⟩ := bd1P_el h
                                              refine c_oni (c_runV (b := adr (gB G) 32 0) (As := [.int (sc (u4 + 1).toNatClampNeg)]) (rest := []) hx hb hml hown hts hE hP hS (c_X15_countOf l G hF (sc (u4 + 1).toNatClampNeg) w182 r184 w185 hf) (c_rec hE hP (hp_sh hP hF 0 32 (by decide)) (by decide) rfl rfl) w8_92 miX15_countOf ⟨(Nat.le_of_ble_eq_true rfl), (Nat.le_of_ble_eq_true rfl)⟩ rfl hl.1 rfl (Nat.le_of_ble_eq_true rfl) dL_law_969 (⟨by show _ ≤ 601024; (try dsimp only); omega, by show _ ≤ 7293034; (try dsimp only); omega⟩ : _ ∧ _)) hS (fun H locs hP hS => ?_)
                                              refine lv_istore (i := 6) (lv' := [(6, .int r184), (5, .int r180), (0, .ref a0), (1, .ref (adr (gB G) 1 0)), (2, .ref (adr (gB G) 32 0)), (3, .ref (adr (gB G) 63 0)), (4, .int u4)]) hx hb dL_law_972 hl (by decide) rfl (fun ls hl => ?_)
                                              refine lv_aload_n hx hb dL_law_974 rfl (lv_at hl 4 rfl) ?_
                                              obtain ⟨r186, w187, hf, h⟩ := bd1P_el h
                                              refine c_oni (c_runV (b := adr (gB G) 32 0) (As := []) (rest := []) hx hb hml hown hts hE hP hS (c_X15_thrown l G hF w185 r186 w187 hf) (c_rec hE hP (hp_sh hP hF 0 32 (by decide)) (by decide) rfl rfl) w6_191 miX15_thrown ⟨(Nat.le_of_ble_eq_true rfl), (Nat.le_of_ble_eq_true rfl)⟩ rfl hl.1 rfl (Nat.le_of_ble_eq_true rfl) dL_law_975 (⟨by show _ ≤ 601024; (try dsimp only); omega, by show _ ≤ 7293034; (try dsimp only); omega⟩ : _ ∧ _)) hS (fun H locs hP hS => ?_)
                                              refine lv_iload hx hb dL_law_978 (lv_at hl 1 rfl) ?_
                                              refine lv_icmp_eq (tgt := 985) hx hb dL_law_980 (by decide) (fun cc => ?_) (fun cc => ?_)
                                              · have h := brP_el h cc
                                                refine lv_iload hx hb dL_law_985 (lv_at hl 1 rfl) ?_
                                                refine lv_if_ne (tgt := 1002) hx hb dL_law_987 (by decide) (fun cc => ?_) (fun cc => ?_)
                                                · have h := brP_er h cc
                                                  refine lv_goto (tgt := 1904) hx hb dL_law_1002 (by decide) ?_
                                                  obtain ⟨x188, e⟩ : ∃ z : Int32, z = u4 + 6 := ⟨_, rfl⟩
                                                  have h := sqP_at h e
                                                  refine lv_iinc (v := x188) (lv' := [(4, .int x188), (6, .int r184), (5, .int r180), (0, .ref a0), (1, .ref (adr (gB G) 1 0)), (2, .ref (adr (gB G) 32 0)), (3, .ref (adr (gB G) 63 0))]) hx hb dL_law_1904 hl (k := 6) rfl (by rw [e]; rfl) (by decide) rfl (fun ls hl => ?_)
                                                  refine lv_goto (tgt := 23) hx hb dL_law_1907 (by decide) ?_
                                                  exact ih _ _ ⟨by (try dsimp only); omega, by (try dsimp only); omega⟩ x188 w187  h _ _ _ hP hS (lv_sub hl [3, 4, 5, 6, 0] rfl) k0
                                                · have h := brP_el h cc
                                                  refine lv_aload_n hx hb dL_law_990 rfl (lv_at hl 5 rfl) ?_
                                                  refine lv_iconst (v := 0) hx hb dL_law_991 (by decide) ?_
                                                  obtain ⟨g189, h⟩ := gdP_el h
                                                  refine k_lald hx hb hE hP (hp_sh hP hF 0 63 (by decide)) (by decide) rfl g189 dL_law_992 ?_
                                                  refine lv_iload hx hb dL_law_993 (lv_at hl 0 rfl) ?_
                                                  refine lv_i2l hx hb dL_law_995 rfl ?_
                                                  refine W.lcmp hx hb dL_law_996 ?_
                                                  refine lv_if_eq (tgt := 1002) hx hb dL_law_997 (by decide) (fun cc => ?_) (fun cc => ?_)
                                                  · have h := brP_el h cc
                                                    refine lv_goto (tgt := 1904) hx hb dL_law_1002 (by decide) ?_
                                                    obtain ⟨x190, e⟩ : ∃ z : Int32, z = u4 + 6 := ⟨_, rfl⟩
                                                    have h := sqP_at h e
                                                    refine lv_iinc (v := x190) (lv' := [(4, .int x190), (6, .int r184), (5, .int r180), (0, .ref a0), (1, .ref (adr (gB G) 1 0)), (2, .ref (adr (gB G) 32 0)), (3, .ref (adr (gB G) 63 0))]) hx hb dL_law_1904 hl (k := 6) rfl (by rw [e]; rfl) (by decide) rfl (fun ls hl => ?_)
                                                    refine lv_goto (tgt := 23) hx hb dL_law_1907 (by decide) ?_
                                                    exact ih _ _ ⟨by (try dsimp only); omega, by (try dsimp only); omega⟩ x190 w187  h _ _ _ hP hS (lv_sub hl [3, 4, 5, 6, 0] rfl) k0
                                                  · have h := brP_er h cc
                                                    refine lv_iconst (v := 0) hx hb dL_law_1000 (by decide) ?_
                                                    exact h.elim
                                              · have h := brP_er h cc
                                                refine lv_iconst (v := 0) hx hb dL_law_983 (by decide) ?_
                                                exact h.elim
                                            · have h := brP_er h c19
                                              by_cases c20 : ((sc u4.toNatClampNeg) &&& 63) = 20
                                              · have h := brP_el h c20
                                                refine k_tab (tgt := 1005) hx hb dL_law_40 (by decide) (by have cq := c20; (rw [cq]; decide)) ?_
                                                refine lv_aload_n hx hb dL_law_1005 rfl (lv_at hl 1 rfl) ?_
                                                refine lv_aload_n hx hb dL_law_1006 rfl (lv_at hl 0 rfl) ?_
                                                refine lv_iload hx hb dL_law_1007 (lv_at hl 4 rfl) ?_
                                                refine lv_iconst (v := 1) hx hb dL_law_1009 (by decide) ?_
                                                refine lv_iadd hx hb dL_law_1010 ?_
                                                obtain ⟨g191, h⟩ := gdP_el h
                                                refine va_sld hx hb hX hbl hbA hS (vB_in g191) dL_law_1011 ?_
                                                refine lv_aload_n hx hb dL_law_1012 rfl (lv_at hl 3 rfl) ?_
                                                obtain ⟨r192, w193, hf, h⟩ := bzP_el h
                                                refine c_onz (c_runSW (As := [.ref (adr (gB G) 1 0), .int (sc (u4 + 1).toNatClampNeg), .ref (adr (gB G) 63 0)]) (rest := []) hx hb hml hown hts hE hP hS (c_L_hedgesOf l G hF hst (sc (u4 + 1).toNatClampNeg) w r192 w193 hf) w5_36 miL_hedgesOf ⟨(Nat.le_of_ble_eq_true rfl), (Nat.le_of_ble_eq_true rfl)⟩ rfl hl.1 rfl (Nat.le_of_ble_eq_true rfl) dL_law_1013 (⟨by show _ ≤ 601024; (try dsimp only); omega, by show _ ≤ 7293034; (try dsimp only); omega⟩ : _ ∧ _)) hS (fun z9 hz9 H locs hP hS => ?_)
                                                have h := h z9 hz9
                                                obtain ⟨w194, e9⟩ : ∃ u : Mm, u = pZ w193 z9 := ⟨_, rfl⟩
                                                rw [← e9] at h hP
                                                skip
                                                refine lv_istore (i := 5) (lv' := [(5, .int r192), (0, .ref a0), (1, .ref (adr (gB G) 1 0)), (2, .ref (adr (gB G) 32 0)), (3, .ref (adr (gB G) 63 0)), (4, .int u4)]) hx hb dL_law_1016 hl (by decide) rfl (fun ls hl => ?_)
                                                refine lv_aload_n hx hb dL_law_1018 rfl (lv_at hl 3 rfl) ?_
                                                refine lv_aload_n hx hb dL_law_1019 rfl (lv_at hl 1 rfl) ?_
                                                refine lv_iload hx hb dL_law_1020 (lv_at hl 5 rfl) ?_
                                                refine lv_iconst (v := 1) hx hb dL_law_1022 (by decide) ?_
                                                refine lv_iadd hx hb dL_law_1023 ?_
                                                obtain ⟨g195, h⟩ := gdP_el h
                                                refine va_sld hx hb hX hbl hbA hS (vB_in g195) dL_law_1024 ?_
                                                obtain ⟨r196, w197, hf, h⟩ := bd1P_el h
                                                refine c_oni (c_runV (b := adr (gB G) 32 0) (As := [.int (sc (u4 + 1).toNatClampNeg)]) (rest := []) hx hb hml hown hts hE hP hS (c_X15_hedgesOf l G hF (sc (u4 + 1).toNatClampNeg) w194 r196 w197 hf) (c_rec hE hP (hp_sh hP hF 0 32 (by decide)) (by decide) rfl rfl) w8_96 miX15_hedgesOf ⟨(Nat.le_of_ble_eq_true rfl), (Nat.le_of_ble_eq_true rfl)⟩ rfl hl.1 rfl (Nat.le_of_ble_eq_true rfl) dL_law_1025 (⟨by show _ ≤ 601024; (try dsimp only); omega, by show _ ≤ 7293034; (try dsimp only); omega⟩ : _ ∧ _)) hS (fun H locs hP hS => ?_)
                                                refine lv_istore (i := 6) (lv' := [(6, .int r196), (5, .int r192), (0, .ref a0), (1, .ref (adr (gB G) 1 0)), (2, .ref (adr (gB G) 32 0)), (3, .ref (adr (gB G) 63 0)), (4, .int u4)]) hx hb dL_law_1028 hl (by decide) rfl (fun ls hl => ?_)
                                                refine lv_aload_n hx hb dL_law_1030 rfl (lv_at hl 4 rfl) ?_
                                                obtain ⟨r198, w199, hf, h⟩ := bd1P_el h
                                                refine c_oni (c_runV (b := adr (gB G) 32 0) (As := []) (rest := []) hx hb hml hown hts hE hP hS (c_X15_thrown l G hF w197 r198 w199 hf) (c_rec hE hP (hp_sh hP hF 0 32 (by decide)) (by decide) rfl rfl) w6_191 miX15_thrown ⟨(Nat.le_of_ble_eq_true rfl), (Nat.le_of_ble_eq_true rfl)⟩ rfl hl.1 rfl (Nat.le_of_ble_eq_true rfl) dL_law_1031 (⟨by show _ ≤ 601024; (try dsimp only); omega, by show _ ≤ 7293034; (try dsimp only); omega⟩ : _ ∧ _)) hS (fun H locs hP hS => ?_)
                                                refine lv_iload hx hb dL_law_1034 (lv_at hl 1 rfl) ?_
                                                refine lv_icmp_eq (tgt := 1041) hx hb dL_law_1036 (by decide) (fun cc => ?_) (fun cc => ?_)
                                                · have h := brP_el h cc
                                                  refine lv_iload hx hb dL_law_1041 (lv_at hl 1 rfl) ?_
                                                  refine lv_if_ne (tgt := 1058) hx hb dL_law_1043 (by decide) (fun cc => ?_) (fun cc => ?_)
                                                  · have h := brP_er h cc
                                                    refine lv_goto (tgt := 1904) hx hb dL_law_1058 (by decide) ?_
                                                    obtain ⟨x200, e⟩ : ∃ z : Int32, z = u4 + 6 := ⟨_, rfl⟩
                                                    have h := sqP_at h e
                                                    refine lv_iinc (v := x200) (lv' := [(4, .int x200), (6, .int r196), (5, .int r192), (0, .ref a0), (1, .ref (adr (gB G) 1 0)), (2, .ref (adr (gB G) 32 0)), (3, .ref (adr (gB G) 63 0))]) hx hb dL_law_1904 hl (k := 6) rfl (by rw [e]; rfl) (by decide) rfl (fun ls hl => ?_)
                                                    refine lv_goto (tgt := 23) hx hb dL_law_1907 (by decide) ?_
                                                    exact ih _ _ ⟨by (try dsimp only); omega, by (try dsimp only); omega⟩ x200 w199  h _ _ _ hP hS (lv_sub hl [3, 4, 5, 6, 0] rfl) k0
                                                  · have h := brP_el h cc
                                                    refine lv_aload_n hx hb dL_law_1046 rfl (lv_at hl 5 rfl) ?_
                                                    refine lv_iconst (v := 0) hx hb dL_law_1047 (by decide) ?_
                                                    obtain ⟨g201, h⟩ := gdP_el h
                                                    refine k_lald hx hb hE hP (hp_sh hP hF 0 63 (by decide)) (by decide) rfl g201 dL_law_1048 ?_
                                                    refine lv_iload hx hb dL_law_1049 (lv_at hl 0 rfl) ?_
                                                    refine lv_i2l hx hb dL_law_1051 rfl ?_
                                                    refine W.lcmp hx hb dL_law_1052 ?_
                                                    refine lv_if_eq (tgt := 1058) hx hb dL_law_1053 (by decide) (fun cc => ?_) (fun cc => ?_)
                                                    · have h := brP_el h cc
                                                      refine lv_goto (tgt := 1904) hx hb dL_law_1058 (by decide) ?_
                                                      obtain ⟨x202, e⟩ : ∃ z : Int32, z = u4 + 6 := ⟨_, rfl⟩
                                                      have h := sqP_at h e
                                                      refine lv_iinc (v := x202) (lv' := [(4, .int x202), (6, .int r196), (5, .int r192), (0, .ref a0), (1, .ref (adr (gB G) 1 0)), (2, .ref (adr (gB G) 32 0)), (3, .ref (adr (gB G) 63 0))]) hx hb dL_law_1904 hl (k := 6) rfl (by rw [e]; rfl) (by decide) rfl (fun ls hl => ?_)
                                                      refine lv_goto (tgt := 23) hx hb dL_law_1907 (by decide) ?_
                                                      exact ih _ _ ⟨by (try dsimp only); omega, by (try dsimp only); omega⟩ x202 w199  h _ _ _ hP hS (lv_sub hl [3, 4, 5, 6, 0] rfl) k0
                                                    · have h := brP_er h cc
                                                      refine lv_iconst (v := 0) hx hb dL_law_1056 (by decide) ?_
                                                      exact h.elim
                                                · have h := brP_er h cc
                                                  refine lv_iconst (v := 0) hx hb dL_law_1039 (by decide) ?_
                                                  exact h.elim
                                              · have h := brP_er h c20
                                                by_cases c21 : ((sc u4.toNatClampNeg) &&& 63) = 21
                                                · have h := brP_el h c21
                                                  refine k_tab (tgt := 1061) hx hb dL_law_40 (by decide) (by have cq := c21; (rw [cq]; decide)) ?_
                                                  refine lv_aload_n hx hb dL_law_1061 rfl (lv_at hl 1 rfl) ?_
                                                  obtain ⟨r203, w204, hf, h⟩ := bd1P_el h
                                                  refine c_oni (c_runV (b := adr (gB G) 1 0) (As := []) (rest := []) hx hb hml hown hts hE hP hS (c_X12_fullest l G hF w r203 w204 hf) (c_rec hE hP (hp_sh hP hF 0 1 (by decide)) (by decide) rfl rfl) w3_203 miX12_fullest ⟨(Nat.le_of_ble_eq_true rfl), (Nat.le_of_ble_eq_true rfl)⟩ rfl hl.1 rfl (Nat.le_of_ble_eq_true rfl) dL_law_1062 (⟨by show _ ≤ 601024; (try dsimp only); omega, by show _ ≤ 7293034; (try dsimp only); omega⟩ : _ ∧ _)) hS (fun H locs hP hS => ?_)
                                                  refine lv_aload_n hx hb dL_law_1065 rfl (lv_at hl 2 rfl) ?_
                                                  obtain ⟨r205, w206, hf, h⟩ := bd1P_el h
                                                  refine c_oni (c_runV (b := adr (gB G) 32 0) (As := []) (rest := [.int r203]) hx hb hml hown hts hE hP hS (c_X15_fullest l G hF w204 r205 w206 hf) (c_rec hE hP (hp_sh hP hF 0 32 (by decide)) (by decide) rfl rfl) w8_105 miX15_fullest ⟨(Nat.le_of_ble_eq_true rfl), (Nat.le_of_ble_eq_true rfl)⟩ rfl hl.1 rfl (Nat.le_of_ble_eq_true rfl) dL_law_1066 (⟨by show _ ≤ 601024; (try dsimp only); omega, by show _ ≤ 7293034; (try dsimp only); omega⟩ : _ ∧ _)) hS (fun H locs hP hS => ?_)
                                                  refine lv_icmp_eq (tgt := 1904) hx hb dL_law_1069 (by decide) (fun cc => ?_) (fun cc => ?_)
                                                  · have h := brP_el h cc
                                                    obtain ⟨x207, e⟩ : ∃ z : Int32, z = u4 + 6 := ⟨_, rfl⟩
                                                    have h := sqP_at h e
                                                    refine lv_iinc (v := x207) (lv' := [(4, .int x207), (0, .ref a0), (1, .ref (adr (gB G) 1 0)), (2, .ref (adr (gB G) 32 0)), (3, .ref (adr (gB G) 63 0))]) hx hb dL_law_1904 hl (k := 4) rfl (by rw [e]; rfl) (by decide) rfl (fun ls hl => ?_)
                                                    refine lv_goto (tgt := 23) hx hb dL_law_1907 (by decide) ?_
                                                    exact ih _ _ ⟨by (try dsimp only); omega, by (try dsimp only); omega⟩ x207 w206  h _ _ _ hP hS (lv_sub hl [1, 2, 3, 4, 0] rfl) k0
                                                  · have h := brP_er h cc
                                                    refine lv_iconst (v := 0) hx hb dL_law_1072 (by decide) ?_
                                                    exact h.elim
                                                · have h := brP_er h c21
                                                  by_cases c22 : ((sc u4.toNatClampNeg) &&& 63) = 22
                                                  · have h := brP_el h c22
                                                    refine k_tab (tgt := 1074) hx hb dL_law_40 (by decide) (by have cq := c22; (rw [cq]; decide)) ?_
                                                    refine lv_aload_n hx hb dL_law_1074 rfl (lv_at hl 1 rfl) ?_
                                                    refine lv_aload_n hx hb dL_law_1075 rfl (lv_at hl 0 rfl) ?_
                                                    refine lv_iload hx hb dL_law_1076 (lv_at hl 4 rfl) ?_
                                                    refine lv_iconst (v := 1) hx hb dL_law_1078 (by decide) ?_
                                                    refine lv_iadd hx hb dL_law_1079 ?_
                                                    obtain ⟨g208, h⟩ := gdP_el h
                                                    refine va_sld hx hb hX hbl hbA hS (vB_in g208) dL_law_1080 ?_
                                                    refine lv_aload_n hx hb dL_law_1081 rfl (lv_at hl 0 rfl) ?_
                                                    refine lv_iload hx hb dL_law_1082 (lv_at hl 4 rfl) ?_
                                                    refine lv_iconst (v := 2) hx hb dL_law_1084 (by decide) ?_
                                                    refine lv_iadd hx hb dL_law_1085 ?_
                                                    obtain ⟨g209, h⟩ := gdP_el h
                                                    refine va_sld hx hb hX hbl hbA hS (vB_in g209) dL_law_1086 ?_
                                                    refine lv_aload_n hx hb dL_law_1087 rfl (lv_at hl 3 rfl) ?_
                                                    obtain ⟨r210, w211, hf, h⟩ := bzP_el h
                                                    refine c_onz (c_runSW (As := [.ref (adr (gB G) 1 0), .int (sc (u4 + 1).toNatClampNeg), .int (sc (u4 + 2).toNatClampNeg), .ref (adr (gB G) 63 0)]) (rest := []) hx hb hml hown hts hE hP hS (c_L_hedgeListens l G hF hst (sc (u4 + 1).toNatClampNeg) (sc (u4 + 2).toNatClampNeg) w r210 w211 hf) w5_40 miL_hedgeListens ⟨(Nat.le_of_ble_eq_true rfl), (Nat.le_of_ble_eq_true rfl)⟩ rfl hl.1 rfl (Nat.le_of_ble_eq_true rfl) dL_law_1088 (⟨by show _ ≤ 601024; (try dsimp only); omega, by show _ ≤ 7293034; (try dsimp only); omega⟩ : _ ∧ _)) hS (fun z9 hz9 H locs hP hS => ?_)
                                                    have h := h z9 hz9
                                                    obtain ⟨w212, e9⟩ : ∃ u : Mm, u = pZ w211 z9 := ⟨_, rfl⟩
                                                    rw [← e9] at h hP
                                                    skip
                                                    refine lv_istore (i := 5) (lv' := [(5, .int r210), (0, .ref a0), (1, .ref (adr (gB G) 1 0)), (2, .ref (adr (gB G) 32 0)), (3, .ref (adr (gB G) 63 0)), (4, .int u4)]) hx hb dL_law_1091 hl (by decide) rfl (fun ls hl => ?_)
                                                    refine lv_aload_n hx hb dL_law_1093 rfl (lv_at hl 3 rfl) ?_
                                                    refine lv_aload_n hx hb dL_law_1094 rfl (lv_at hl 1 rfl) ?_
                                                    refine lv_iload hx hb dL_law_1095 (lv_at hl 5 rfl) ?_
                                                    refine lv_iconst (v := 1) hx hb dL_law_1097 (by decide) ?_
                                                    refine lv_iadd hx hb dL_law_1098 ?_
                                                    obtain ⟨g213, h⟩ := gdP_el h
                                                    refine va_sld hx hb hX hbl hbA hS (vB_in g213) dL_law_1099 ?_
                                                    refine lv_aload_n hx hb dL_law_1100 rfl (lv_at hl 1 rfl) ?_
                                                    refine lv_iload hx hb dL_law_1101 (lv_at hl 5 rfl) ?_
                                                    refine lv_iconst (v := 2) hx hb dL_law_1103 (by decide) ?_
                                                    refine lv_iadd hx hb dL_law_1104 ?_
                                                    obtain ⟨g214, h⟩ := gdP_el h
                                                    refine va_sld hx hb hX hbl hbA hS (vB_in g214) dL_law_1105 ?_
                                                    obtain ⟨r215, w216, hf, h⟩ := bd1P_el h
                                                    refine c_oni (c_runV (b := adr (gB G) 32 0) (As := [.int (sc (u4 + 1).toNatClampNeg), .int (sc (u4 + 2).toNatClampNeg)]) (rest := []) hx hb hml hown hts hE hP hS (c_X15_hedgeListens l G hF (sc (u4 + 1).toNatClampNeg) (sc (u4 + 2).toNatClampNeg) w212 r215 w216 hf) (c_rec hE hP (hp_sh hP hF 0 32 (by decide)) (by decide) rfl rfl) w8_113 miX15_hedgeListens ⟨(Nat.le_of_ble_eq_true rfl), (Nat.le_of_ble_eq_true rfl)⟩ rfl hl.1 rfl (Nat.le_of_ble_eq_true rfl) dL_law_1106 (⟨by show _ ≤ 601024; (try dsimp only); omega, by show _ ≤ 7293034; (try dsimp only); omega⟩ : _ ∧ _)) hS (fun H locs hP hS => ?_)
                                                    refine lv_istore (i := 6) (lv' := [(6, .int r215), (5, .int r210), (0, .ref a0), (1, .ref (adr (gB G) 1 0)), (2, .ref (adr (gB G) 32 0)), (3, .ref (adr (gB G) 63 0)), (4, .int u4)]) hx hb dL_law_1109 hl (by decide) rfl (fun ls hl => ?_)
                                                    refine lv_aload_n hx hb dL_law_1111 rfl (lv_at hl 4 rfl) ?_
                                                    obtain ⟨r217, w218, hf, h⟩ := bd1P_el h
                                                    refine c_oni (c_runV (b := adr (gB G) 32 0) (As := []) (rest := []) hx hb hml hown hts hE hP hS (c_X15_thrown l G hF w216 r217 w218 hf) (c_rec hE hP (hp_sh hP hF 0 32 (by decide)) (by decide) rfl rfl) w6_191 miX15_thrown ⟨(Nat.le_of_ble_eq_true rfl), (Nat.le_of_ble_eq_true rfl)⟩ rfl hl.1 rfl (Nat.le_of_ble_eq_true rfl) dL_law_1112 (⟨by show _ ≤ 601024; (try dsimp only); omega, by show _ ≤ 7293034; (try dsimp only); omega⟩ : _ ∧ _)) hS (fun H locs hP hS => ?_)
                                                    refine lv_iload hx hb dL_law_1115 (lv_at hl 1 rfl) ?_
                                                    refine lv_icmp_eq (tgt := 1122) hx hb dL_law_1117 (by decide) (fun cc => ?_) (fun cc => ?_)
                                                    · have h := brP_el h cc
                                                      refine lv_iload hx hb dL_law_1122 (lv_at hl 1 rfl) ?_
                                                      refine lv_if_ne (tgt := 1139) hx hb dL_law_1124 (by decide) (fun cc => ?_) (fun cc => ?_)
                                                      · have h := brP_er h cc
                                                        refine lv_goto (tgt := 1904) hx hb dL_law_1139 (by decide) ?_
                                                        obtain ⟨x219, e⟩ : ∃ z : Int32, z = u4 + 6 := ⟨_, rfl⟩
                                                        have h := sqP_at h e
                                                        refine lv_iinc (v := x219) (lv' := [(4, .int x219), (6, .int r215), (5, .int r210), (0, .ref a0), (1, .ref (adr (gB G) 1 0)), (2, .ref (adr (gB G) 32 0)), (3, .ref (adr (gB G) 63 0))]) hx hb dL_law_1904 hl (k := 6) rfl (by rw [e]; rfl) (by decide) rfl (fun ls hl => ?_)
                                                        refine lv_goto (tgt := 23) hx hb dL_law_1907 (by decide) ?_
                                                        exact ih _ _ ⟨by (try dsimp only); omega, by (try dsimp only); omega⟩ x219 w218  h _ _ _ hP hS (lv_sub hl [3, 4, 5, 6, 0] rfl) k0
                                                      · have h := brP_el h cc
                                                        refine lv_aload_n hx hb dL_law_1127 rfl (lv_at hl 5 rfl) ?_
                                                        refine lv_iconst (v := 0) hx hb dL_law_1128 (by decide) ?_
                                                        obtain ⟨g220, h⟩ := gdP_el h
                                                        refine k_lald hx hb hE hP (hp_sh hP hF 0 63 (by decide)) (by decide) rfl g220 dL_law_1129 ?_
                                                        refine lv_iload hx hb dL_law_1130 (lv_at hl 0 rfl) ?_
                                                        refine lv_i2l hx hb dL_law_1132 rfl ?_
                                                        refine W.lcmp hx hb dL_law_1133 ?_
                                                        refine lv_if_eq (tgt := 1139) hx hb dL_law_1134 (by decide) (fun cc => ?_) (fun cc => ?_)
                                                        · have h := brP_el h cc
                                                          refine lv_goto (tgt := 1904) hx hb dL_law_1139 (by decide) ?_
                                                          obtain ⟨x221, e⟩ : ∃ z : Int32, z = u4 + 6 := ⟨_, rfl⟩
                                                          have h := sqP_at h e
                                                          refine lv_iinc (v := x221) (lv' := [(4, .int x221), (6, .int r215), (5, .int r210), (0, .ref a0), (1, .ref (adr (gB G) 1 0)), (2, .ref (adr (gB G) 32 0)), (3, .ref (adr (gB G) 63 0))]) hx hb dL_law_1904 hl (k := 6) rfl (by rw [e]; rfl) (by decide) rfl (fun ls hl => ?_)
                                                          refine lv_goto (tgt := 23) hx hb dL_law_1907 (by decide) ?_
                                                          exact ih _ _ ⟨by (try dsimp only); omega, by (try dsimp only); omega⟩ x221 w218  h _ _ _ hP hS (lv_sub hl [3, 4, 5, 6, 0] rfl) k0
                                                        · have h := brP_er h cc
                                                          refine lv_iconst (v := 0) hx hb dL_law_1137 (by decide) ?_
                                                          exact h.elim
                                                    · have h := brP_er h cc
                                                      refine lv_iconst (v := 0) hx hb dL_law_1120 (by decide) ?_
                                                      exact h.elim
                                                  · have h := brP_er h c22
                                                    by_cases c23 : ((sc u4.toNatClampNeg) &&& 63) = 23
                                                    · have h := brP_el h c23
                                                      refine k_tab (tgt := 1142) hx hb dL_law_40 (by decide) (by have cq := c23; (rw [cq]; decide)) ?_
                                                      refine lv_aload_n hx hb dL_law_1142 rfl (lv_at hl 1 rfl) ?_
                                                      refine lv_aload_n hx hb dL_law_1143 rfl (lv_at hl 0 rfl) ?_
                                                      refine lv_iload hx hb dL_law_1144 (lv_at hl 4 rfl) ?_
                                                      refine lv_iconst (v := 1) hx hb dL_law_1146 (by decide) ?_
                                                      refine lv_iadd hx hb dL_law_1147 ?_
                                                      obtain ⟨g222, h⟩ := gdP_el h
                                                      refine va_sld hx hb hX hbl hbA hS (vB_in g222) dL_law_1148 ?_
                                                      refine lv_aload_n hx hb dL_law_1149 rfl (lv_at hl 0 rfl) ?_
                                                      refine lv_iload hx hb dL_law_1150 (lv_at hl 4 rfl) ?_
                                                      refine lv_iconst (v := 2) hx hb dL_law_1152 (by decide) ?_
                                                      refine lv_iadd hx hb dL_law_1153 ?_
                                                      obtain ⟨g223, h⟩ := gdP_el h
                                                      refine va_sld hx hb hX hbl hbA hS (vB_in g223) dL_law_1154 ?_
                                                      refine lv_aload_n hx hb dL_law_1155 rfl (lv_at hl 3 rfl) ?_
                                                      obtain ⟨r224, w225, hf, h⟩ := bzP_el h
                                                      refine c_onz (c_runSW (As := [.ref (adr (gB G) 1 0), .int (sc (u4 + 1).toNatClampNeg), .int (sc (u4 + 2).toNatClampNeg), .ref (adr (gB G) 63 0)]) (rest := []) hx hb hml hown hts hE hP hS (c_L_roseListens l G hF hst (sc (u4 + 1).toNatClampNeg) (sc (u4 + 2).toNatClampNeg) w r224 w225 hf) w5_60 miL_roseListens ⟨(Nat.le_of_ble_eq_true rfl), (Nat.le_of_ble_eq_true rfl)⟩ rfl hl.1 rfl (Nat.le_of_ble_eq_true rfl) dL_law_1156 (⟨by show _ ≤ 601024; (try dsimp only); omega, by show _ ≤ 7293034; (try dsimp only); omega⟩ : _ ∧ _)) hS (fun z9 hz9 H locs hP hS => ?_)
                                                      have h := h z9 hz9
                                                      obtain ⟨w226, e9⟩ : ∃ u : Mm, u = pZ w225 z9 := ⟨_, rfl⟩
                                                      rw [← e9] at h hP
                                                      skip
                                                      refine lv_istore (i := 5) (lv' := [(5, .int r224), (0, .ref a0), (1, .ref (adr (gB G) 1 0)), (2, .ref (adr (gB G) 32 0)), (3, .ref (adr (gB G) 63 0)), (4, .int u4)]) hx hb dL_law_1159 hl (by decide) rfl (fun ls hl => ?_)
                                                      refine lv_aload_n hx hb dL_law_1161 rfl (lv_at hl 3 rfl) ?_
                                                      refine lv_aload_n hx hb dL_law_1162 rfl (lv_at hl 1 rfl) ?_
                                                      refine lv_iload hx hb dL_law_1163 (lv_at hl 5 rfl) ?_
                                                      refine lv_iconst (v := 1) hx hb dL_law_1165 (by decide) ?_
                                                      refine lv_iadd hx hb dL_law_1166 ?_
                                                      obtain ⟨g227, h⟩ := gdP_el h
                                                      refine va_sld hx hb hX hbl hbA hS (vB_in g227) dL_law_1167 ?_
                                                      refine lv_aload_n hx hb dL_law_1168 rfl (lv_at hl 1 rfl) ?_
                                                      refine lv_iload hx hb dL_law_1169 (lv_at hl 5 rfl) ?_
                                                      refine lv_iconst (v := 2) hx hb dL_law_1171 (by decide) ?_
                                                      refine lv_iadd hx hb dL_law_1172 ?_
                                                      obtain ⟨g228, h⟩ := gdP_el h
                                                      refine va_sld hx hb hX hbl hbA hS (vB_in g228) dL_law_1173 ?_
                                                      obtain ⟨r229, w230, hf, h⟩ := bd1P_el h
                                                      refine c_oni (c_runV (b := adr (gB G) 32 0) (As := [.int (sc (u4 + 1).toNatClampNeg), .int (sc (u4 + 2).toNatClampNeg)]) (rest := []) hx hb hml hown hts hE hP hS (c_X15_roseListens l G hF (sc (u4 + 1).toNatClampNeg) (sc (u4 + 2).toNatClampNeg) w226 r229 w230 hf) (c_rec hE hP (hp_sh hP hF 0 32 (by decide)) (by decide) rfl rfl) w8_129 miX15_roseListens ⟨(Nat.le_of_ble_eq_true rfl), (Nat.le_of_ble_eq_true rfl)⟩ rfl hl.1 rfl (Nat.le_of_ble_eq_true rfl) dL_law_1174 (⟨by show _ ≤ 601024; (try dsimp only); omega, by show _ ≤ 7293034; (try dsimp only); omega⟩ : _ ∧ _)) hS (fun H locs hP hS => ?_)
                                                      refine lv_istore (i := 6) (lv' := [(6, .int r229), (5, .int r224), (0, .ref a0), (1, .ref (adr (gB G) 1 0)), (2, .ref (adr (gB G) 32 0)), (3, .ref (adr (gB G) 63 0)), (4, .int u4)]) hx hb dL_law_1177 hl (by decide) rfl (fun ls hl => ?_)
                                                      refine lv_aload_n hx hb dL_law_1179 rfl (lv_at hl 4 rfl) ?_
                                                      obtain ⟨r231, w232, hf, h⟩ := bd1P_el h
                                                      refine c_oni (c_runV (b := adr (gB G) 32 0) (As := []) (rest := []) hx hb hml hown hts hE hP hS (c_X15_thrown l G hF w230 r231 w232 hf) (c_rec hE hP (hp_sh hP hF 0 32 (by decide)) (by decide) rfl rfl) w6_191 miX15_thrown ⟨(Nat.le_of_ble_eq_true rfl), (Nat.le_of_ble_eq_true rfl)⟩ rfl hl.1 rfl (Nat.le_of_ble_eq_true rfl) dL_law_1180 (⟨by show _ ≤ 601024; (try dsimp only); omega, by show _ ≤ 7293034; (try dsimp only); omega⟩ : _ ∧ _)) hS (fun H locs hP hS => ?_)
                                                      refine lv_iload hx hb dL_law_1183 (lv_at hl 1 rfl) ?_
                                                      refine lv_icmp_eq (tgt := 1190) hx hb dL_law_1185 (by decide) (fun cc => ?_) (fun cc => ?_)
                                                      · have h := brP_el h cc
                                                        refine lv_iload hx hb dL_law_1190 (lv_at hl 1 rfl) ?_
                                                        refine lv_if_ne (tgt := 1207) hx hb dL_law_1192 (by decide) (fun cc => ?_) (fun cc => ?_)
                                                        · have h := brP_er h cc
                                                          refine lv_goto (tgt := 1904) hx hb dL_law_1207 (by decide) ?_
                                                          obtain ⟨x233, e⟩ : ∃ z : Int32, z = u4 + 6 := ⟨_, rfl⟩
                                                          have h := sqP_at h e
                                                          refine lv_iinc (v := x233) (lv' := [(4, .int x233), (6, .int r229), (5, .int r224), (0, .ref a0), (1, .ref (adr (gB G) 1 0)), (2, .ref (adr (gB G) 32 0)), (3, .ref (adr (gB G) 63 0))]) hx hb dL_law_1904 hl (k := 6) rfl (by rw [e]; rfl) (by decide) rfl (fun ls hl => ?_)
                                                          refine lv_goto (tgt := 23) hx hb dL_law_1907 (by decide) ?_
                                                          exact ih _ _ ⟨by (try dsimp only); omega, by (try dsimp only); omega⟩ x233 w232  h _ _ _ hP hS (lv_sub hl [3, 4, 5, 6, 0] rfl) k0
                                                        · have h := brP_el h cc
                                                          refine lv_aload_n hx hb dL_law_1195 rfl (lv_at hl 5 rfl) ?_
                                                          refine lv_iconst (v := 0) hx hb dL_law_1196 (by decide) ?_
                                                          obtain ⟨g234, h⟩ := gdP_el h
                                                          refine k_lald hx hb hE hP (hp_sh hP hF 0 63 (by decide)) (by decide) rfl g234 dL_law_1197 ?_
                                                          refine lv_iload hx hb dL_law_1198 (lv_at hl 0 rfl) ?_
                                                          refine lv_i2l hx hb dL_law_1200 rfl ?_
                                                          refine W.lcmp hx hb dL_law_1201 ?_
                                                          refine lv_if_eq (tgt := 1207) hx hb dL_law_1202 (by decide) (fun cc => ?_) (fun cc => ?_)
                                                          · have h := brP_el h cc
                                                            refine lv_goto (tgt := 1904) hx hb dL_law_1207 (by decide) ?_
                                                            obtain ⟨x235, e⟩ : ∃ z : Int32, z = u4 + 6 := ⟨_, rfl⟩
                                                            have h := sqP_at h e
                                                            refine lv_iinc (v := x235) (lv' := [(4, .int x235), (6, .int r229), (5, .int r224), (0, .ref a0), (1, .ref (adr (gB G) 1 0)), (2, .ref (adr (gB G) 32 0)), (3, .ref (adr (gB G) 63 0))]) hx hb dL_law_1904 hl (k := 6) rfl (by rw [e]; rfl) (by decide) rfl (fun ls hl => ?_)
                                                            refine lv_goto (tgt := 23) hx hb dL_law_1907 (by decide) ?_
                                                            exact ih _ _ ⟨by (try dsimp only); omega, by (try dsimp only); omega⟩ x235 w232  h _ _ _ hP hS (lv_sub hl [3, 4, 5, 6, 0] rfl) k0
                                                          · have h := brP_er h cc
                                                            refine lv_iconst (v := 0) hx hb dL_law_1205 (by decide) ?_
                                                            exact h.elim
                                                      · have h := brP_er h cc
                                                        refine lv_iconst (v := 0) hx hb dL_law_1188 (by decide) ?_
                                                        exact h.elim
                                                    · have h := brP_er h c23
                                                      by_cases c24 : ((sc u4.toNatClampNeg) &&& 63) = 24
                                                      · have h := brP_el h c24
                                                        refine k_tab (tgt := 1210) hx hb dL_law_40 (by decide) (by have cq := c24; (rw [cq]; decide)) ?_
                                                        refine lv_aload_n hx hb dL_law_1210 rfl (lv_at hl 1 rfl) ?_
                                                        refine lv_aload_n hx hb dL_law_1211 rfl (lv_at hl 0 rfl) ?_
                                                        refine lv_iload hx hb dL_law_1212 (lv_at hl 4 rfl) ?_
                                                        refine lv_iconst (v := 1) hx hb dL_law_1214 (by decide) ?_
                                                        refine lv_iadd hx hb dL_law_1215 ?_
                                                        obtain ⟨g236, h⟩ := gdP_el h
                                                        refine va_sld hx hb hX hbl hbA hS (vB_in g236) dL_law_1216 ?_
                                                        refine lv_aload_n hx hb dL_law_1217 rfl (lv_at hl 0 rfl) ?_
                                                        refine lv_iload hx hb dL_law_1218 (lv_at hl 4 rfl) ?_
                                                        refine lv_iconst (v := 2) hx hb dL_law_1220 (by decide) ?_
                                                        refine lv_iadd hx hb dL_law_1221 ?_
                                                        obtain ⟨g237, h⟩ := gdP_el h
                                                        refine va_sld hx hb hX hbl hbA hS (vB_in g237) dL_law_1222 ?_
                                                        refine lv_aload_n hx hb dL_law_1223 rfl (lv_at hl 3 rfl) ?_
                                                        obtain ⟨r238, w239, hf, h⟩ := bzP_el h
                                                        refine c_onz (c_runSW (As := [.ref (adr (gB G) 1 0), .int (sc (u4 + 1).toNatClampNeg), .int (sc (u4 + 2).toNatClampNeg), .ref (adr (gB G) 63 0)]) (rest := []) hx hb hml hown hts hE hP hS (c_L_hedgeLeaves l G hF hst (sc (u4 + 1).toNatClampNeg) (sc (u4 + 2).toNatClampNeg) w r238 w239 hf) w5_67 miL_hedgeLeaves ⟨(Nat.le_of_ble_eq_true rfl), (Nat.le_of_ble_eq_true rfl)⟩ rfl hl.1 rfl (Nat.le_of_ble_eq_true rfl) dL_law_1224 (⟨by show _ ≤ 601024; (try dsimp only); omega, by show _ ≤ 7293034; (try dsimp only); omega⟩ : _ ∧ _)) hS (fun z9 hz9 H locs hP hS => ?_)
                                                        have h := h z9 hz9
                                                        obtain ⟨w240, e9⟩ : ∃ u : Mm, u = pZ w239 z9 := ⟨_, rfl⟩
                                                        rw [← e9] at h hP
                                                        skip
                                                        refine lv_istore (i := 5) (lv' := [(5, .int r238), (0, .ref a0), (1, .ref (adr (gB G) 1 0)), (2, .ref (adr (gB G) 32 0)), (3, .ref (adr (gB G) 63 0)), (4, .int u4)]) hx hb dL_law_1227 hl (by decide) rfl (fun ls hl => ?_)
                                                        refine lv_aload_n hx hb dL_law_1229 rfl (lv_at hl 3 rfl) ?_
                                                        refine lv_aload_n hx hb dL_law_1230 rfl (lv_at hl 1 rfl) ?_
                                                        refine lv_iload hx hb dL_law_1231 (lv_at hl 5 rfl) ?_
                                                        refine lv_iconst (v := 1) hx hb dL_law_1233 (by decide) ?_
                                                        refine lv_iadd hx hb dL_law_1234 ?_
                                                        obtain ⟨g241, h⟩ := gdP_el h
                                                        refine va_sld hx hb hX hbl hbA hS (vB_in g241) dL_law_1235 ?_
                                                        refine lv_aload_n hx hb dL_law_1236 rfl (lv_at hl 1 rfl) ?_
                                                        refine lv_iload hx hb dL_law_1237 (lv_at hl 5 rfl) ?_
                                                        refine lv_iconst (v := 2) hx hb dL_law_1239 (by decide) ?_
                                                        refine lv_iadd hx hb dL_law_1240 ?_
                                                        obtain ⟨g242, h⟩ := gdP_el h
                                                        refine va_sld hx hb hX hbl hbA hS (vB_in g242) dL_law_1241 ?_
                                                        obtain ⟨r243, w244, hf, h⟩ := bd1P_el h
                                                        refine c_oni (c_runV (b := adr (gB G) 32 0) (As := [.int (sc (u4 + 1).toNatClampNeg), .int (sc (u4 + 2).toNatClampNeg)]) (rest := []) hx hb hml hown hts hE hP hS (c_X15_hedgeLeaves l G hF (sc (u4 + 1).toNatClampNeg) (sc (u4 + 2).toNatClampNeg) w240 r243 w244 hf) (c_rec hE hP (hp_sh hP hF 0 32 (by decide)) (by decide) rfl rfl) w8_133 miX15_hedgeLeaves ⟨(Nat.le_of_ble_eq_true rfl), (Nat.le_of_ble_eq_true rfl)⟩ rfl hl.1 rfl (Nat.le_of_ble_eq_true rfl) dL_law_1242 (⟨by show _ ≤ 601024; (try dsimp only); omega, by show _ ≤ 7293034; (try dsimp only); omega⟩ : _ ∧ _)) hS (fun H locs hP hS => ?_)
                                                        refine lv_istore (i := 6) (lv' := [(6, .int r243), (5, .int r238), (0, .ref a0), (1, .ref (adr (gB G) 1 0)), (2, .ref (adr (gB G) 32 0)), (3, .ref (adr (gB G) 63 0)), (4, .int u4)]) hx hb dL_law_1245 hl (by decide) rfl (fun ls hl => ?_)
                                                        refine lv_aload_n hx hb dL_law_1247 rfl (lv_at hl 4 rfl) ?_
                                                        obtain ⟨r245, w246, hf, h⟩ := bd1P_el h
                                                        refine c_oni (c_runV (b := adr (gB G) 32 0) (As := []) (rest := []) hx hb hml hown hts hE hP hS (c_X15_thrown l G hF w244 r245 w246 hf) (c_rec hE hP (hp_sh hP hF 0 32 (by decide)) (by decide) rfl rfl) w6_191 miX15_thrown ⟨(Nat.le_of_ble_eq_true rfl), (Nat.le_of_ble_eq_true rfl)⟩ rfl hl.1 rfl (Nat.le_of_ble_eq_true rfl) dL_law_1248 (⟨by show _ ≤ 601024; (try dsimp only); omega, by show _ ≤ 7293034; (try dsimp only); omega⟩ : _ ∧ _)) hS (fun H locs hP hS => ?_)
                                                        refine lv_iload hx hb dL_law_1251 (lv_at hl 1 rfl) ?_
                                                        refine lv_icmp_eq (tgt := 1258) hx hb dL_law_1253 (by decide) (fun cc => ?_) (fun cc => ?_)
                                                        · have h := brP_el h cc
                                                          refine lv_iload hx hb dL_law_1258 (lv_at hl 1 rfl) ?_
                                                          refine lv_if_ne (tgt := 1275) hx hb dL_law_1260 (by decide) (fun cc => ?_) (fun cc => ?_)
                                                          · have h := brP_er h cc
                                                            refine lv_goto (tgt := 1904) hx hb dL_law_1275 (by decide) ?_
                                                            obtain ⟨x247, e⟩ : ∃ z : Int32, z = u4 + 6 := ⟨_, rfl⟩
                                                            have h := sqP_at h e
                                                            refine lv_iinc (v := x247) (lv' := [(4, .int x247), (6, .int r243), (5, .int r238), (0, .ref a0), (1, .ref (adr (gB G) 1 0)), (2, .ref (adr (gB G) 32 0)), (3, .ref (adr (gB G) 63 0))]) hx hb dL_law_1904 hl (k := 6) rfl (by rw [e]; rfl) (by decide) rfl (fun ls hl => ?_)
                                                            refine lv_goto (tgt := 23) hx hb dL_law_1907 (by decide) ?_
                                                            exact ih _ _ ⟨by (try dsimp only); omega, by (try dsimp only); omega⟩ x247 w246  h _ _ _ hP hS (lv_sub hl [3, 4, 5, 6, 0] rfl) k0
                                                          · have h := brP_el h cc
                                                            refine lv_aload_n hx hb dL_law_1263 rfl (lv_at hl 5 rfl) ?_
                                                            refine lv_iconst (v := 0) hx hb dL_law_1264 (by decide) ?_
                                                            obtain ⟨g248, h⟩ := gdP_el h
                                                            refine k_lald hx hb hE hP (hp_sh hP hF 0 63 (by decide)) (by decide) rfl g248 dL_law_1265 ?_
                                                            refine lv_iload hx hb dL_law_1266 (lv_at hl 0 rfl) ?_
                                                            refine lv_i2l hx hb dL_law_1268 rfl ?_
                                                            refine W.lcmp hx hb dL_law_1269 ?_
                                                            refine lv_if_eq (tgt := 1275) hx hb dL_law_1270 (by decide) (fun cc => ?_) (fun cc => ?_)
                                                            · have h := brP_el h cc
                                                              refine lv_goto (tgt := 1904) hx hb dL_law_1275 (by decide) ?_
                                                              obtain ⟨x249, e⟩ : ∃ z : Int32, z = u4 + 6 := ⟨_, rfl⟩
                                                              have h := sqP_at h e
                                                              refine lv_iinc (v := x249) (lv' := [(4, .int x249), (6, .int r243), (5, .int r238), (0, .ref a0), (1, .ref (adr (gB G) 1 0)), (2, .ref (adr (gB G) 32 0)), (3, .ref (adr (gB G) 63 0))]) hx hb dL_law_1904 hl (k := 6) rfl (by rw [e]; rfl) (by decide) rfl (fun ls hl => ?_)
                                                              refine lv_goto (tgt := 23) hx hb dL_law_1907 (by decide) ?_
                                                              exact ih _ _ ⟨by (try dsimp only); omega, by (try dsimp only); omega⟩ x249 w246  h _ _ _ hP hS (lv_sub hl [3, 4, 5, 6, 0] rfl) k0
                                                            · have h := brP_er h cc
                                                              refine lv_iconst (v := 0) hx hb dL_law_1273 (by decide) ?_
                                                              exact h.elim
                                                        · have h := brP_er h cc
                                                          refine lv_iconst (v := 0) hx hb dL_law_1256 (by decide) ?_
                                                          exact h.elim
                                                      · have h := brP_er h c24
                                                        by_cases c25 : ((sc u4.toNatClampNeg) &&& 63) = 25
                                                        · have h := brP_el h c25
                                                          refine k_tab (tgt := 1278) hx hb dL_law_40 (by decide) (by have cq := c25; (rw [cq]; decide)) ?_
                                                          refine lv_aload_n hx hb dL_law_1278 rfl (lv_at hl 1 rfl) ?_
                                                          refine lv_aload_n hx hb dL_law_1279 rfl (lv_at hl 0 rfl) ?_
                                                          refine lv_iload hx hb dL_law_1280 (lv_at hl 4 rfl) ?_
                                                          refine lv_iconst (v := 1) hx hb dL_law_1282 (by decide) ?_
                                                          refine lv_iadd hx hb dL_law_1283 ?_
                                                          obtain ⟨g250, h⟩ := gdP_el h
                                                          refine va_sld hx hb hX hbl hbA hS (vB_in g250) dL_law_1284 ?_
                                                          refine lv_aload_n hx hb dL_law_1285 rfl (lv_at hl 0 rfl) ?_
                                                          refine lv_iload hx hb dL_law_1286 (lv_at hl 4 rfl) ?_
                                                          refine lv_iconst (v := 2) hx hb dL_law_1288 (by decide) ?_
                                                          refine lv_iadd hx hb dL_law_1289 ?_
                                                          obtain ⟨g251, h⟩ := gdP_el h
                                                          refine va_sld hx hb hX hbl hbA hS (vB_in g251) dL_law_1290 ?_
                                                          refine lv_aload_n hx hb dL_law_1291 rfl (lv_at hl 3 rfl) ?_
                                                          obtain ⟨r252, w253, hf, h⟩ := bzP_el h
                                                          refine c_onz (c_runSW (As := [.ref (adr (gB G) 1 0), .int (sc (u4 + 1).toNatClampNeg), .int (sc (u4 + 2).toNatClampNeg), .ref (adr (gB G) 63 0)]) (rest := []) hx hb hml hown hts hE hP hS (c_L_roseLeaves l G hF hst (sc (u4 + 1).toNatClampNeg) (sc (u4 + 2).toNatClampNeg) w r252 w253 hf) w5_80 miL_roseLeaves ⟨(Nat.le_of_ble_eq_true rfl), (Nat.le_of_ble_eq_true rfl)⟩ rfl hl.1 rfl (Nat.le_of_ble_eq_true rfl) dL_law_1292 (⟨by show _ ≤ 601024; (try dsimp only); omega, by show _ ≤ 7293034; (try dsimp only); omega⟩ : _ ∧ _)) hS (fun z9 hz9 H locs hP hS => ?_)
                                                          have h := h z9 hz9
                                                          obtain ⟨w254, e9⟩ : ∃ u : Mm, u = pZ w253 z9 := ⟨_, rfl⟩
                                                          rw [← e9] at h hP
                                                          skip
                                                          refine lv_istore (i := 5) (lv' := [(5, .int r252), (0, .ref a0), (1, .ref (adr (gB G) 1 0)), (2, .ref (adr (gB G) 32 0)), (3, .ref (adr (gB G) 63 0)), (4, .int u4)]) hx hb dL_law_1295 hl (by decide) rfl (fun ls hl => ?_)
                                                          refine lv_aload_n hx hb dL_law_1297 rfl (lv_at hl 3 rfl) ?_
                                                          refine lv_aload_n hx hb dL_law_1298 rfl (lv_at hl 1 rfl) ?_
                                                          refine lv_iload hx hb dL_law_1299 (lv_at hl 5 rfl) ?_
                                                          refine lv_iconst (v := 1) hx hb dL_law_1301 (by decide) ?_
                                                          refine lv_iadd hx hb dL_law_1302 ?_
                                                          obtain ⟨g255, h⟩ := gdP_el h
                                                          refine va_sld hx hb hX hbl hbA hS (vB_in g255) dL_law_1303 ?_
                                                          refine lv_aload_n hx hb dL_law_1304 rfl (lv_at hl 1 rfl) ?_
                                                          refine lv_iload hx hb dL_law_1305 (lv_at hl 5 rfl) ?_
                                                          refine lv_iconst (v := 2) hx hb dL_law_1307 (by decide) ?_
                                                          refine lv_iadd hx hb dL_law_1308 ?_
                                                          obtain ⟨g256, h⟩ := gdP_el h
                                                          refine va_sld hx hb hX hbl hbA hS (vB_in g256) dL_law_1309 ?_
                                                          obtain ⟨r257, w258, hf, h⟩ := bd1P_el h
                                                          refine c_oni (c_runV (b := adr (gB G) 32 0) (As := [.int (sc (u4 + 1).toNatClampNeg), .int (sc (u4 + 2).toNatClampNeg)]) (rest := []) hx hb hml hown hts hE hP hS (c_X15_roseLeaves l G hF (sc (u4 + 1).toNatClampNeg) (sc (u4 + 2).toNatClampNeg) w254 r257 w258 hf) (c_rec hE hP (hp_sh hP hF 0 32 (by decide)) (by decide) rfl rfl) w8_145 miX15_roseLeaves ⟨(Nat.le_of_ble_eq_true rfl), (Nat.le_of_ble_eq_true rfl)⟩ rfl hl.1 rfl (Nat.le_of_ble_eq_true rfl) dL_law_1310 (⟨by show _ ≤ 601024; (try dsimp only); omega, by show _ ≤ 7293034; (try dsimp only); omega⟩ : _ ∧ _)) hS (fun H locs hP hS => ?_)
                                                          refine lv_istore (i := 6) (lv' := [(6, .int r257), (5, .int r252), (0, .ref a0), (1, .ref (adr (gB G) 1 0)), (2, .ref (adr (gB G) 32 0)), (3, .ref (adr (gB G) 63 0)), (4, .int u4)]) hx hb dL_law_1313 hl (by decide) rfl (fun ls hl => ?_)
                                                          refine lv_aload_n hx hb dL_law_1315 rfl (lv_at hl 4 rfl) ?_
                                                          obtain ⟨r259, w260, hf, h⟩ := bd1P_el h
                                                          refine c_oni (c_runV (b := adr (gB G) 32 0) (As := []) (rest := []) hx hb hml hown hts hE hP hS (c_X15_thrown l G hF w258 r259 w260 hf) (c_rec hE hP (hp_sh hP hF 0 32 (by decide)) (by decide) rfl rfl) w6_191 miX15_thrown ⟨(Nat.le_of_ble_eq_true rfl), (Nat.le_of_ble_eq_true rfl)⟩ rfl hl.1 rfl (Nat.le_of_ble_eq_true rfl) dL_law_1316 (⟨by show _ ≤ 601024; (try dsimp only); omega, by show _ ≤ 7293034; (try dsimp only); omega⟩ : _ ∧ _)) hS (fun H locs hP hS => ?_)
                                                          refine lv_iload hx hb dL_law_1319 (lv_at hl 1 rfl) ?_
                                                          refine lv_icmp_eq (tgt := 1326) hx hb dL_law_1321 (by decide) (fun cc => ?_) (fun cc => ?_)
                                                          · have h := brP_el h cc
                                                            refine lv_iload hx hb dL_law_1326 (lv_at hl 1 rfl) ?_
                                                            refine lv_if_ne (tgt := 1343) hx hb dL_law_1328 (by decide) (fun cc => ?_) (fun cc => ?_)
                                                            · have h := brP_er h cc
                                                              refine lv_goto (tgt := 1904) hx hb dL_law_1343 (by decide) ?_
                                                              obtain ⟨x261, e⟩ : ∃ z : Int32, z = u4 + 6 := ⟨_, rfl⟩
                                                              have h := sqP_at h e
                                                              refine lv_iinc (v := x261) (lv' := [(4, .int x261), (6, .int r257), (5, .int r252), (0, .ref a0), (1, .ref (adr (gB G) 1 0)), (2, .ref (adr (gB G) 32 0)), (3, .ref (adr (gB G) 63 0))]) hx hb dL_law_1904 hl (k := 6) rfl (by rw [e]; rfl) (by decide) rfl (fun ls hl => ?_)
                                                              refine lv_goto (tgt := 23) hx hb dL_law_1907 (by decide) ?_
                                                              exact ih _ _ ⟨by (try dsimp only); omega, by (try dsimp only); omega⟩ x261 w260  h _ _ _ hP hS (lv_sub hl [3, 4, 5, 6, 0] rfl) k0
                                                            · have h := brP_el h cc
                                                              refine lv_aload_n hx hb dL_law_1331 rfl (lv_at hl 5 rfl) ?_
                                                              refine lv_iconst (v := 0) hx hb dL_law_1332 (by decide) ?_
                                                              obtain ⟨g262, h⟩ := gdP_el h
                                                              refine k_lald hx hb hE hP (hp_sh hP hF 0 63 (by decide)) (by decide) rfl g262 dL_law_1333 ?_
                                                              refine lv_iload hx hb dL_law_1334 (lv_at hl 0 rfl) ?_
                                                              refine lv_i2l hx hb dL_law_1336 rfl ?_
                                                              refine W.lcmp hx hb dL_law_1337 ?_
                                                              refine lv_if_eq (tgt := 1343) hx hb dL_law_1338 (by decide) (fun cc => ?_) (fun cc => ?_)
                                                              · have h := brP_el h cc
                                                                refine lv_goto (tgt := 1904) hx hb dL_law_1343 (by decide) ?_
                                                                obtain ⟨x263, e⟩ : ∃ z : Int32, z = u4 + 6 := ⟨_, rfl⟩
                                                                have h := sqP_at h e
                                                                refine lv_iinc (v := x263) (lv' := [(4, .int x263), (6, .int r257), (5, .int r252), (0, .ref a0), (1, .ref (adr (gB G) 1 0)), (2, .ref (adr (gB G) 32 0)), (3, .ref (adr (gB G) 63 0))]) hx hb dL_law_1904 hl (k := 6) rfl (by rw [e]; rfl) (by decide) rfl (fun ls hl => ?_)
                                                                refine lv_goto (tgt := 23) hx hb dL_law_1907 (by decide) ?_
                                                                exact ih _ _ ⟨by (try dsimp only); omega, by (try dsimp only); omega⟩ x263 w260  h _ _ _ hP hS (lv_sub hl [3, 4, 5, 6, 0] rfl) k0
                                                              · have h := brP_er h cc
                                                                refine lv_iconst (v := 0) hx hb dL_law_1341 (by decide) ?_
                                                                exact h.elim
                                                          · have h := brP_er h cc
                                                            refine lv_iconst (v := 0) hx hb dL_law_1324 (by decide) ?_
                                                            exact h.elim
                                                        · have h := brP_er h c25
                                                          by_cases c26 : ((sc u4.toNatClampNeg) &&& 63) = 26
                                                          · have h := brP_el h c26
                                                            refine k_tab (tgt := 1346) hx hb dL_law_40 (by decide) (by have cq := c26; (rw [cq]; decide)) ?_
                                                            refine lv_aload_n hx hb dL_law_1346 rfl (lv_at hl 1 rfl) ?_
                                                            refine lv_aload_n hx hb dL_law_1347 rfl (lv_at hl 0 rfl) ?_
                                                            refine lv_iload hx hb dL_law_1348 (lv_at hl 4 rfl) ?_
                                                            refine lv_iconst (v := 1) hx hb dL_law_1350 (by decide) ?_
                                                            refine lv_iadd hx hb dL_law_1351 ?_
                                                            obtain ⟨g264, h⟩ := gdP_el h
                                                            refine va_sld hx hb hX hbl hbA hS (vB_in g264) dL_law_1352 ?_
                                                            refine lv_aload_n hx hb dL_law_1353 rfl (lv_at hl 0 rfl) ?_
                                                            refine lv_iload hx hb dL_law_1354 (lv_at hl 4 rfl) ?_
                                                            refine lv_iconst (v := 2) hx hb dL_law_1356 (by decide) ?_
                                                            refine lv_iadd hx hb dL_law_1357 ?_
                                                            obtain ⟨g265, h⟩ := gdP_el h
                                                            refine va_sld hx hb hX hbl hbA hS (vB_in g265) dL_law_1358 ?_
                                                            refine lv_aload_n hx hb dL_law_1359 rfl (lv_at hl 3 rfl) ?_
                                                            obtain ⟨r266, w267, hf, h⟩ := bzP_el h
                                                            refine c_onz (c_runSW (As := [.ref (adr (gB G) 1 0), .int (sc (u4 + 1).toNatClampNeg), .int (sc (u4 + 2).toNatClampNeg), .ref (adr (gB G) 63 0)]) (rest := []) hx hb hml hown hts hE hP hS (c_L_tell l G hF hst (sc (u4 + 1).toNatClampNeg) (sc (u4 + 2).toNatClampNeg) w r266 w267 hf) w5_87 miL_tell ⟨(Nat.le_of_ble_eq_true rfl), (Nat.le_of_ble_eq_true rfl)⟩ rfl hl.1 rfl (Nat.le_of_ble_eq_true rfl) dL_law_1360 (⟨by show _ ≤ 601024; (try dsimp only); omega, by show _ ≤ 7293034; (try dsimp only); omega⟩ : _ ∧ _)) hS (fun z9 hz9 H locs hP hS => ?_)
                                                            have h := h z9 hz9
                                                            obtain ⟨w268, e9⟩ : ∃ u : Mm, u = pZ w267 z9 := ⟨_, rfl⟩
                                                            rw [← e9] at h hP
                                                            skip
                                                            refine lv_istore (i := 5) (lv' := [(5, .int r266), (0, .ref a0), (1, .ref (adr (gB G) 1 0)), (2, .ref (adr (gB G) 32 0)), (3, .ref (adr (gB G) 63 0)), (4, .int u4)]) hx hb dL_law_1363 hl (by decide) rfl (fun ls hl => ?_)
                                                            refine lv_aload_n hx hb dL_law_1365 rfl (lv_at hl 3 rfl) ?_
                                                            refine lv_aload_n hx hb dL_law_1366 rfl (lv_at hl 1 rfl) ?_
                                                            refine lv_iload hx hb dL_law_1367 (lv_at hl 5 rfl) ?_
                                                            refine lv_iconst (v := 1) hx hb dL_law_1369 (by decide) ?_
                                                            refine lv_iadd hx hb dL_law_1370 ?_
                                                            obtain ⟨g269, h⟩ := gdP_el h
                                                            refine va_sld hx hb hX hbl hbA hS (vB_in g269) dL_law_1371 ?_
                                                            refine lv_aload_n hx hb dL_law_1372 rfl (lv_at hl 1 rfl) ?_
                                                            refine lv_iload hx hb dL_law_1373 (lv_at hl 5 rfl) ?_
                                                            refine lv_iconst (v := 2) hx hb dL_law_1375 (by decide) ?_
                                                            refine lv_iadd hx hb dL_law_1376 ?_
                                                            obtain ⟨g270, h⟩ := gdP_el h
                                                            refine va_sld hx hb hX hbl hbA hS (vB_in g270) dL_law_1377 ?_
                                                            obtain ⟨r271, w272, hf, h⟩ := bd1P_el h
                                                            refine c_oni (c_runV (b := adr (gB G) 32 0) (As := [.int (sc (u4 + 1).toNatClampNeg), .int (sc (u4 + 2).toNatClampNeg)]) (rest := []) hx hb hml hown hts hE hP hS (c_X15_tell l G hF (sc (u4 + 1).toNatClampNeg) (sc (u4 + 2).toNatClampNeg) w268 r271 w272 hf) (c_rec hE hP (hp_sh hP hF 0 32 (by decide)) (by decide) rfl rfl) w8_149 miX15_tell ⟨(Nat.le_of_ble_eq_true rfl), (Nat.le_of_ble_eq_true rfl)⟩ rfl hl.1 rfl (Nat.le_of_ble_eq_true rfl) dL_law_1378 (⟨by show _ ≤ 601024; (try dsimp only); omega, by show _ ≤ 7293034; (try dsimp only); omega⟩ : _ ∧ _)) hS (fun H locs hP hS => ?_)
                                                            refine lv_istore (i := 6) (lv' := [(6, .int r271), (5, .int r266), (0, .ref a0), (1, .ref (adr (gB G) 1 0)), (2, .ref (adr (gB G) 32 0)), (3, .ref (adr (gB G) 63 0)), (4, .int u4)]) hx hb dL_law_1381 hl (by decide) rfl (fun ls hl => ?_)
                                                            refine lv_aload_n hx hb dL_law_1383 rfl (lv_at hl 4 rfl) ?_
                                                            obtain ⟨r273, w274, hf, h⟩ := bd1P_el h
                                                            refine c_oni (c_runV (b := adr (gB G) 32 0) (As := []) (rest := []) hx hb hml hown hts hE hP hS (c_X15_thrown l G hF w272 r273 w274 hf) (c_rec hE hP (hp_sh hP hF 0 32 (by decide)) (by decide) rfl rfl) w6_191 miX15_thrown ⟨(Nat.le_of_ble_eq_true rfl), (Nat.le_of_ble_eq_true rfl)⟩ rfl hl.1 rfl (Nat.le_of_ble_eq_true rfl) dL_law_1384 (⟨by show _ ≤ 601024; (try dsimp only); omega, by show _ ≤ 7293034; (try dsimp only); omega⟩ : _ ∧ _)) hS (fun H locs hP hS => ?_)
                                                            refine lv_iload hx hb dL_law_1387 (lv_at hl 1 rfl) ?_
                                                            refine lv_icmp_eq (tgt := 1394) hx hb dL_law_1389 (by decide) (fun cc => ?_) (fun cc => ?_)
                                                            · have h := brP_el h cc
                                                              refine lv_iload hx hb dL_law_1394 (lv_at hl 1 rfl) ?_
                                                              refine lv_if_ne (tgt := 1411) hx hb dL_law_1396 (by decide) (fun cc => ?_) (fun cc => ?_)
                                                              · have h := brP_er h cc
                                                                refine lv_goto (tgt := 1904) hx hb dL_law_1411 (by decide) ?_
                                                                obtain ⟨x275, e⟩ : ∃ z : Int32, z = u4 + 6 := ⟨_, rfl⟩
                                                                have h := sqP_at h e
                                                                refine lv_iinc (v := x275) (lv' := [(4, .int x275), (6, .int r271), (5, .int r266), (0, .ref a0), (1, .ref (adr (gB G) 1 0)), (2, .ref (adr (gB G) 32 0)), (3, .ref (adr (gB G) 63 0))]) hx hb dL_law_1904 hl (k := 6) rfl (by rw [e]; rfl) (by decide) rfl (fun ls hl => ?_)
                                                                refine lv_goto (tgt := 23) hx hb dL_law_1907 (by decide) ?_
                                                                exact ih _ _ ⟨by (try dsimp only); omega, by (try dsimp only); omega⟩ x275 w274  h _ _ _ hP hS (lv_sub hl [3, 4, 5, 6, 0] rfl) k0
                                                              · have h := brP_el h cc
                                                                refine lv_aload_n hx hb dL_law_1399 rfl (lv_at hl 5 rfl) ?_
                                                                refine lv_iconst (v := 0) hx hb dL_law_1400 (by decide) ?_
                                                                obtain ⟨g276, h⟩ := gdP_el h
                                                                refine k_lald hx hb hE hP (hp_sh hP hF 0 63 (by decide)) (by decide) rfl g276 dL_law_1401 ?_
                                                                refine lv_iload hx hb dL_law_1402 (lv_at hl 0 rfl) ?_
                                                                refine lv_i2l hx hb dL_law_1404 rfl ?_
                                                                refine W.lcmp hx hb dL_law_1405 ?_
                                                                refine lv_if_eq (tgt := 1411) hx hb dL_law_1406 (by decide) (fun cc => ?_) (fun cc => ?_)
                                                                · have h := brP_el h cc
                                                                  refine lv_goto (tgt := 1904) hx hb dL_law_1411 (by decide) ?_
                                                                  obtain ⟨x277, e⟩ : ∃ z : Int32, z = u4 + 6 := ⟨_, rfl⟩
                                                                  have h := sqP_at h e
                                                                  refine lv_iinc (v := x277) (lv' := [(4, .int x277), (6, .int r271), (5, .int r266), (0, .ref a0), (1, .ref (adr (gB G) 1 0)), (2, .ref (adr (gB G) 32 0)), (3, .ref (adr (gB G) 63 0))]) hx hb dL_law_1904 hl (k := 6) rfl (by rw [e]; rfl) (by decide) rfl (fun ls hl => ?_)
                                                                  refine lv_goto (tgt := 23) hx hb dL_law_1907 (by decide) ?_
                                                                  exact ih _ _ ⟨by (try dsimp only); omega, by (try dsimp only); omega⟩ x277 w274  h _ _ _ hP hS (lv_sub hl [3, 4, 5, 6, 0] rfl) k0
                                                                · have h := brP_er h cc
                                                                  refine lv_iconst (v := 0) hx hb dL_law_1409 (by decide) ?_
                                                                  exact h.elim
                                                            · have h := brP_er h cc
                                                              refine lv_iconst (v := 0) hx hb dL_law_1392 (by decide) ?_
                                                              exact h.elim
                                                          · have h := brP_er h c26
                                                            by_cases c27 : ((sc u4.toNatClampNeg) &&& 63) = 27
                                                            · have h := brP_el h c27
                                                              refine k_tab (tgt := 1414) hx hb dL_law_40 (by decide) (by have cq := c27; (rw [cq]; decide)) ?_
                                                              refine lv_aload_n hx hb dL_law_1414 rfl (lv_at hl 1 rfl) ?_
                                                              refine lv_aload_n hx hb dL_law_1415 rfl (lv_at hl 0 rfl) ?_
                                                              refine lv_iload hx hb dL_law_1416 (lv_at hl 4 rfl) ?_
                                                              refine lv_iconst (v := 1) hx hb dL_law_1418 (by decide) ?_
                                                              refine lv_iadd hx hb dL_law_1419 ?_
                                                              obtain ⟨g278, h⟩ := gdP_el h
                                                              refine va_sld hx hb hX hbl hbA hS (vB_in g278) dL_law_1420 ?_
                                                              refine lv_aload_n hx hb dL_law_1421 rfl (lv_at hl 3 rfl) ?_
                                                              obtain ⟨r279, w280, hf, h⟩ := bzP_el h
                                                              refine c_onz (c_runSW (As := [.ref (adr (gB G) 1 0), .int (sc (u4 + 1).toNatClampNeg), .ref (adr (gB G) 63 0)]) (rest := []) hx hb hml hown hts hE hP hS (c_L_passDays l G hF hst (sc (u4 + 1).toNatClampNeg) w r279 w280 hf) w5_94 miL_passDays ⟨(Nat.le_of_ble_eq_true rfl), (Nat.le_of_ble_eq_true rfl)⟩ rfl hl.1 rfl (Nat.le_of_ble_eq_true rfl) dL_law_1422 (⟨by show _ ≤ 601024; (try dsimp only); omega, by show _ ≤ 7293034; (try dsimp only); omega⟩ : _ ∧ _)) hS (fun z9 hz9 H locs hP hS => ?_)
                                                              have h := h z9 hz9
                                                              obtain ⟨w281, e9⟩ : ∃ u : Mm, u = pZ w280 z9 := ⟨_, rfl⟩
                                                              rw [← e9] at h hP
                                                              skip
                                                              refine lv_istore (i := 5) (lv' := [(5, .int r279), (0, .ref a0), (1, .ref (adr (gB G) 1 0)), (2, .ref (adr (gB G) 32 0)), (3, .ref (adr (gB G) 63 0)), (4, .int u4)]) hx hb dL_law_1425 hl (by decide) rfl (fun ls hl => ?_)
                                                              refine lv_aload_n hx hb dL_law_1427 rfl (lv_at hl 3 rfl) ?_
                                                              refine lv_aload_n hx hb dL_law_1428 rfl (lv_at hl 1 rfl) ?_
                                                              refine lv_iload hx hb dL_law_1429 (lv_at hl 5 rfl) ?_
                                                              refine lv_iconst (v := 1) hx hb dL_law_1431 (by decide) ?_
                                                              refine lv_iadd hx hb dL_law_1432 ?_
                                                              obtain ⟨g282, h⟩ := gdP_el h
                                                              refine va_sld hx hb hX hbl hbA hS (vB_in g282) dL_law_1433 ?_
                                                              obtain ⟨r283, w284, hf, h⟩ := bd1P_el h
                                                              refine c_oni (c_runV (b := adr (gB G) 32 0) (As := [.int (sc (u4 + 1).toNatClampNeg)]) (rest := []) hx hb hml hown hts hE hP hS (c_X15_passDays l G hF (sc (u4 + 1).toNatClampNeg) w281 r283 w284 hf) (c_rec hE hP (hp_sh hP hF 0 32 (by decide)) (by decide) rfl rfl) w8_170 miX15_passDays ⟨(Nat.le_of_ble_eq_true rfl), (Nat.le_of_ble_eq_true rfl)⟩ rfl hl.1 rfl (Nat.le_of_ble_eq_true rfl) dL_law_1434 (⟨by show _ ≤ 601024; (try dsimp only); omega, by show _ ≤ 7293034; (try dsimp only); omega⟩ : _ ∧ _)) hS (fun H locs hP hS => ?_)
                                                              refine lv_istore (i := 6) (lv' := [(6, .int r283), (5, .int r279), (0, .ref a0), (1, .ref (adr (gB G) 1 0)), (2, .ref (adr (gB G) 32 0)), (3, .ref (adr (gB G) 63 0)), (4, .int u4)]) hx hb dL_law_1437 hl (by decide) rfl (fun ls hl => ?_)
                                                              refine lv_aload_n hx hb dL_law_1439 rfl (lv_at hl 4 rfl) ?_
                                                              obtain ⟨r285, w286, hf, h⟩ := bd1P_el h
                                                              refine c_oni (c_runV (b := adr (gB G) 32 0) (As := []) (rest := []) hx hb hml hown hts hE hP hS (c_X15_thrown l G hF w284 r285 w286 hf) (c_rec hE hP (hp_sh hP hF 0 32 (by decide)) (by decide) rfl rfl) w6_191 miX15_thrown ⟨(Nat.le_of_ble_eq_true rfl), (Nat.le_of_ble_eq_true rfl)⟩ rfl hl.1 rfl (Nat.le_of_ble_eq_true rfl) dL_law_1440 (⟨by show _ ≤ 601024; (try dsimp only); omega, by show _ ≤ 7293034; (try dsimp only); omega⟩ : _ ∧ _)) hS (fun H locs hP hS => ?_)
                                                              refine lv_iload hx hb dL_law_1443 (lv_at hl 1 rfl) ?_
                                                              refine lv_icmp_eq (tgt := 1450) hx hb dL_law_1445 (by decide) (fun cc => ?_) (fun cc => ?_)
                                                              · have h := brP_el h cc
                                                                refine lv_iload hx hb dL_law_1450 (lv_at hl 1 rfl) ?_
                                                                refine lv_if_ne (tgt := 1467) hx hb dL_law_1452 (by decide) (fun cc => ?_) (fun cc => ?_)
                                                                · have h := brP_er h cc
                                                                  refine lv_goto (tgt := 1904) hx hb dL_law_1467 (by decide) ?_
                                                                  obtain ⟨x287, e⟩ : ∃ z : Int32, z = u4 + 6 := ⟨_, rfl⟩
                                                                  have h := sqP_at h e
                                                                  refine lv_iinc (v := x287) (lv' := [(4, .int x287), (6, .int r283), (5, .int r279), (0, .ref a0), (1, .ref (adr (gB G) 1 0)), (2, .ref (adr (gB G) 32 0)), (3, .ref (adr (gB G) 63 0))]) hx hb dL_law_1904 hl (k := 6) rfl (by rw [e]; rfl) (by decide) rfl (fun ls hl => ?_)
                                                                  refine lv_goto (tgt := 23) hx hb dL_law_1907 (by decide) ?_
                                                                  exact ih _ _ ⟨by (try dsimp only); omega, by (try dsimp only); omega⟩ x287 w286  h _ _ _ hP hS (lv_sub hl [3, 4, 5, 6, 0] rfl) k0
                                                                · have h := brP_el h cc
                                                                  refine lv_aload_n hx hb dL_law_1455 rfl (lv_at hl 5 rfl) ?_
                                                                  refine lv_iconst (v := 0) hx hb dL_law_1456 (by decide) ?_
                                                                  obtain ⟨g288, h⟩ := gdP_el h
                                                                  refine k_lald hx hb hE hP (hp_sh hP hF 0 63 (by decide)) (by decide) rfl g288 dL_law_1457 ?_
                                                                  refine lv_iload hx hb dL_law_1458 (lv_at hl 0 rfl) ?_
                                                                  refine lv_i2l hx hb dL_law_1460 rfl ?_
                                                                  refine W.lcmp hx hb dL_law_1461 ?_
                                                                  refine lv_if_eq (tgt := 1467) hx hb dL_law_1462 (by decide) (fun cc => ?_) (fun cc => ?_)
                                                                  · have h := brP_el h cc
                                                                    refine lv_goto (tgt := 1904) hx hb dL_law_1467 (by decide) ?_
                                                                    obtain ⟨x289, e⟩ : ∃ z : Int32, z = u4 + 6 := ⟨_, rfl⟩
                                                                    have h := sqP_at h e
                                                                    refine lv_iinc (v := x289) (lv' := [(4, .int x289), (6, .int r283), (5, .int r279), (0, .ref a0), (1, .ref (adr (gB G) 1 0)), (2, .ref (adr (gB G) 32 0)), (3, .ref (adr (gB G) 63 0))]) hx hb dL_law_1904 hl (k := 6) rfl (by rw [e]; rfl) (by decide) rfl (fun ls hl => ?_)
                                                                    refine lv_goto (tgt := 23) hx hb dL_law_1907 (by decide) ?_
                                                                    exact ih _ _ ⟨by (try dsimp only); omega, by (try dsimp only); omega⟩ x289 w286  h _ _ _ hP hS (lv_sub hl [3, 4, 5, 6, 0] rfl) k0
                                                                  · have h := brP_er h cc
                                                                    refine lv_iconst (v := 0) hx hb dL_law_1465 (by decide) ?_
                                                                    exact h.elim
                                                              · have h := brP_er h cc
                                                                refine lv_iconst (v := 0) hx hb dL_law_1448 (by decide) ?_
                                                                exact h.elim
                                                            · have h := brP_er h c27
                                                              by_cases c28 : ((sc u4.toNatClampNeg) &&& 63) = 28
                                                              · have h := brP_el h c28
                                                                refine k_tab (tgt := 1470) hx hb dL_law_40 (by decide) (by have cq := c28; (rw [cq]; decide)) ?_
                                                                refine lv_aload_n hx hb dL_law_1470 rfl (lv_at hl 1 rfl) ?_
                                                                refine lv_aload_n hx hb dL_law_1471 rfl (lv_at hl 0 rfl) ?_
                                                                refine lv_iload hx hb dL_law_1472 (lv_at hl 4 rfl) ?_
                                                                refine lv_iconst (v := 1) hx hb dL_law_1474 (by decide) ?_
                                                                refine lv_iadd hx hb dL_law_1475 ?_
                                                                obtain ⟨g290, h⟩ := gdP_el h
                                                                refine va_sld hx hb hX hbl hbA hS (vB_in g290) dL_law_1476 ?_
                                                                refine lv_aload_n hx hb dL_law_1477 rfl (lv_at hl 0 rfl) ?_
                                                                refine lv_iload hx hb dL_law_1478 (lv_at hl 4 rfl) ?_
                                                                refine lv_iconst (v := 2) hx hb dL_law_1480 (by decide) ?_
                                                                refine lv_iadd hx hb dL_law_1481 ?_
                                                                obtain ⟨g291, h⟩ := gdP_el h
                                                                refine va_sld hx hb hX hbl hbA hS (vB_in g291) dL_law_1482 ?_
                                                                refine lv_aload_n hx hb dL_law_1483 rfl (lv_at hl 3 rfl) ?_
                                                                obtain ⟨r292, w293, hf, h⟩ := bzP_el h
                                                                refine c_onz (c_runSW (As := [.ref (adr (gB G) 1 0), .int (sc (u4 + 1).toNatClampNeg), .int (sc (u4 + 2).toNatClampNeg), .ref (adr (gB G) 63 0)]) (rest := []) hx hb hml hown hts hE hP hS (c_L_reach l G hF hst (sc (u4 + 1).toNatClampNeg) (sc (u4 + 2).toNatClampNeg) w r292 w293 hf) w5_163 miL_reach ⟨(Nat.le_of_ble_eq_true rfl), (Nat.le_of_ble_eq_true rfl)⟩ rfl hl.1 rfl (Nat.le_of_ble_eq_true rfl) dL_law_1484 (⟨by show _ ≤ 601024; (try dsimp only); omega, by show _ ≤ 7293034; (try dsimp only); omega⟩ : _ ∧ _)) hS (fun z9 hz9 H locs hP hS => ?_)
                                                                have h := h z9 hz9
                                                                obtain ⟨w294, e9⟩ : ∃ u : Mm, u = pZ w293 z9 := ⟨_, rfl⟩
                                                                rw [← e9] at h hP
                                                                skip
                                                                refine lv_istore (i := 5) (lv' := [(5, .int r292), (0, .ref a0), (1, .ref (adr (gB G) 1 0)), (2, .ref (adr (gB G) 32 0)), (3, .ref (adr (gB G) 63 0)), (4, .int u4)]) hx hb dL_law_1487 hl (by decide) rfl (fun ls hl => ?_)
                                                                refine lv_aload_n hx hb dL_law_1489 rfl (lv_at hl 3 rfl) ?_
                                                                refine lv_aload_n hx hb dL_law_1490 rfl (lv_at hl 1 rfl) ?_
                                                                refine lv_iload hx hb dL_law_1491 (lv_at hl 5 rfl) ?_
                                                                refine lv_iconst (v := 1) hx hb dL_law_1493 (by decide) ?_
                                                                refine lv_iadd hx hb dL_law_1494 ?_
                                                                obtain ⟨g295, h⟩ := gdP_el h
                                                                refine va_sld hx hb hX hbl hbA hS (vB_in g295) dL_law_1495 ?_
                                                                refine lv_aload_n hx hb dL_law_1496 rfl (lv_at hl 1 rfl) ?_
                                                                refine lv_iload hx hb dL_law_1497 (lv_at hl 5 rfl) ?_
                                                                refine lv_iconst (v := 2) hx hb dL_law_1499 (by decide) ?_
                                                                refine lv_iadd hx hb dL_law_1500 ?_
                                                                obtain ⟨g296, h⟩ := gdP_el h
                                                                refine va_sld hx hb hX hbl hbA hS (vB_in g296) dL_law_1501 ?_
                                                                obtain ⟨r297, w298, hf, h⟩ := bd1P_el h
                                                                refine c_oni (c_runV (b := adr (gB G) 32 0) (As := [.int (sc (u4 + 1).toNatClampNeg), .int (sc (u4 + 2).toNatClampNeg)]) (rest := []) hx hb hml hown hts hE hP hS (c_X15_reach l G hF (sc (u4 + 1).toNatClampNeg) (sc (u4 + 2).toNatClampNeg) w294 r297 w298 hf) (c_rec hE hP (hp_sh hP hF 0 32 (by decide)) (by decide) rfl rfl) w8_199 miX15_reach ⟨(Nat.le_of_ble_eq_true rfl), (Nat.le_of_ble_eq_true rfl)⟩ rfl hl.1 rfl (Nat.le_of_ble_eq_true rfl) dL_law_1502 (⟨by show _ ≤ 601024; (try dsimp only); omega, by show _ ≤ 7293034; (try dsimp only); omega⟩ : _ ∧ _)) hS (fun H locs hP hS => ?_)
                                                                refine lv_istore (i := 6) (lv' := [(6, .int r297), (5, .int r292), (0, .ref a0), (1, .ref (adr (gB G) 1 0)), (2, .ref (adr (gB G) 32 0)), (3, .ref (adr (gB G) 63 0)), (4, .int u4)]) hx hb dL_law_1505 hl (by decide) rfl (fun ls hl => ?_)
                                                                refine lv_aload_n hx hb dL_law_1507 rfl (lv_at hl 4 rfl) ?_
                                                                obtain ⟨r299, w300, hf, h⟩ := bd1P_el h
                                                                refine c_oni (c_runV (b := adr (gB G) 32 0) (As := []) (rest := []) hx hb hml hown hts hE hP hS (c_X15_thrown l G hF w298 r299 w300 hf) (c_rec hE hP (hp_sh hP hF 0 32 (by decide)) (by decide) rfl rfl) w6_191 miX15_thrown ⟨(Nat.le_of_ble_eq_true rfl), (Nat.le_of_ble_eq_true rfl)⟩ rfl hl.1 rfl (Nat.le_of_ble_eq_true rfl) dL_law_1508 (⟨by show _ ≤ 601024; (try dsimp only); omega, by show _ ≤ 7293034; (try dsimp only); omega⟩ : _ ∧ _)) hS (fun H locs hP hS => ?_)
                                                                refine lv_iload hx hb dL_law_1511 (lv_at hl 1 rfl) ?_
                                                                refine lv_icmp_eq (tgt := 1518) hx hb dL_law_1513 (by decide) (fun cc => ?_) (fun cc => ?_)
                                                                · have h := brP_el h cc
                                                                  refine lv_iload hx hb dL_law_1518 (lv_at hl 1 rfl) ?_
                                                                  refine lv_if_ne (tgt := 1535) hx hb dL_law_1520 (by decide) (fun cc => ?_) (fun cc => ?_)
                                                                  · have h := brP_er h cc
                                                                    refine lv_goto (tgt := 1904) hx hb dL_law_1535 (by decide) ?_
                                                                    obtain ⟨x301, e⟩ : ∃ z : Int32, z = u4 + 6 := ⟨_, rfl⟩
                                                                    have h := sqP_at h e
                                                                    refine lv_iinc (v := x301) (lv' := [(4, .int x301), (6, .int r297), (5, .int r292), (0, .ref a0), (1, .ref (adr (gB G) 1 0)), (2, .ref (adr (gB G) 32 0)), (3, .ref (adr (gB G) 63 0))]) hx hb dL_law_1904 hl (k := 6) rfl (by rw [e]; rfl) (by decide) rfl (fun ls hl => ?_)
                                                                    refine lv_goto (tgt := 23) hx hb dL_law_1907 (by decide) ?_
                                                                    exact ih _ _ ⟨by (try dsimp only); omega, by (try dsimp only); omega⟩ x301 w300  h _ _ _ hP hS (lv_sub hl [3, 4, 5, 6, 0] rfl) k0
                                                                  · have h := brP_el h cc
                                                                    refine lv_aload_n hx hb dL_law_1523 rfl (lv_at hl 5 rfl) ?_
                                                                    refine lv_iconst (v := 0) hx hb dL_law_1524 (by decide) ?_
                                                                    obtain ⟨g302, h⟩ := gdP_el h
                                                                    refine k_lald hx hb hE hP (hp_sh hP hF 0 63 (by decide)) (by decide) rfl g302 dL_law_1525 ?_
                                                                    refine lv_iload hx hb dL_law_1526 (lv_at hl 0 rfl) ?_
                                                                    refine lv_i2l hx hb dL_law_1528 rfl ?_
                                                                    refine W.lcmp hx hb dL_law_1529 ?_
                                                                    refine lv_if_eq (tgt := 1535) hx hb dL_law_1530 (by decide) (fun cc => ?_) (fun cc => ?_)
                                                                    · have h := brP_el h cc
                                                                      refine lv_goto (tgt := 1904) hx hb dL_law_1535 (by decide) ?_
                                                                      obtain ⟨x303, e⟩ : ∃ z : Int32, z = u4 + 6 := ⟨_, rfl⟩
                                                                      have h := sqP_at h e
                                                                      refine lv_iinc (v := x303) (lv' := [(4, .int x303), (6, .int r297), (5, .int r292), (0, .ref a0), (1, .ref (adr (gB G) 1 0)), (2, .ref (adr (gB G) 32 0)), (3, .ref (adr (gB G) 63 0))]) hx hb dL_law_1904 hl (k := 6) rfl (by rw [e]; rfl) (by decide) rfl (fun ls hl => ?_)
                                                                      refine lv_goto (tgt := 23) hx hb dL_law_1907 (by decide) ?_
                                                                      exact ih _ _ ⟨by (try dsimp only); omega, by (try dsimp only); omega⟩ x303 w300  h _ _ _ hP hS (lv_sub hl [3, 4, 5, 6, 0] rfl) k0
                                                                    · have h := brP_er h cc
                                                                      refine lv_iconst (v := 0) hx hb dL_law_1533 (by decide) ?_
                                                                      exact h.elim
                                                                · have h := brP_er h cc
                                                                  refine lv_iconst (v := 0) hx hb dL_law_1516 (by decide) ?_
                                                                  exact h.elim
                                                              · have h := brP_er h c28
                                                                by_cases c29 : ((sc u4.toNatClampNeg) &&& 63) = 29
                                                                · have h := brP_el h c29
                                                                  refine k_tab (tgt := 1538) hx hb dL_law_40 (by decide) (by have cq := c29; (rw [cq]; decide)) ?_
                                                                  refine lv_aload_n hx hb dL_law_1538 rfl (lv_at hl 1 rfl) ?_
                                                                  refine lv_aload_n hx hb dL_law_1539 rfl (lv_at hl 0 rfl) ?_
                                                                  refine lv_iload hx hb dL_law_1540 (lv_at hl 4 rfl) ?_
                                                                  refine lv_iconst (v := 1) hx hb dL_law_1542 (by decide) ?_
                                                                  refine lv_iadd hx hb dL_law_1543 ?_
                                                                  obtain ⟨g304, h⟩ := gdP_el h
                                                                  refine va_sld hx hb hX hbl hbA hS (vB_in g304) dL_law_1544 ?_
                                                                  refine lv_aload_n hx hb dL_law_1545 rfl (lv_at hl 0 rfl) ?_
                                                                  refine lv_iload hx hb dL_law_1546 (lv_at hl 4 rfl) ?_
                                                                  refine lv_iconst (v := 2) hx hb dL_law_1548 (by decide) ?_
                                                                  refine lv_iadd hx hb dL_law_1549 ?_
                                                                  obtain ⟨g305, h⟩ := gdP_el h
                                                                  refine va_sld hx hb hX hbl hbA hS (vB_in g305) dL_law_1550 ?_
                                                                  refine lv_aload_n hx hb dL_law_1551 rfl (lv_at hl 3 rfl) ?_
                                                                  obtain ⟨r306, w307, hf, h⟩ := bzP_el h
                                                                  refine c_onz (c_runSW (As := [.ref (adr (gB G) 1 0), .int (sc (u4 + 1).toNatClampNeg), .int (sc (u4 + 2).toNatClampNeg), .ref (adr (gB G) 63 0)]) (rest := []) hx hb hml hown hts hE hP hS (c_L_loudnessAt l G hF hst (sc (u4 + 1).toNatClampNeg) (sc (u4 + 2).toNatClampNeg) w r306 w307 hf) w5_174 miL_loudnessAt ⟨(Nat.le_of_ble_eq_true rfl), (Nat.le_of_ble_eq_true rfl)⟩ rfl hl.1 rfl (Nat.le_of_ble_eq_true rfl) dL_law_1552 (⟨by show _ ≤ 601024; (try dsimp only); omega, by show _ ≤ 7293034; (try dsimp only); omega⟩ : _ ∧ _)) hS (fun z9 hz9 H locs hP hS => ?_)
                                                                  have h := h z9 hz9
                                                                  obtain ⟨w308, e9⟩ : ∃ u : Mm, u = pZ w307 z9 := ⟨_, rfl⟩
                                                                  rw [← e9] at h hP
                                                                  skip
                                                                  refine lv_istore (i := 5) (lv' := [(5, .int r306), (0, .ref a0), (1, .ref (adr (gB G) 1 0)), (2, .ref (adr (gB G) 32 0)), (3, .ref (adr (gB G) 63 0)), (4, .int u4)]) hx hb dL_law_1555 hl (by decide) rfl (fun ls hl => ?_)
                                                                  refine lv_aload_n hx hb dL_law_1557 rfl (lv_at hl 3 rfl) ?_
                                                                  refine lv_aload_n hx hb dL_law_1558 rfl (lv_at hl 1 rfl) ?_
                                                                  refine lv_iload hx hb dL_law_1559 (lv_at hl 5 rfl) ?_
                                                                  refine lv_iconst (v := 1) hx hb dL_law_1561 (by decide) ?_
                                                                  refine lv_iadd hx hb dL_law_1562 ?_
                                                                  obtain ⟨g309, h⟩ := gdP_el h
                                                                  refine va_sld hx hb hX hbl hbA hS (vB_in g309) dL_law_1563 ?_
                                                                  refine lv_aload_n hx hb dL_law_1564 rfl (lv_at hl 1 rfl) ?_
                                                                  refine lv_iload hx hb dL_law_1565 (lv_at hl 5 rfl) ?_
                                                                  refine lv_iconst (v := 2) hx hb dL_law_1567 (by decide) ?_
                                                                  refine lv_iadd hx hb dL_law_1568 ?_
                                                                  obtain ⟨g310, h⟩ := gdP_el h
                                                                  refine va_sld hx hb hX hbl hbA hS (vB_in g310) dL_law_1569 ?_
                                                                  obtain ⟨r311, w312, hf, h⟩ := bd1P_el h
                                                                  refine c_oni (c_runV (b := adr (gB G) 32 0) (As := [.int (sc (u4 + 1).toNatClampNeg), .int (sc (u4 + 2).toNatClampNeg)]) (rest := []) hx hb hml hown hts hE hP hS (c_X15_loudnessAt l G hF (sc (u4 + 1).toNatClampNeg) (sc (u4 + 2).toNatClampNeg) w308 r311 w312 hf) (c_rec hE hP (hp_sh hP hF 0 32 (by decide)) (by decide) rfl rfl) w8_208 miX15_loudnessAt ⟨(Nat.le_of_ble_eq_true rfl), (Nat.le_of_ble_eq_true rfl)⟩ rfl hl.1 rfl (Nat.le_of_ble_eq_true rfl) dL_law_1570 (⟨by show _ ≤ 601024; (try dsimp only); omega, by show _ ≤ 7293034; (try dsimp only); omega⟩ : _ ∧ _)) hS (fun H locs hP hS => ?_)
                                                                  refine lv_istore (i := 6) (lv' := [(6, .int r311), (5, .int r306), (0, .ref a0), (1, .ref (adr (gB G) 1 0)), (2, .ref (adr (gB G) 32 0)), (3, .ref (adr (gB G) 63 0)), (4, .int u4)]) hx hb dL_law_1573 hl (by decide) rfl (fun ls hl => ?_)
                                                                  refine lv_aload_n hx hb dL_law_1575 rfl (lv_at hl 4 rfl) ?_
                                                                  obtain ⟨r313, w314, hf, h⟩ := bd1P_el h
                                                                  refine c_oni (c_runV (b := adr (gB G) 32 0) (As := []) (rest := []) hx hb hml hown hts hE hP hS (c_X15_thrown l G hF w312 r313 w314 hf) (c_rec hE hP (hp_sh hP hF 0 32 (by decide)) (by decide) rfl rfl) w6_191 miX15_thrown ⟨(Nat.le_of_ble_eq_true rfl), (Nat.le_of_ble_eq_true rfl)⟩ rfl hl.1 rfl (Nat.le_of_ble_eq_true rfl) dL_law_1576 (⟨by show _ ≤ 601024; (try dsimp only); omega, by show _ ≤ 7293034; (try dsimp only); omega⟩ : _ ∧ _)) hS (fun H locs hP hS => ?_)
                                                                  refine lv_iload hx hb dL_law_1579 (lv_at hl 1 rfl) ?_
                                                                  refine lv_icmp_eq (tgt := 1586) hx hb dL_law_1581 (by decide) (fun cc => ?_) (fun cc => ?_)
                                                                  · have h := brP_el h cc
                                                                    refine lv_iload hx hb dL_law_1586 (lv_at hl 1 rfl) ?_
                                                                    refine lv_if_ne (tgt := 1603) hx hb dL_law_1588 (by decide) (fun cc => ?_) (fun cc => ?_)
                                                                    · have h := brP_er h cc
                                                                      refine lv_goto (tgt := 1904) hx hb dL_law_1603 (by decide) ?_
                                                                      obtain ⟨x315, e⟩ : ∃ z : Int32, z = u4 + 6 := ⟨_, rfl⟩
                                                                      have h := sqP_at h e
                                                                      refine lv_iinc (v := x315) (lv' := [(4, .int x315), (6, .int r311), (5, .int r306), (0, .ref a0), (1, .ref (adr (gB G) 1 0)), (2, .ref (adr (gB G) 32 0)), (3, .ref (adr (gB G) 63 0))]) hx hb dL_law_1904 hl (k := 6) rfl (by rw [e]; rfl) (by decide) rfl (fun ls hl => ?_)
                                                                      refine lv_goto (tgt := 23) hx hb dL_law_1907 (by decide) ?_
                                                                      exact ih _ _ ⟨by (try dsimp only); omega, by (try dsimp only); omega⟩ x315 w314  h _ _ _ hP hS (lv_sub hl [3, 4, 5, 6, 0] rfl) k0
                                                                    · have h := brP_el h cc
                                                                      refine lv_aload_n hx hb dL_law_1591 rfl (lv_at hl 5 rfl) ?_
                                                                      refine lv_iconst (v := 0) hx hb dL_law_1592 (by decide) ?_
                                                                      obtain ⟨g316, h⟩ := gdP_el h
                                                                      refine k_lald hx hb hE hP (hp_sh hP hF 0 63 (by decide)) (by decide) rfl g316 dL_law_1593 ?_
                                                                      refine lv_iload hx hb dL_law_1594 (lv_at hl 0 rfl) ?_
                                                                      refine lv_i2l hx hb dL_law_1596 rfl ?_
                                                                      refine W.lcmp hx hb dL_law_1597 ?_
                                                                      refine lv_if_eq (tgt := 1603) hx hb dL_law_1598 (by decide) (fun cc => ?_) (fun cc => ?_)
                                                                      · have h := brP_el h cc
                                                                        refine lv_goto (tgt := 1904) hx hb dL_law_1603 (by decide) ?_
                                                                        obtain ⟨x317, e⟩ : ∃ z : Int32, z = u4 + 6 := ⟨_, rfl⟩
                                                                        have h := sqP_at h e
                                                                        refine lv_iinc (v := x317) (lv' := [(4, .int x317), (6, .int r311), (5, .int r306), (0, .ref a0), (1, .ref (adr (gB G) 1 0)), (2, .ref (adr (gB G) 32 0)), (3, .ref (adr (gB G) 63 0))]) hx hb dL_law_1904 hl (k := 6) rfl (by rw [e]; rfl) (by decide) rfl (fun ls hl => ?_)
                                                                        refine lv_goto (tgt := 23) hx hb dL_law_1907 (by decide) ?_
                                                                        exact ih _ _ ⟨by (try dsimp only); omega, by (try dsimp only); omega⟩ x317 w314  h _ _ _ hP hS (lv_sub hl [3, 4, 5, 6, 0] rfl) k0
                                                                      · have h := brP_er h cc
                                                                        refine lv_iconst (v := 0) hx hb dL_law_1601 (by decide) ?_
                                                                        exact h.elim
                                                                  · have h := brP_er h cc
                                                                    refine lv_iconst (v := 0) hx hb dL_law_1584 (by decide) ?_
                                                                    exact h.elim
                                                                · have h := brP_er h c29
                                                                  by_cases c30 : ((sc u4.toNatClampNeg) &&& 63) = 30
                                                                  · have h := brP_el h c30
                                                                    refine k_tab (tgt := 1606) hx hb dL_law_40 (by decide) (by have cq := c30; (rw [cq]; decide)) ?_
                                                                    refine lv_aload_n hx hb dL_law_1606 rfl (lv_at hl 1 rfl) ?_
                                                                    refine lv_aload_n hx hb dL_law_1607 rfl (lv_at hl 0 rfl) ?_
                                                                    refine lv_iload hx hb dL_law_1608 (lv_at hl 4 rfl) ?_
                                                                    refine lv_iconst (v := 1) hx hb dL_law_1610 (by decide) ?_
                                                                    refine lv_iadd hx hb dL_law_1611 ?_
                                                                    obtain ⟨g318, h⟩ := gdP_el h
                                                                    refine va_sld hx hb hX hbl hbA hS (vB_in g318) dL_law_1612 ?_
                                                                    refine lv_aload_n hx hb dL_law_1613 rfl (lv_at hl 3 rfl) ?_
                                                                    obtain ⟨r319, w320, hf, h⟩ := bzP_el h
                                                                    refine c_onz (c_runSW (As := [.ref (adr (gB G) 1 0), .int (sc (u4 + 1).toNatClampNeg), .ref (adr (gB G) 63 0)]) (rest := []) hx hb hml hown hts hE hP hS (c_L_comesBack l G hF hst (sc (u4 + 1).toNatClampNeg) w r319 w320 hf) w5_185 miL_comesBack ⟨(Nat.le_of_ble_eq_true rfl), (Nat.le_of_ble_eq_true rfl)⟩ rfl hl.1 rfl (Nat.le_of_ble_eq_true rfl) dL_law_1614 (⟨by show _ ≤ 601024; (try dsimp only); omega, by show _ ≤ 7293034; (try dsimp only); omega⟩ : _ ∧ _)) hS (fun z9 hz9 H locs hP hS => ?_)
                                                                    have h := h z9 hz9
                                                                    obtain ⟨w321, e9⟩ : ∃ u : Mm, u = pZ w320 z9 := ⟨_, rfl⟩
                                                                    rw [← e9] at h hP
                                                                    skip
                                                                    refine lv_istore (i := 5) (lv' := [(5, .int r319), (0, .ref a0), (1, .ref (adr (gB G) 1 0)), (2, .ref (adr (gB G) 32 0)), (3, .ref (adr (gB G) 63 0)), (4, .int u4)]) hx hb dL_law_1617 hl (by decide) rfl (fun ls hl => ?_)
                                                                    refine lv_aload_n hx hb dL_law_1619 rfl (lv_at hl 3 rfl) ?_
                                                                    refine lv_aload_n hx hb dL_law_1620 rfl (lv_at hl 1 rfl) ?_
                                                                    refine lv_iload hx hb dL_law_1621 (lv_at hl 5 rfl) ?_
                                                                    refine lv_iconst (v := 1) hx hb dL_law_1623 (by decide) ?_
                                                                    refine lv_iadd hx hb dL_law_1624 ?_
                                                                    obtain ⟨g322, h⟩ := gdP_el h
                                                                    refine va_sld hx hb hX hbl hbA hS (vB_in g322) dL_law_1625 ?_
                                                                    obtain ⟨r323, w324, hf, h⟩ := bd1P_el h
                                                                    refine c_oni (c_runV (b := adr (gB G) 32 0) (As := [.int (sc (u4 + 1).toNatClampNeg)]) (rest := []) hx hb hml hown hts hE hP hS (c_X15_comesBack l G hF (sc (u4 + 1).toNatClampNeg) w321 r323 w324 hf) (c_rec hE hP (hp_sh hP hF 0 32 (by decide)) (by decide) rfl rfl) w8_212 miX15_comesBack ⟨(Nat.le_of_ble_eq_true rfl), (Nat.le_of_ble_eq_true rfl)⟩ rfl hl.1 rfl (Nat.le_of_ble_eq_true rfl) dL_law_1626 (⟨by show _ ≤ 601024; (try dsimp only); omega, by show _ ≤ 7293034; (try dsimp only); omega⟩ : _ ∧ _)) hS (fun H locs hP hS => ?_)
                                                                    refine lv_istore (i := 6) (lv' := [(6, .int r323), (5, .int r319), (0, .ref a0), (1, .ref (adr (gB G) 1 0)), (2, .ref (adr (gB G) 32 0)), (3, .ref (adr (gB G) 63 0)), (4, .int u4)]) hx hb dL_law_1629 hl (by decide) rfl (fun ls hl => ?_)
                                                                    refine lv_aload_n hx hb dL_law_1631 rfl (lv_at hl 4 rfl) ?_
                                                                    obtain ⟨r325, w326, hf, h⟩ := bd1P_el h
                                                                    refine c_oni (c_runV (b := adr (gB G) 32 0) (As := []) (rest := []) hx hb hml hown hts hE hP hS (c_X15_thrown l G hF w324 r325 w326 hf) (c_rec hE hP (hp_sh hP hF 0 32 (by decide)) (by decide) rfl rfl) w6_191 miX15_thrown ⟨(Nat.le_of_ble_eq_true rfl), (Nat.le_of_ble_eq_true rfl)⟩ rfl hl.1 rfl (Nat.le_of_ble_eq_true rfl) dL_law_1632 (⟨by show _ ≤ 601024; (try dsimp only); omega, by show _ ≤ 7293034; (try dsimp only); omega⟩ : _ ∧ _)) hS (fun H locs hP hS => ?_)
                                                                    refine lv_iload hx hb dL_law_1635 (lv_at hl 1 rfl) ?_
                                                                    refine lv_icmp_eq (tgt := 1642) hx hb dL_law_1637 (by decide) (fun cc => ?_) (fun cc => ?_)
                                                                    · have h := brP_el h cc
                                                                      refine lv_iload hx hb dL_law_1642 (lv_at hl 1 rfl) ?_
                                                                      refine lv_if_ne (tgt := 1666) hx hb dL_law_1644 (by decide) (fun cc => ?_) (fun cc => ?_)
                                                                      · have h := brP_er h cc
                                                                        refine lv_goto (tgt := 1904) hx hb dL_law_1666 (by decide) ?_
                                                                        obtain ⟨x327, e⟩ : ∃ z : Int32, z = u4 + 6 := ⟨_, rfl⟩
                                                                        have h := sqP_at h e
                                                                        refine lv_iinc (v := x327) (lv' := [(4, .int x327), (6, .int r323), (5, .int r319), (0, .ref a0), (1, .ref (adr (gB G) 1 0)), (2, .ref (adr (gB G) 32 0)), (3, .ref (adr (gB G) 63 0))]) hx hb dL_law_1904 hl (k := 6) rfl (by rw [e]; rfl) (by decide) rfl (fun ls hl => ?_)
                                                                        refine lv_goto (tgt := 23) hx hb dL_law_1907 (by decide) ?_
                                                                        exact ih _ _ ⟨by (try dsimp only); omega, by (try dsimp only); omega⟩ x327 w326  h _ _ _ hP hS (lv_sub hl [3, 4, 5, 6, 0] rfl) k0
                                                                      · have h := brP_el h cc
                                                                        refine lv_aload_n hx hb dL_law_1647 rfl (lv_at hl 5 rfl) ?_
                                                                        refine lv_iconst (v := 0) hx hb dL_law_1648 (by decide) ?_
                                                                        obtain ⟨g328, h⟩ := gdP_el h
                                                                        refine k_lald hx hb hE hP (hp_sh hP hF 0 63 (by decide)) (by decide) rfl g328 dL_law_1649 ?_
                                                                        refine lv_iload hx hb dL_law_1650 (lv_at hl 0 rfl) ?_
                                                                        refine lv_if_eq (tgt := 1659) hx hb dL_law_1652 (by decide) (fun cc => ?_) (fun cc => ?_)
                                                                        · have h := brP_el h cc
                                                                          refine lv_lconst (v := 0) hx hb dL_law_1659 (by decide) ?_
                                                                          refine W.lcmp hx hb dL_law_1660 ?_
                                                                          refine lv_if_eq (tgt := 1666) hx hb dL_law_1661 (by decide) (fun cc => ?_) (fun cc => ?_)
                                                                          · have h := brP_el h cc
                                                                            refine lv_goto (tgt := 1904) hx hb dL_law_1666 (by decide) ?_
                                                                            obtain ⟨x329, e⟩ : ∃ z : Int32, z = u4 + 6 := ⟨_, rfl⟩
                                                                            have h := sqP_at h e
                                                                            refine lv_iinc (v := x329) (lv' := [(4, .int x329), (6, .int r323), (5, .int r319), (0, .ref a0), (1, .ref (adr (gB G) 1 0)), (2, .ref (adr (gB G) 32 0)), (3, .ref (adr (gB G) 63 0))]) hx hb dL_law_1904 hl (k := 6) rfl (by rw [e]; rfl) (by decide) rfl (fun ls hl => ?_)
                                                                            refine lv_goto (tgt := 23) hx hb dL_law_1907 (by decide) ?_
                                                                            exact ih _ _ ⟨by (try dsimp only); omega, by (try dsimp only); omega⟩ x329 w326  h _ _ _ hP hS (lv_sub hl [3, 4, 5, 6, 0] rfl) k0
                                                                          · have h := brP_er h cc
                                                                            refine lv_iconst (v := 0) hx hb dL_law_1664 (by decide) ?_
                                                                            exact h.elim
                                                                        · have h := brP_er h cc
                                                                          refine lv_lconst (v := 1) hx hb dL_law_1655 (by decide) ?_
                                                                          refine lv_goto (tgt := 1660) hx hb dL_law_1656 (by decide) ?_
                                                                          refine W.lcmp hx hb dL_law_1660 ?_
                                                                          refine lv_if_eq (tgt := 1666) hx hb dL_law_1661 (by decide) (fun cc => ?_) (fun cc => ?_)
                                                                          · have h := brP_el h cc
                                                                            refine lv_goto (tgt := 1904) hx hb dL_law_1666 (by decide) ?_
                                                                            obtain ⟨x330, e⟩ : ∃ z : Int32, z = u4 + 6 := ⟨_, rfl⟩
                                                                            have h := sqP_at h e
                                                                            refine lv_iinc (v := x330) (lv' := [(4, .int x330), (6, .int r323), (5, .int r319), (0, .ref a0), (1, .ref (adr (gB G) 1 0)), (2, .ref (adr (gB G) 32 0)), (3, .ref (adr (gB G) 63 0))]) hx hb dL_law_1904 hl (k := 6) rfl (by rw [e]; rfl) (by decide) rfl (fun ls hl => ?_)
                                                                            refine lv_goto (tgt := 23) hx hb dL_law_1907 (by decide) ?_
                                                                            exact ih _ _ ⟨by (try dsimp only); omega, by (try dsimp only); omega⟩ x330 w326  h _ _ _ hP hS (lv_sub hl [3, 4, 5, 6, 0] rfl) k0
                                                                          · have h := brP_er h cc
                                                                            refine lv_iconst (v := 0) hx hb dL_law_1664 (by decide) ?_
                                                                            exact h.elim
                                                                    · have h := brP_er h cc
                                                                      refine lv_iconst (v := 0) hx hb dL_law_1640 (by decide) ?_
                                                                      exact h.elim
                                                                  · have h := brP_er h c30
                                                                    by_cases c31 : ((sc u4.toNatClampNeg) &&& 63) = 31
                                                                    · have h := brP_el h c31
                                                                      refine k_tab (tgt := 1669) hx hb dL_law_40 (by decide) (by have cq := c31; (rw [cq]; decide)) ?_
                                                                      refine lv_aload_n hx hb dL_law_1669 rfl (lv_at hl 1 rfl) ?_
                                                                      refine lv_aload_n hx hb dL_law_1670 rfl (lv_at hl 0 rfl) ?_
                                                                      refine lv_iload hx hb dL_law_1671 (lv_at hl 4 rfl) ?_
                                                                      refine lv_iconst (v := 1) hx hb dL_law_1673 (by decide) ?_
                                                                      refine lv_iadd hx hb dL_law_1674 ?_
                                                                      obtain ⟨g331, h⟩ := gdP_el h
                                                                      refine va_sld hx hb hX hbl hbA hS (vB_in g331) dL_law_1675 ?_
                                                                      refine lv_aload_n hx hb dL_law_1676 rfl (lv_at hl 0 rfl) ?_
                                                                      refine lv_iload hx hb dL_law_1677 (lv_at hl 4 rfl) ?_
                                                                      refine lv_iconst (v := 2) hx hb dL_law_1679 (by decide) ?_
                                                                      refine lv_iadd hx hb dL_law_1680 ?_
                                                                      obtain ⟨g332, h⟩ := gdP_el h
                                                                      refine va_sld hx hb hX hbl hbA hS (vB_in g332) dL_law_1681 ?_
                                                                      refine lv_aload_n hx hb dL_law_1682 rfl (lv_at hl 3 rfl) ?_
                                                                      obtain ⟨r333, w334, hf, h⟩ := bzP_el h
                                                                      refine c_onz (c_runSW (As := [.ref (adr (gB G) 1 0), .int (sc (u4 + 1).toNatClampNeg), .int (sc (u4 + 2).toNatClampNeg), .ref (adr (gB G) 63 0)]) (rest := []) hx hb hml hown hts hE hP hS (c_L_petalsAfter l G hF hst (sc (u4 + 1).toNatClampNeg) (sc (u4 + 2).toNatClampNeg) w r333 w334 hf) w5_196 miL_petalsAfter ⟨(Nat.le_of_ble_eq_true rfl), (Nat.le_of_ble_eq_true rfl)⟩ rfl hl.1 rfl (Nat.le_of_ble_eq_true rfl) dL_law_1683 (⟨by show _ ≤ 601024; (try dsimp only); omega, by show _ ≤ 7293034; (try dsimp only); omega⟩ : _ ∧ _)) hS (fun z9 hz9 H locs hP hS => ?_)
                                                                      have h := h z9 hz9
                                                                      obtain ⟨w335, e9⟩ : ∃ u : Mm, u = pZ w334 z9 := ⟨_, rfl⟩
                                                                      rw [← e9] at h hP
                                                                      skip
                                                                      refine lv_istore (i := 5) (lv' := [(5, .int r333), (0, .ref a0), (1, .ref (adr (gB G) 1 0)), (2, .ref (adr (gB G) 32 0)), (3, .ref (adr (gB G) 63 0)), (4, .int u4)]) hx hb dL_law_1686 hl (by decide) rfl (fun ls hl => ?_)
                                                                      refine lv_aload_n hx hb dL_law_1688 rfl (lv_at hl 3 rfl) ?_
                                                                      refine lv_aload_n hx hb dL_law_1689 rfl (lv_at hl 1 rfl) ?_
                                                                      refine lv_iload hx hb dL_law_1690 (lv_at hl 5 rfl) ?_
                                                                      refine lv_iconst (v := 1) hx hb dL_law_1692 (by decide) ?_
                                                                      refine lv_iadd hx hb dL_law_1693 ?_
                                                                      obtain ⟨g336, h⟩ := gdP_el h
                                                                      refine va_sld hx hb hX hbl hbA hS (vB_in g336) dL_law_1694 ?_
                                                                      refine lv_aload_n hx hb dL_law_1695 rfl (lv_at hl 1 rfl) ?_
                                                                      refine lv_iload hx hb dL_law_1696 (lv_at hl 5 rfl) ?_
                                                                      refine lv_iconst (v := 2) hx hb dL_law_1698 (by decide) ?_
                                                                      refine lv_iadd hx hb dL_law_1699 ?_
                                                                      obtain ⟨g337, h⟩ := gdP_el h
                                                                      refine va_sld hx hb hX hbl hbA hS (vB_in g337) dL_law_1700 ?_
                                                                      obtain ⟨r338, w339, hf, h⟩ := bd1P_el h
                                                                      refine c_oni (c_runV (b := adr (gB G) 32 0) (As := [.int (sc (u4 + 1).toNatClampNeg), .int (sc (u4 + 2).toNatClampNeg)]) (rest := []) hx hb hml hown hts hE hP hS (c_X15_petalsAfter l G hF (sc (u4 + 1).toNatClampNeg) (sc (u4 + 2).toNatClampNeg) w335 r338 w339 hf) (c_rec hE hP (hp_sh hP hF 0 32 (by decide)) (by decide) rfl rfl) w8_220 miX15_petalsAfter ⟨(Nat.le_of_ble_eq_true rfl), (Nat.le_of_ble_eq_true rfl)⟩ rfl hl.1 rfl (Nat.le_of_ble_eq_true rfl) dL_law_1701 (⟨by show _ ≤ 601024; (try dsimp only); omega, by show _ ≤ 7293034; (try dsimp only); omega⟩ : _ ∧ _)) hS (fun H locs hP hS => ?_)
                                                                      refine lv_istore (i := 6) (lv' := [(6, .int r338), (5, .int r333), (0, .ref a0), (1, .ref (adr (gB G) 1 0)), (2, .ref (adr (gB G) 32 0)), (3, .ref (adr (gB G) 63 0)), (4, .int u4)]) hx hb dL_law_1704 hl (by decide) rfl (fun ls hl => ?_)
                                                                      refine lv_aload_n hx hb dL_law_1706 rfl (lv_at hl 4 rfl) ?_
                                                                      obtain ⟨r340, w341, hf, h⟩ := bd1P_el h
                                                                      refine c_oni (c_runV (b := adr (gB G) 32 0) (As := []) (rest := []) hx hb hml hown hts hE hP hS (c_X15_thrown l G hF w339 r340 w341 hf) (c_rec hE hP (hp_sh hP hF 0 32 (by decide)) (by decide) rfl rfl) w6_191 miX15_thrown ⟨(Nat.le_of_ble_eq_true rfl), (Nat.le_of_ble_eq_true rfl)⟩ rfl hl.1 rfl (Nat.le_of_ble_eq_true rfl) dL_law_1707 (⟨by show _ ≤ 601024; (try dsimp only); omega, by show _ ≤ 7293034; (try dsimp only); omega⟩ : _ ∧ _)) hS (fun H locs hP hS => ?_)
                                                                      refine lv_iload hx hb dL_law_1710 (lv_at hl 1 rfl) ?_
                                                                      refine lv_icmp_eq (tgt := 1717) hx hb dL_law_1712 (by decide) (fun cc => ?_) (fun cc => ?_)
                                                                      · have h := brP_el h cc
                                                                        refine lv_iload hx hb dL_law_1717 (lv_at hl 1 rfl) ?_
                                                                        refine lv_if_ne (tgt := 1734) hx hb dL_law_1719 (by decide) (fun cc => ?_) (fun cc => ?_)
                                                                        · have h := brP_er h cc
                                                                          refine lv_goto (tgt := 1904) hx hb dL_law_1734 (by decide) ?_
                                                                          obtain ⟨x342, e⟩ : ∃ z : Int32, z = u4 + 6 := ⟨_, rfl⟩
                                                                          have h := sqP_at h e
                                                                          refine lv_iinc (v := x342) (lv' := [(4, .int x342), (6, .int r338), (5, .int r333), (0, .ref a0), (1, .ref (adr (gB G) 1 0)), (2, .ref (adr (gB G) 32 0)), (3, .ref (adr (gB G) 63 0))]) hx hb dL_law_1904 hl (k := 6) rfl (by rw [e]; rfl) (by decide) rfl (fun ls hl => ?_)
                                                                          refine lv_goto (tgt := 23) hx hb dL_law_1907 (by decide) ?_
                                                                          exact ih _ _ ⟨by (try dsimp only); omega, by (try dsimp only); omega⟩ x342 w341  h _ _ _ hP hS (lv_sub hl [3, 4, 5, 6, 0] rfl) k0
                                                                        · have h := brP_el h cc
                                                                          refine lv_aload_n hx hb dL_law_1722 rfl (lv_at hl 5 rfl) ?_
                                                                          refine lv_iconst (v := 0) hx hb dL_law_1723 (by decide) ?_
                                                                          obtain ⟨g343, h⟩ := gdP_el h
                                                                          refine k_lald hx hb hE hP (hp_sh hP hF 0 63 (by decide)) (by decide) rfl g343 dL_law_1724 ?_
                                                                          refine lv_iload hx hb dL_law_1725 (lv_at hl 0 rfl) ?_
                                                                          refine lv_i2l hx hb dL_law_1727 rfl ?_
                                                                          refine W.lcmp hx hb dL_law_1728 ?_
                                                                          refine lv_if_eq (tgt := 1734) hx hb dL_law_1729 (by decide) (fun cc => ?_) (fun cc => ?_)
                                                                          · have h := brP_el h cc
                                                                            refine lv_goto (tgt := 1904) hx hb dL_law_1734 (by decide) ?_
                                                                            obtain ⟨x344, e⟩ : ∃ z : Int32, z = u4 + 6 := ⟨_, rfl⟩
                                                                            have h := sqP_at h e
                                                                            refine lv_iinc (v := x344) (lv' := [(4, .int x344), (6, .int r338), (5, .int r333), (0, .ref a0), (1, .ref (adr (gB G) 1 0)), (2, .ref (adr (gB G) 32 0)), (3, .ref (adr (gB G) 63 0))]) hx hb dL_law_1904 hl (k := 6) rfl (by rw [e]; rfl) (by decide) rfl (fun ls hl => ?_)
                                                                            refine lv_goto (tgt := 23) hx hb dL_law_1907 (by decide) ?_
                                                                            exact ih _ _ ⟨by (try dsimp only); omega, by (try dsimp only); omega⟩ x344 w341  h _ _ _ hP hS (lv_sub hl [3, 4, 5, 6, 0] rfl) k0
                                                                          · have h := brP_er h cc
                                                                            refine lv_iconst (v := 0) hx hb dL_law_1732 (by decide) ?_
                                                                            exact h.elim
                                                                      · have h := brP_er h cc
                                                                        refine lv_iconst (v := 0) hx hb dL_law_1715 (by decide) ?_
                                                                        exact h.elim
                                                                    · have h := brP_er h c31
                                                                      by_cases c32 : ((sc u4.toNatClampNeg) &&& 63) = 32
                                                                      · have h := brP_el h c32
                                                                        refine k_tab (tgt := 1737) hx hb dL_law_40 (by decide) (by have cq := c32; (rw [cq]; decide)) ?_
                                                                        refine lv_aload_n hx hb dL_law_1737 rfl (lv_at hl 1 rfl) ?_
                                                                        refine lv_aload_n hx hb dL_law_1738 rfl (lv_at hl 0 rfl) ?_
                                                                        refine lv_iload hx hb dL_law_1739 (lv_at hl 4 rfl) ?_
                                                                        refine lv_iconst (v := 1) hx hb dL_law_1741 (by decide) ?_
                                                                        refine lv_iadd hx hb dL_law_1742 ?_
                                                                        obtain ⟨g345, h⟩ := gdP_el h
                                                                        refine va_sld hx hb hX hbl hbA hS (vB_in g345) dL_law_1743 ?_
                                                                        refine lv_aload_n hx hb dL_law_1744 rfl (lv_at hl 3 rfl) ?_
                                                                        obtain ⟨r346, w347, hf, h⟩ := bzP_el h
                                                                        refine c_onz (c_runSW (As := [.ref (adr (gB G) 1 0), .int (sc (u4 + 1).toNatClampNeg), .ref (adr (gB G) 63 0)]) (rest := []) hx hb hml hown hts hE hP hS (c_L_daysUntilLeft l G hF hst (sc (u4 + 1).toNatClampNeg) w r346 w347 hf) w5_204 miL_daysUntilLeft ⟨(Nat.le_of_ble_eq_true rfl), (Nat.le_of_ble_eq_true rfl)⟩ rfl hl.1 rfl (Nat.le_of_ble_eq_true rfl) dL_law_1745 (⟨by show _ ≤ 601024; (try dsimp only); omega, by show _ ≤ 7293034; (try dsimp only); omega⟩ : _ ∧ _)) hS (fun z9 hz9 H locs hP hS => ?_)
                                                                        have h := h z9 hz9
                                                                        obtain ⟨w348, e9⟩ : ∃ u : Mm, u = pZ w347 z9 := ⟨_, rfl⟩
                                                                        rw [← e9] at h hP
                                                                        skip
                                                                        refine lv_istore (i := 5) (lv' := [(5, .int r346), (0, .ref a0), (1, .ref (adr (gB G) 1 0)), (2, .ref (adr (gB G) 32 0)), (3, .ref (adr (gB G) 63 0)), (4, .int u4)]) hx hb dL_law_1748 hl (by decide) rfl (fun ls hl => ?_)
                                                                        refine lv_aload_n hx hb dL_law_1750 rfl (lv_at hl 3 rfl) ?_
                                                                        refine lv_aload_n hx hb dL_law_1751 rfl (lv_at hl 1 rfl) ?_
                                                                        refine lv_iload hx hb dL_law_1752 (lv_at hl 5 rfl) ?_
                                                                        refine lv_iconst (v := 1) hx hb dL_law_1754 (by decide) ?_
                                                                        refine lv_iadd hx hb dL_law_1755 ?_
                                                                        obtain ⟨g349, h⟩ := gdP_el h
                                                                        refine va_sld hx hb hX hbl hbA hS (vB_in g349) dL_law_1756 ?_
                                                                        obtain ⟨r350, w351, hf, h⟩ := bd1P_el h
                                                                        refine c_oni (c_runV (b := adr (gB G) 32 0) (As := [.int (sc (u4 + 1).toNatClampNeg)]) (rest := []) hx hb hml hown hts hE hP hS (c_X15_daysUntilLeft l G hF (sc (u4 + 1).toNatClampNeg) w348 r350 w351 hf) (c_rec hE hP (hp_sh hP hF 0 32 (by decide)) (by decide) rfl rfl) w8_224 miX15_daysUntilLeft ⟨(Nat.le_of_ble_eq_true rfl), (Nat.le_of_ble_eq_true rfl)⟩ rfl hl.1 rfl (Nat.le_of_ble_eq_true rfl) dL_law_1757 (⟨by show _ ≤ 601024; (try dsimp only); omega, by show _ ≤ 7293034; (try dsimp only); omega⟩ : _ ∧ _)) hS (fun H locs hP hS => ?_)
                                                                        refine lv_istore (i := 6) (lv' := [(6, .int r350), (5, .int r346), (0, .ref a0), (1, .ref (adr (gB G) 1 0)), (2, .ref (adr (gB G) 32 0)), (3, .ref (adr (gB G) 63 0)), (4, .int u4)]) hx hb dL_law_1760 hl (by decide) rfl (fun ls hl => ?_)
                                                                        refine lv_aload_n hx hb dL_law_1762 rfl (lv_at hl 4 rfl) ?_
                                                                        obtain ⟨r352, w353, hf, h⟩ := bd1P_el h
                                                                        refine c_oni (c_runV (b := adr (gB G) 32 0) (As := []) (rest := []) hx hb hml hown hts hE hP hS (c_X15_thrown l G hF w351 r352 w353 hf) (c_rec hE hP (hp_sh hP hF 0 32 (by decide)) (by decide) rfl rfl) w6_191 miX15_thrown ⟨(Nat.le_of_ble_eq_true rfl), (Nat.le_of_ble_eq_true rfl)⟩ rfl hl.1 rfl (Nat.le_of_ble_eq_true rfl) dL_law_1763 (⟨by show _ ≤ 601024; (try dsimp only); omega, by show _ ≤ 7293034; (try dsimp only); omega⟩ : _ ∧ _)) hS (fun H locs hP hS => ?_)
                                                                        refine lv_iload hx hb dL_law_1766 (lv_at hl 1 rfl) ?_
                                                                        refine lv_icmp_eq (tgt := 1773) hx hb dL_law_1768 (by decide) (fun cc => ?_) (fun cc => ?_)
                                                                        · have h := brP_el h cc
                                                                          refine lv_iload hx hb dL_law_1773 (lv_at hl 1 rfl) ?_
                                                                          refine lv_if_ne (tgt := 1790) hx hb dL_law_1775 (by decide) (fun cc => ?_) (fun cc => ?_)
                                                                          · have h := brP_er h cc
                                                                            refine lv_goto (tgt := 1904) hx hb dL_law_1790 (by decide) ?_
                                                                            obtain ⟨x354, e⟩ : ∃ z : Int32, z = u4 + 6 := ⟨_, rfl⟩
                                                                            have h := sqP_at h e
                                                                            refine lv_iinc (v := x354) (lv' := [(4, .int x354), (6, .int r350), (5, .int r346), (0, .ref a0), (1, .ref (adr (gB G) 1 0)), (2, .ref (adr (gB G) 32 0)), (3, .ref (adr (gB G) 63 0))]) hx hb dL_law_1904 hl (k := 6) rfl (by rw [e]; rfl) (by decide) rfl (fun ls hl => ?_)
                                                                            refine lv_goto (tgt := 23) hx hb dL_law_1907 (by decide) ?_
                                                                            exact ih _ _ ⟨by (try dsimp only); omega, by (try dsimp only); omega⟩ x354 w353  h _ _ _ hP hS (lv_sub hl [3, 4, 5, 6, 0] rfl) k0
                                                                          · have h := brP_el h cc
                                                                            refine lv_aload_n hx hb dL_law_1778 rfl (lv_at hl 5 rfl) ?_
                                                                            refine lv_iconst (v := 0) hx hb dL_law_1779 (by decide) ?_
                                                                            obtain ⟨g355, h⟩ := gdP_el h
                                                                            refine k_lald hx hb hE hP (hp_sh hP hF 0 63 (by decide)) (by decide) rfl g355 dL_law_1780 ?_
                                                                            refine lv_iload hx hb dL_law_1781 (lv_at hl 0 rfl) ?_
                                                                            refine lv_i2l hx hb dL_law_1783 rfl ?_
                                                                            refine W.lcmp hx hb dL_law_1784 ?_
                                                                            refine lv_if_eq (tgt := 1790) hx hb dL_law_1785 (by decide) (fun cc => ?_) (fun cc => ?_)
                                                                            · have h := brP_el h cc
                                                                              refine lv_goto (tgt := 1904) hx hb dL_law_1790 (by decide) ?_
                                                                              obtain ⟨x356, e⟩ : ∃ z : Int32, z = u4 + 6 := ⟨_, rfl⟩
                                                                              have h := sqP_at h e
                                                                              refine lv_iinc (v := x356) (lv' := [(4, .int x356), (6, .int r350), (5, .int r346), (0, .ref a0), (1, .ref (adr (gB G) 1 0)), (2, .ref (adr (gB G) 32 0)), (3, .ref (adr (gB G) 63 0))]) hx hb dL_law_1904 hl (k := 6) rfl (by rw [e]; rfl) (by decide) rfl (fun ls hl => ?_)
                                                                              refine lv_goto (tgt := 23) hx hb dL_law_1907 (by decide) ?_
                                                                              exact ih _ _ ⟨by (try dsimp only); omega, by (try dsimp only); omega⟩ x356 w353  h _ _ _ hP hS (lv_sub hl [3, 4, 5, 6, 0] rfl) k0
                                                                            · have h := brP_er h cc
                                                                              refine lv_iconst (v := 0) hx hb dL_law_1788 (by decide) ?_
                                                                              exact h.elim
                                                                        · have h := brP_er h cc
                                                                          refine lv_iconst (v := 0) hx hb dL_law_1771 (by decide) ?_
                                                                          exact h.elim
                                                                      · have h := brP_er h c32
                                                                        by_cases c33 : ((sc u4.toNatClampNeg) &&& 63) = 33
                                                                        · have h := brP_el h c33
                                                                          refine k_tab (tgt := 1793) hx hb dL_law_40 (by decide) (by have cq := c33; (rw [cq]; decide)) ?_
                                                                          refine lv_aload_n hx hb dL_law_1793 rfl (lv_at hl 1 rfl) ?_
                                                                          refine lv_aload_n hx hb dL_law_1794 rfl (lv_at hl 0 rfl) ?_
                                                                          refine lv_iload hx hb dL_law_1795 (lv_at hl 4 rfl) ?_
                                                                          refine lv_iconst (v := 1) hx hb dL_law_1797 (by decide) ?_
                                                                          refine lv_iadd hx hb dL_law_1798 ?_
                                                                          obtain ⟨g357, h⟩ := gdP_el h
                                                                          refine va_sld hx hb hX hbl hbA hS (vB_in g357) dL_law_1799 ?_
                                                                          refine lv_aload_n hx hb dL_law_1800 rfl (lv_at hl 3 rfl) ?_
                                                                          obtain ⟨r358, w359, hf, h⟩ := bzP_el h
                                                                          refine c_onz (c_runSW (As := [.ref (adr (gB G) 1 0), .int (sc (u4 + 1).toNatClampNeg), .ref (adr (gB G) 63 0)]) (rest := []) hx hb hml hown hts hE hP hS (c_L_bestToTell l G hF hst (sc (u4 + 1).toNatClampNeg) w r358 w359 hf) w5_215 miL_bestToTell ⟨(Nat.le_of_ble_eq_true rfl), (Nat.le_of_ble_eq_true rfl)⟩ rfl hl.1 rfl (Nat.le_of_ble_eq_true rfl) dL_law_1801 (⟨by show _ ≤ 601024; (try dsimp only); omega, by show _ ≤ 7293034; (try dsimp only); omega⟩ : _ ∧ _)) hS (fun z9 hz9 H locs hP hS => ?_)
                                                                          have h := h z9 hz9
                                                                          obtain ⟨w360, e9⟩ : ∃ u : Mm, u = pZ w359 z9 := ⟨_, rfl⟩
                                                                          rw [← e9] at h hP
                                                                          skip
                                                                          refine lv_istore (i := 5) (lv' := [(5, .int r358), (0, .ref a0), (1, .ref (adr (gB G) 1 0)), (2, .ref (adr (gB G) 32 0)), (3, .ref (adr (gB G) 63 0)), (4, .int u4)]) hx hb dL_law_1804 hl (by decide) rfl (fun ls hl => ?_)
                                                                          refine lv_aload_n hx hb dL_law_1806 rfl (lv_at hl 3 rfl) ?_
                                                                          refine lv_aload_n hx hb dL_law_1807 rfl (lv_at hl 1 rfl) ?_
                                                                          refine lv_iload hx hb dL_law_1808 (lv_at hl 5 rfl) ?_
                                                                          refine lv_iconst (v := 1) hx hb dL_law_1810 (by decide) ?_
                                                                          refine lv_iadd hx hb dL_law_1811 ?_
                                                                          obtain ⟨g361, h⟩ := gdP_el h
                                                                          refine va_sld hx hb hX hbl hbA hS (vB_in g361) dL_law_1812 ?_
                                                                          obtain ⟨r362, w363, hf, h⟩ := bd1P_el h
                                                                          refine c_oni (c_runV (b := adr (gB G) 32 0) (As := [.int (sc (u4 + 1).toNatClampNeg)]) (rest := []) hx hb hml hown hts hE hP hS (c_X15_bestToTell l G hF (sc (u4 + 1).toNatClampNeg) w360 r362 w363 hf) (c_rec hE hP (hp_sh hP hF 0 32 (by decide)) (by decide) rfl rfl) w8_233 miX15_bestToTell ⟨(Nat.le_of_ble_eq_true rfl), (Nat.le_of_ble_eq_true rfl)⟩ rfl hl.1 rfl (Nat.le_of_ble_eq_true rfl) dL_law_1813 (⟨by show _ ≤ 601024; (try dsimp only); omega, by show _ ≤ 7293034; (try dsimp only); omega⟩ : _ ∧ _)) hS (fun H locs hP hS => ?_)
                                                                          refine lv_istore (i := 6) (lv' := [(6, .int r362), (5, .int r358), (0, .ref a0), (1, .ref (adr (gB G) 1 0)), (2, .ref (adr (gB G) 32 0)), (3, .ref (adr (gB G) 63 0)), (4, .int u4)]) hx hb dL_law_1816 hl (by decide) rfl (fun ls hl => ?_)
                                                                          refine lv_aload_n hx hb dL_law_1818 rfl (lv_at hl 4 rfl) ?_
                                                                          obtain ⟨r364, w365, hf, h⟩ := bd1P_el h
                                                                          refine c_oni (c_runV (b := adr (gB G) 32 0) (As := []) (rest := []) hx hb hml hown hts hE hP hS (c_X15_thrown l G hF w363 r364 w365 hf) (c_rec hE hP (hp_sh hP hF 0 32 (by decide)) (by decide) rfl rfl) w6_191 miX15_thrown ⟨(Nat.le_of_ble_eq_true rfl), (Nat.le_of_ble_eq_true rfl)⟩ rfl hl.1 rfl (Nat.le_of_ble_eq_true rfl) dL_law_1819 (⟨by show _ ≤ 601024; (try dsimp only); omega, by show _ ≤ 7293034; (try dsimp only); omega⟩ : _ ∧ _)) hS (fun H locs hP hS => ?_)
                                                                          refine lv_iload hx hb dL_law_1822 (lv_at hl 1 rfl) ?_
                                                                          refine lv_icmp_eq (tgt := 1829) hx hb dL_law_1824 (by decide) (fun cc => ?_) (fun cc => ?_)
                                                                          · have h := brP_el h cc
                                                                            refine lv_iload hx hb dL_law_1829 (lv_at hl 1 rfl) ?_
                                                                            refine lv_if_ne (tgt := 1846) hx hb dL_law_1831 (by decide) (fun cc => ?_) (fun cc => ?_)
                                                                            · have h := brP_er h cc
                                                                              refine lv_goto (tgt := 1904) hx hb dL_law_1846 (by decide) ?_
                                                                              obtain ⟨x366, e⟩ : ∃ z : Int32, z = u4 + 6 := ⟨_, rfl⟩
                                                                              have h := sqP_at h e
                                                                              refine lv_iinc (v := x366) (lv' := [(4, .int x366), (6, .int r362), (5, .int r358), (0, .ref a0), (1, .ref (adr (gB G) 1 0)), (2, .ref (adr (gB G) 32 0)), (3, .ref (adr (gB G) 63 0))]) hx hb dL_law_1904 hl (k := 6) rfl (by rw [e]; rfl) (by decide) rfl (fun ls hl => ?_)
                                                                              refine lv_goto (tgt := 23) hx hb dL_law_1907 (by decide) ?_
                                                                              exact ih _ _ ⟨by (try dsimp only); omega, by (try dsimp only); omega⟩ x366 w365  h _ _ _ hP hS (lv_sub hl [3, 4, 5, 6, 0] rfl) k0
                                                                            · have h := brP_el h cc
                                                                              refine lv_aload_n hx hb dL_law_1834 rfl (lv_at hl 5 rfl) ?_
                                                                              refine lv_iconst (v := 0) hx hb dL_law_1835 (by decide) ?_
                                                                              obtain ⟨g367, h⟩ := gdP_el h
                                                                              refine k_lald hx hb hE hP (hp_sh hP hF 0 63 (by decide)) (by decide) rfl g367 dL_law_1836 ?_
                                                                              refine lv_iload hx hb dL_law_1837 (lv_at hl 0 rfl) ?_
                                                                              refine lv_i2l hx hb dL_law_1839 rfl ?_
                                                                              refine W.lcmp hx hb dL_law_1840 ?_
                                                                              refine lv_if_eq (tgt := 1846) hx hb dL_law_1841 (by decide) (fun cc => ?_) (fun cc => ?_)
                                                                              · have h := brP_el h cc
                                                                                refine lv_goto (tgt := 1904) hx hb dL_law_1846 (by decide) ?_
                                                                                obtain ⟨x368, e⟩ : ∃ z : Int32, z = u4 + 6 := ⟨_, rfl⟩
                                                                                have h := sqP_at h e
                                                                                refine lv_iinc (v := x368) (lv' := [(4, .int x368), (6, .int r362), (5, .int r358), (0, .ref a0), (1, .ref (adr (gB G) 1 0)), (2, .ref (adr (gB G) 32 0)), (3, .ref (adr (gB G) 63 0))]) hx hb dL_law_1904 hl (k := 6) rfl (by rw [e]; rfl) (by decide) rfl (fun ls hl => ?_)
                                                                                refine lv_goto (tgt := 23) hx hb dL_law_1907 (by decide) ?_
                                                                                exact ih _ _ ⟨by (try dsimp only); omega, by (try dsimp only); omega⟩ x368 w365  h _ _ _ hP hS (lv_sub hl [3, 4, 5, 6, 0] rfl) k0
                                                                              · have h := brP_er h cc
                                                                                refine lv_iconst (v := 0) hx hb dL_law_1844 (by decide) ?_
                                                                                exact h.elim
                                                                          · have h := brP_er h cc
                                                                            refine lv_iconst (v := 0) hx hb dL_law_1827 (by decide) ?_
                                                                            exact h.elim
                                                                        · have h := brP_er h c33
                                                                          by_cases c34 : ((sc u4.toNatClampNeg) &&& 63) = 34
                                                                          · have h := brP_el h c34
                                                                            refine k_tab (tgt := 1849) hx hb dL_law_40 (by decide) (by have cq := c34; (rw [cq]; decide)) ?_
                                                                            refine lv_aload_n hx hb dL_law_1849 rfl (lv_at hl 1 rfl) ?_
                                                                            obtain ⟨r369, w370, hf, h⟩ := bd1P_el h
                                                                            refine c_ond (c_runV (b := adr (gB G) 1 0) (As := []) (rest := []) hx hb hml hown hts hE hP hS (c_X12_meanPetals l G hF w r369 w370 hf) (c_rec hE hP (hp_sh hP hF 0 1 (by decide)) (by decide) rfl rfl) w3_219 miX12_meanPetals ⟨(Nat.le_of_ble_eq_true rfl), (Nat.le_of_ble_eq_true rfl)⟩ rfl hl.1 rfl (Nat.le_of_ble_eq_true rfl) dL_law_1850 (⟨by show _ ≤ 601024; (try dsimp only); omega, by show _ ≤ 7293034; (try dsimp only); omega⟩ : _ ∧ _)) hS (fun H locs hP hS => ?_)
                                                                            refine lv_dstore (i := 5) (lv' := [(5, .double r369), (0, .ref a0), (1, .ref (adr (gB G) 1 0)), (2, .ref (adr (gB G) 32 0)), (3, .ref (adr (gB G) 63 0)), (4, .int u4)]) hx hb dL_law_1853 hl (by decide) rfl (fun ls hl => ?_)
                                                                            refine lv_aload_n hx hb dL_law_1855 rfl (lv_at hl 3 rfl) ?_
                                                                            obtain ⟨r371, w372, hf, h⟩ := bd1P_el h
                                                                            refine c_ond (c_runV (b := adr (gB G) 32 0) (As := []) (rest := []) hx hb hml hown hts hE hP hS (c_X15_meanPetals l G hF w370 r371 w372 hf) (c_rec hE hP (hp_sh hP hF 0 32 (by decide)) (by decide) rfl rfl) w9_5 miX15_meanPetals ⟨(Nat.le_of_ble_eq_true rfl), (Nat.le_of_ble_eq_true rfl)⟩ rfl hl.1 rfl (Nat.le_of_ble_eq_true rfl) dL_law_1856 (⟨by show _ ≤ 601024; (try dsimp only); omega, by show _ ≤ 7293034; (try dsimp only); omega⟩ : _ ∧ _)) hS (fun H locs hP hS => ?_)
                                                                            refine lv_dstore (i := 7) (lv' := [(7, .double r371), (5, .double r369), (0, .ref a0), (1, .ref (adr (gB G) 1 0)), (2, .ref (adr (gB G) 32 0)), (3, .ref (adr (gB G) 63 0)), (4, .int u4)]) hx hb dL_law_1859 hl (by decide) rfl (fun ls hl => ?_)
                                                                            refine lv_dload hx hb dL_law_1861 (lv_at hl 1 rfl) ?_
                                                                            refine lv_dload hx hb dL_law_1863 (lv_at hl 0 rfl) ?_
                                                                            refine lv_dcmp hx hb dL_law_1865 ?_
                                                                            refine lv_if_eq (tgt := 1887) hx hb dL_law_1866 (by decide) (fun cc => ?_) (fun cc => ?_)
                                                                            · have h := brP_el h cc
                                                                              refine lv_goto (tgt := 1904) hx hb dL_law_1887 (by decide) ?_
                                                                              obtain ⟨x373, e⟩ : ∃ z : Int32, z = u4 + 6 := ⟨_, rfl⟩
                                                                              have h := sqP_at h e
                                                                              refine lv_iinc (v := x373) (lv' := [(4, .int x373), (7, .double r371), (5, .double r369), (0, .ref a0), (1, .ref (adr (gB G) 1 0)), (2, .ref (adr (gB G) 32 0)), (3, .ref (adr (gB G) 63 0))]) hx hb dL_law_1904 hl (k := 6) rfl (by rw [e]; rfl) (by decide) rfl (fun ls hl => ?_)
                                                                              refine lv_goto (tgt := 23) hx hb dL_law_1907 (by decide) ?_
                                                                              exact ih _ _ ⟨by (try dsimp only); omega, by (try dsimp only); omega⟩ x373 w372  h _ _ _ hP hS (lv_sub hl [3, 4, 5, 6, 0] rfl) k0
                                                                            · have h := brP_er h cc
                                                                              refine lv_dload hx hb dL_law_1869 (lv_at hl 1 rfl) ?_
                                                                              refine lv_dload hx hb dL_law_1871 (lv_at hl 1 rfl) ?_
                                                                              refine lv_dcmp hx hb dL_law_1873 ?_
                                                                              refine lv_if_eq (tgt := 1885) hx hb dL_law_1874 (by decide) (fun cc => ?_) (fun cc => ?_)
                                                                              · have h := brP_el h cc
                                                                                refine lv_iconst (v := 0) hx hb dL_law_1885 (by decide) ?_
                                                                                exact h.elim
                                                                              · have h := brP_er h cc
                                                                                refine lv_dload hx hb dL_law_1877 (lv_at hl 0 rfl) ?_
                                                                                refine lv_dload hx hb dL_law_1879 (lv_at hl 0 rfl) ?_
                                                                                refine lv_dcmp hx hb dL_law_1881 ?_
                                                                                refine lv_if_ne (tgt := 1887) hx hb dL_law_1882 (by decide) (fun cc => ?_) (fun cc => ?_)
                                                                                · have h := brP_er h cc
                                                                                  refine lv_goto (tgt := 1904) hx hb dL_law_1887 (by decide) ?_
                                                                                  obtain ⟨x374, e⟩ : ∃ z : Int32, z = u4 + 6 := ⟨_, rfl⟩
                                                                                  have h := sqP_at h e
                                                                                  refine lv_iinc (v := x374) (lv' := [(4, .int x374), (7, .double r371), (5, .double r369), (0, .ref a0), (1, .ref (adr (gB G) 1 0)), (2, .ref (adr (gB G) 32 0)), (3, .ref (adr (gB G) 63 0))]) hx hb dL_law_1904 hl (k := 6) rfl (by rw [e]; rfl) (by decide) rfl (fun ls hl => ?_)
                                                                                  refine lv_goto (tgt := 23) hx hb dL_law_1907 (by decide) ?_
                                                                                  exact ih _ _ ⟨by (try dsimp only); omega, by (try dsimp only); omega⟩ x374 w372  h _ _ _ hP hS (lv_sub hl [3, 4, 5, 6, 0] rfl) k0
                                                                                · have h := brP_el h cc
                                                                                  refine lv_iconst (v := 0) hx hb dL_law_1885 (by decide) ?_
                                                                                  exact h.elim
                                                                          · have h := brP_er h c34
                                                                            by_cases c35 : ((sc u4.toNatClampNeg) &&& 63) = 35
                                                                            · have h := brP_el h c35
                                                                              refine k_tab (tgt := 1890) hx hb dL_law_40 (by decide) (by have cq := c35; (rw [cq]; decide)) ?_
                                                                              refine lv_aload_n hx hb dL_law_1890 rfl (lv_at hl 1 rfl) ?_
                                                                              obtain ⟨r375, w376, hf, h⟩ := bd1P_el h
                                                                              refine c_onl (c_runV (b := adr (gB G) 1 0) (As := []) (rest := []) hx hb hml hown hts hE hP hS (c_X12_digest l G hF hst w r375 w376 hf) (c_rec hE hP (hp_sh hP hF 0 1 (by decide)) (by decide) rfl rfl) w3_227 miX12_digest ⟨(Nat.le_of_ble_eq_true rfl), (Nat.le_of_ble_eq_true rfl)⟩ rfl hl.1 rfl (Nat.le_of_ble_eq_true rfl) dL_law_1891 (⟨by show _ ≤ 601024; (try dsimp only); omega, by show _ ≤ 7293034; (try dsimp only); omega⟩ : _ ∧ _)) hS (fun H locs hP hS => ?_)
                                                                              refine lv_aload_n hx hb dL_law_1894 rfl (lv_at hl 2 rfl) ?_
                                                                              obtain ⟨r377, w378, hf, h⟩ := bd1P_el h
                                                                              refine c_onl (c_runV (b := adr (gB G) 32 0) (As := []) (rest := [.long r375]) hx hb hml hown hts hE hP hS (c_X15_digest l G hF w376 r377 w378 hf) (c_rec hE hP (hp_sh hP hF 0 32 (by decide)) (by decide) rfl rfl) w9_9 miX15_digest ⟨(Nat.le_of_ble_eq_true rfl), (Nat.le_of_ble_eq_true rfl)⟩ rfl hl.1 rfl (Nat.le_of_ble_eq_true rfl) dL_law_1895 (⟨by show _ ≤ 601024; (try dsimp only); omega, by show _ ≤ 7293034; (try dsimp only); omega⟩ : _ ∧ _)) hS (fun H locs hP hS => ?_)
                                                                              refine W.lcmp hx hb dL_law_1898 ?_
                                                                              refine lv_if_eq (tgt := 1904) hx hb dL_law_1899 (by decide) (fun cc => ?_) (fun cc => ?_)
                                                                              · have h := brP_el h cc
                                                                                obtain ⟨x379, e⟩ : ∃ z : Int32, z = u4 + 6 := ⟨_, rfl⟩
                                                                                have h := sqP_at h e
                                                                                refine lv_iinc (v := x379) (lv' := [(4, .int x379), (0, .ref a0), (1, .ref (adr (gB G) 1 0)), (2, .ref (adr (gB G) 32 0)), (3, .ref (adr (gB G) 63 0))]) hx hb dL_law_1904 hl (k := 4) rfl (by rw [e]; rfl) (by decide) rfl (fun ls hl => ?_)
                                                                                refine lv_goto (tgt := 23) hx hb dL_law_1907 (by decide) ?_
                                                                                exact ih _ _ ⟨by (try dsimp only); omega, by (try dsimp only); omega⟩ x379 w378  h _ _ _ hP hS (lv_sub hl [1, 2, 3, 4, 0] rfl) k0
                                                                              · have h := brP_er h cc
                                                                                refine lv_iconst (v := 0) hx hb dL_law_1902 (by decide) ?_
                                                                                exact h.elim
                                                                            · have h := brP_er h c35
                                                                              refine k_tabD (vs := [0, 1, 2, 3, 4, 5, 6, 7, 8, 9, 10, 11, 12, 13, 14, 15, 16, 17, 18, 19, 20, 21, 22, 23, 24, 25, 26, 27, 28, 29, 30, 31, 32, 33, 34, 35]) (tgt := 1904) hx hb dL_law_40 (by decide) (by decide) (by decide) (fun q0 => ( fun q => Or.elim q (fun q => c0 (q)) (fun q => Or.elim q (fun q => c1 (q)) (fun q => Or.elim q (fun q => c2 (q)) (fun q => Or.elim q (fun q => c3 (q)) (fun q => Or.elim q (fun q => c4 (q)) (fun q => Or.elim q (fun q => c5 (q)) (fun q => Or.elim q (fun q => c6 (q)) (fun q => Or.elim q (fun q => c7 (q)) (fun q => Or.elim q (fun q => c8 (q)) (fun q => Or.elim q (fun q => c9 (q)) (fun q => Or.elim q (fun q => c10 (q)) (fun q => Or.elim q (fun q => c11 (q)) (fun q => Or.elim q (fun q => c12 (q)) (fun q => Or.elim q (fun q => c13 (q)) (fun q => Or.elim q (fun q => c14 (q)) (fun q => Or.elim q (fun q => c15 (q)) (fun q => Or.elim q (fun q => c16 (q)) (fun q => Or.elim q (fun q => c17 (q)) (fun q => Or.elim q (fun q => c18 (q)) (fun q => Or.elim q (fun q => c19 (q)) (fun q => Or.elim q (fun q => c20 (q)) (fun q => Or.elim q (fun q => c21 (q)) (fun q => Or.elim q (fun q => c22 (q)) (fun q => Or.elim q (fun q => c23 (q)) (fun q => Or.elim q (fun q => c24 (q)) (fun q => Or.elim q (fun q => c25 (q)) (fun q => Or.elim q (fun q => c26 (q)) (fun q => Or.elim q (fun q => c27 (q)) (fun q => Or.elim q (fun q => c28 (q)) (fun q => Or.elim q (fun q => c29 (q)) (fun q => Or.elim q (fun q => c30 (q)) (fun q => Or.elim q (fun q => c31 (q)) (fun q => Or.elim q (fun q => c32 (q)) (fun q => Or.elim q (fun q => c33 (q)) (fun q => Or.elim q (fun q => c34 (q)) (fun q => c35 (q))))))))))))))))))))))))))))))))))))) (by simpa only [List.mem_cons, List.not_mem_nil, or_false] using q0)) ?_
                                                                              obtain ⟨x380, e⟩ : ∃ z : Int32, z = u4 + 6 := ⟨_, rfl⟩
                                                                              have h := sqP_at h e
                                                                              refine lv_iinc (v := x380) (lv' := [(4, .int x380), (0, .ref a0), (1, .ref (adr (gB G) 1 0)), (2, .ref (adr (gB G) 32 0)), (3, .ref (adr (gB G) 63 0))]) hx hb dL_law_1904 hl (k := 4) rfl (by rw [e]; rfl) (by decide) rfl (fun ls hl => ?_)
                                                                              refine lv_goto (tgt := 23) hx hb dL_law_1907 (by decide) ?_
                                                                              exact ih _ _ ⟨by (try dsimp only); omega, by (try dsimp only); omega⟩ x380 w  h _ _ _ hP hS (lv_sub hl [1, 2, 3, 4, 0] rfl) k0
set_option maxHeartbeats 8000000 in
set_option maxRecDepth 100000 in
theorem c_L_law {p : Program} {l : Launch} {e : Env} {s : State} {m : MethodId} {args : Array Value} {below : List Frame} {meth : Method} {c : Code} {Q : State → Prop} {G : GG} (hC : CX p s m args c meth G cL_law 9 (some .boolean) RL) (hF0 : gF G = false) (hst : l.stackTraces = false) (a0 N : Nat) (sc : Nat → Int32) (hX : va_X a0 N sc s s.heap) (hbl : a0 < s.heap.size) (hbA : ¬ Ab G a0) (w : Mm) (h : f_L_law (gB G) N sc w) (hP : HP G w s.heap) (ls : Array Slot) (hl : lv_has ls 9 [(0, .ref a0)])
    (k0 : ∀ (cells slots : Nat), cells ≤ 601024 → slots ≤ 7293034 → ∀ (w' : Mm) (H : Heap) (locs : List Loc) (ls : Array Slot), HP (tG G) w' H → va_S (Ab G) s.heap H locs → lv_has ls 9 [] → W p l e room_1 s m args below meth c H locs cells slots Q (F0 m 1910 ls [])) : W p l e room_1 s m args below meth c s.heap [] 0 0 Q (F0 m 0 ls []) := by
  have hC9 : CX p s m args c meth (tG G) cL_law 9 (some .boolean) RL := hC
  obtain ⟨hx, hb, hml, hr, hown, hlocks, hts, hE⟩ := id hC
  have hS : va_S (Ab G) s.heap s.heap [] := va_S.rf
  unfold f_L_law at h
  obtain ⟨g2, h⟩ := gdP_el h
  refine k_new (ci := 10) hx hb hts hE inX12 tyX12 tyX12_ok hown hP hS w1_31 w1_32 w1_1 rfl (of_decide_eq_true g2) (wce_nw.trans rfl) (fun j hj => by rcases (show j = 0 ∨ j = 1 ∨ j = 2 ∨ j = 3 ∨ j = 4 ∨ j = 5 ∨ j = 6 ∨ j = 7 ∨ j = 8 ∨ j = 9 ∨ j = 10 by omega) with rfl | rfl | rfl | rfl | rfl | rfl | rfl | rfl | rfl | rfl | rfl <;> rfl) (Nat.le_of_ble_eq_true rfl) (Nat.le_of_ble_eq_true rfl) dL_law_0 (fun w1 H e hP hS => ?_)
  have h := sqP_at h e
  refine lv_dup hx hb dL_law_3 rfl ?_
  obtain ⟨w3, hf, h⟩ := bd0P_el h
  refine c_onv (c_runI (b := adr (gB G) 1 0) (As := []) (rest := [.ref (adr (gB G) 1 0)]) hx hb hml hown hts hE hP hS (c_X12_init l G hF0 w1 w3 hf) w1_33 miX12_init ⟨(Nat.le_of_ble_eq_true rfl), (Nat.le_of_ble_eq_true rfl)⟩ rfl hl.1 rfl (Nat.le_of_ble_eq_true rfl) dL_law_4 (⟨Nat.le_of_ble_eq_true rfl, Nat.le_of_ble_eq_true rfl⟩ : _ ∧ _)) hS (fun H locs hP hS => ?_)
  refine lv_astore_n (i := 1) (lv' := [(1, .ref (adr (gB G) 1 0)), (0, .ref a0)]) hx hb dL_law_7 rfl hl (by decide) rfl (fun ls hl => ?_)
  obtain ⟨g5, h⟩ := gdP_el h
  refine k_new (ci := 13) hx hb hts hE inX15 tyX15 tyX15_ok hown hP hS w5_219 w5_220 w1_14 rfl (of_decide_eq_true g5) (wce_nw.trans rfl) (fun j hj => by rcases (show j = 0 ∨ j = 1 ∨ j = 2 ∨ j = 3 ∨ j = 4 ∨ j = 5 ∨ j = 6 ∨ j = 7 ∨ j = 8 ∨ j = 9 ∨ j = 10 ∨ j = 11 ∨ j = 12 ∨ j = 13 ∨ j = 14 ∨ j = 15 ∨ j = 16 ∨ j = 17 ∨ j = 18 ∨ j = 19 ∨ j = 20 ∨ j = 21 ∨ j = 22 by omega) with rfl | rfl | rfl | rfl | rfl | rfl | rfl | rfl | rfl | rfl | rfl | rfl | rfl | rfl | rfl | rfl | rfl | rfl | rfl | rfl | rfl | rfl | rfl <;> rfl) (Nat.le_of_ble_eq_true rfl) (Nat.le_of_ble_eq_true rfl) dL_law_8 (fun w4 H e hP hS => ?_)
  have h := sqP_at h e
  refine lv_dup hx hb dL_law_11 rfl ?_
  obtain ⟨w6, hf, h⟩ := bd0P_el h
  refine c_onv (c_runI (b := adr (gB G) 32 0) (As := []) (rest := [.ref (adr (gB G) 32 0)]) hx hb hml hown hts hE hP hS (c_X15_init l G hF0 w4 w6 hf) w5_221 miX15_init ⟨(Nat.le_of_ble_eq_true rfl), (Nat.le_of_ble_eq_true rfl)⟩ rfl hl.1 rfl (Nat.le_of_ble_eq_true rfl) dL_law_12 (⟨Nat.le_of_ble_eq_true rfl, Nat.le_of_ble_eq_true rfl⟩ : _ ∧ _)) hS (fun H locs hP hS => ?_)
  refine lv_astore_n (i := 2) (lv' := [(2, .ref (adr (gB G) 32 0)), (1, .ref (adr (gB G) 1 0)), (0, .ref a0)]) hx hb dL_law_15 rfl hl (by decide) rfl (fun ls hl => ?_)
  refine lv_iconst (v := 1) hx hb dL_law_16 (by decide) ?_
  obtain ⟨g8, h⟩ := gdP_el h
  refine k_newa (t0 := 1) (ty := .long) hx hb hts hE hP hS (w_arrJ) rfl rfl (hE.1.2 1 _ rfl).2 (of_decide_eq_true g8) (wce_nw.trans rfl) rfl (by decide) rfl (Nat.le_of_ble_eq_true rfl) (Nat.le_of_ble_eq_true rfl) (Nat.le_of_ble_eq_true rfl) dL_law_17 (fun w7 H e hP hS => ?_)
  have h := sqP_at h e
  refine lv_astore_n (i := 3) (lv' := [(3, .ref (adr (gB G) 63 0)), (2, .ref (adr (gB G) 32 0)), (1, .ref (adr (gB G) 1 0)), (0, .ref a0)]) hx hb dL_law_19 rfl hl (by decide) rfl (fun ls hl => ?_)
  refine lv_iconst (v := 0) hx hb dL_law_20 (by decide) ?_
  refine lv_istore (i := 4) (lv' := [(4, .int 0), (3, .ref (adr (gB G) 63 0)), (2, .ref (adr (gB G) 32 0)), (1, .ref (adr (gB G) 1 0)), (0, .ref a0)]) hx hb dL_law_21 hl (by decide) rfl (fun ls hl => ?_)
  obtain ⟨hbt, h⟩ := h
  exact l_L_law (G := tG G) hC9 rfl hst a0 N sc hX hbl hbA 513 _ _ ⟨by (try dsimp only); omega, by (try dsimp only); omega⟩ 0 w7 h _ _ _ (show HP (tG G) _ _ from ⟨hP.1, hP.2.1, hP.2.2.1, fun _ => hbt⟩) hS (lv_sub hl [4, 3, 2, 1, 0] rfl) k0
