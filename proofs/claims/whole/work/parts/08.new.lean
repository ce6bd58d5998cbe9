def shS (w : Mm) (b c k st : Nat) : Bool := decide (gS w (adr b c k) = (c, k, st))
theorem shS_sh {w : Mm} {b c k st : Nat} (h : shS w b c k st = true) : gS w (adr b c k) = (c, k, st) := of_decide_eq_true h
theorem wce_nw {G : GG} {w : Mm} {c k st st' : Nat} : wce G (nw w c k st) c k st' = cel G (fun _ => 0) (fun _ => 0) (fun _ => 0) c k st' := by
  unfold wce; congr 1 <;> (funext j; simp [nw])
theorem wce_pS {G : GG} {w : Mm} {a c k st st' : Nat} : wce G (pS w a c k st) c k st' = wce G w c k st' := rfl
theorem stg_f {β : Type} {g : Nat → β} (n q : Nat) : (if q < n + 1 then some (g q) else none) = if q = n then some (g n) else (if q < n then some (g q) else none) := by
  by_cases h : q = n
  · subst h; simp
  · have h1 : q < n + 1 ↔ q < n := by omega
    simp [h, h1]
theorem cnt_pos {c k : Nat} (h : k < cnt c) : c ≠ 0 := by rintro rfl; exact absurd h (Nat.not_lt_zero k)
theorem HP.new {G : GG} {w : Mm} {H H1 : Heap} {c k st : Nat} (hP : HP G w H) (ha : adr (gB G) c k = gZ w) (e1 : va_at G.1 vwCl (H.size, wce G (nw w c k st) c k st) H1) (z : H1.size = H.size + 1) (o : ∀ q : Nat, q < H.size → H1[q]? = H[q]?) : HP G (nw w c k st) H1 := by
  have hS : ∀ a, gS (nw w c k st) a = if a = gZ w then (c, k, st) else gS w a := fun a => rfl
  have hZ : gZ (nw w c k st) = gZ w + 1 := rfl
  refine ⟨by rw [z, hZ, hP.1], by rw [hZ]; exact Nat.le_succ_of_le hP.2.1, fun a' c' k' st' h hc' => ?_, fun hf => ?_⟩
  · rw [hS] at h
    by_cases hq : a' = gZ w
    · rw [if_pos hq] at h
      simp only [Prod.mk.injEq] at h
      obtain ⟨rfl, rfl, rfl⟩ := h
      subst hq
      refine ⟨hP.2.1, ha.symm, ?_⟩
      rw [← hP.1]; exact e1
    · rw [if_neg hq] at h
      obtain ⟨q1, q2, q3⟩ := hP.2.2.1 a' c' k' st' h hc'
      refine ⟨q1, q2, ?_⟩
      have hn : ¬ (c' = c ∧ k' = k) := by
        rintro ⟨rfl, rfl⟩
        exact hq (q2.trans ha)
      have hw : wce G (nw w c k st) c' k' st' = wce G w c' k' st' := by
        unfold wce
        congr 1 <;> (funext j; simp only [nw]; rw [if_neg hn])
      rw [hw]
      exact q3.kept (o a' q3.lt)
  · have hb := hP.2.2.2 hf
    intro c' k' hk'
    rw [hS, if_neg]
    · exact hb c' k' hk'
    · intro e
      have := (hP.2.2.1 _ _ _ _ (hb c' k' hk') (cnt_pos hk')).2.2.lt
      rw [hP.1, ← e] at this
      exact absurd this (Nat.lt_irrefl _)
theorem HP.stage {G : GG} {w : Mm} {H H1 : Heap} {a c k st st1 : Nat} (hP : HP G w H) (hs : gS w a = (c, k, st)) (hc : c ≠ 0) (hb : gF G = true → cnt c ≤ k) (e1 : va_at G.1 vwCl (a, wce G w c k st1) H1) (z : H1.size = H.size) (o : ∀ q, q ≠ a → H1[q]? = H[q]?) : HP G (pS w a c k st1) H1 := by
  have hS : ∀ q, gS (pS w a c k st1) q = if q = a then (c, k, st1) else gS w q := fun q => rfl
  obtain ⟨p1, p2, p3⟩ := hP.2.2.1 a c k st hs hc
  refine ⟨by rw [z]; exact hP.1, hP.2.1, fun a' c' k' st' h hc' => ?_, fun hf => ?_⟩
  · rw [hS] at h
    by_cases hq : a' = a
    · rw [if_pos hq] at h
      simp only [Prod.mk.injEq] at h
      obtain ⟨rfl, rfl, rfl⟩ := h
      subst hq
      exact ⟨p1, p2, e1⟩
    · rw [if_neg hq] at h
      obtain ⟨q1, q2, q3⟩ := hP.2.2.1 a' c' k' st' h hc'
      exact ⟨q1, q2, q3.kept (o a' hq)⟩
  · have h1 := hP.2.2.2 hf
    intro c' k' hk'
    rw [hS, if_neg]
    · exact h1 c' k' hk'
    · intro e
      have h2 := h1 c' k' hk'
      rw [e, hs] at h2
      simp only [Prod.mk.injEq] at h2
      obtain ⟨rfl, rfl, -⟩ := h2
      exact absurd hk' (Nat.not_lt.mpr (hb hf))
section NEWS
variable {p : Program} {l : Launch} {e : Env} {R : Room} {s : State} {m : MethodId} {args : Array Value} {below : List Frame} {meth : Method} {c : Code} {H : Heap} {locs : List Loc} {cells slots : Nat} {Q : State → Prop}
variable {cc : ByteArray} {pc : Nat} {ls : Array Slot} {rest : List Value} {G : GG} {w : Mm} {a cd ky st : Nat} {own : String} {index nL : Nat}
theorem k_new {C : String} {T : u_T} {N ci : Nat} (hexec : p.tables.exec = Jvm.exec) (hb : c.code = cc) (hts : ∀ w ∈ TB, w.before args s = true) (hE : KE G s) (hin : ∀ w ∈ u_ws C T N, w ∈ TB) (ty : Nat → FieldType) (hty : ∀ k, k < N → parseFieldDescriptor (T k).2.2.1 = some (ty k)) (hown : s.vm.findClass own = some m.cls) (hP : HP G w H) (hS : va_S (Ab G) s.heap H locs)
    (m1 : Cond.classLink own index C ∈ TB) (m2 : Cond.instantiable C N ∈ TB) (m3 : Cond.initialized C ∈ TB) (hc : vwCl[ci]? = some (C, T, N)) (ha : adr (gB G) cd ky = gZ w) {fs : List Value} (he : wce G (nw w cd ky 0) cd ky 0 = .inr (ci, fs)) (hfs : ∀ j, j < N → defaultValue (ty j) = vp_V fs j) (hcells : cells + 1 ≤ R.cells) (hslots : slots + N ≤ R.slots) (hdg : decode cc pc = .ok (.new index, 3))
    (kk : ∀ (w1 : Mm) (H1 : Heap), w1 = nw w cd ky 0 → HP G w1 H1 → va_S (Ab G) s.heap H1 locs → W p l e R s m args below meth c H1 locs (cells + 1) (slots + N) Q (F0 m (pc + 3) ls (.ref (adr (gB G) cd ky) :: rest))) : W p l e R s m args below meth c H locs cells slots Q (F0 m pc ls rest) := by
  have hKn := hE.1.1 ci _ hc
  refine W.newcK hexec hb hown (hts _ m1) (hts _ m2) (hts _ m3) rfl hdg hcells hslots hKn.2.1 rfl fun H1 kC hkC e1 z1 o1 => ?_
  have hr : H.size = adr (gB G) cd ky := hP.1.trans ha.symm
  have := kk _ H1 rfl (hP.new ha (by rw [he]; exact ⟨_, hc, (u_born ty hts hin hKn hkC e1 hty).to hfs⟩) z1 o1) ⟨Nat.le_trans hS.1 (by omega), fun x h1 h2 => (o1 x (Nat.lt_of_lt_of_le h1 hS.1)).trans (hS.2.1 x h1 h2), hS.2.2⟩
  rw [← hr] at this
  exact this
theorem k_newa {atype : ArrayType} {t0 : Nat} {cA : ClassId} {ty : FieldType} (hexec : p.tables.exec = Jvm.exec) (hb : c.code = cc) (hts : ∀ w ∈ TB, w.before args s = true) (hE : KE G s) (hP : HP G w H) (hS : va_S (Ab G) s.heap H locs) (m1 : Cond.arrayClass ty ∈ TB) (hty : newarray.typeOf atype = ty) (ht : (tys G)[t0]? = some (cA, ty)) (hnm : s.vm.findClass ("[" ++ ty.toString) = some cA)
    (ha : adr (gB G) cd ky = gZ w) {n : Int32} {N : Nat} {a0 : vp_A} (he : wce G (nw w cd ky 0) cd ky 0 = .inl (cA, a0)) (hv : vp_cell cA a0 = arrV cA N (fun _ => defaultValue ty)) (hn : ¬ n < 0) (hN : n.toNatClampNeg = N) (hbytes : N * componentBytes ty ≤ 536870912) (hcells : cells + 1 ≤ R.cells) (hslots : slots + N ≤ R.slots) (hdg : decode cc pc = .ok (.newarray atype, 2))
    (kk : ∀ (w1 : Mm) (H1 : Heap), w1 = nw w cd ky 0 → HP G w1 H1 → va_S (Ab G) s.heap H1 locs → W p l e R s m args below meth c H1 locs (cells + 1) (slots + N) Q (F0 m (pc + 2) ls (.ref (adr (gB G) cd ky) :: rest))) : W p l e R s m args below meth c H locs cells slots Q (F0 m pc ls (.int n :: rest)) := by
  subst hty
  refine va_newaK hexec hb (hts _ m1) rfl hdg rfl hn hN hbytes hcells hslots rfl fun H1 cA' e1 z1 o1 hAr hNm => ?_
  have hcA : cA' = cA := Option.some.inj (hNm.symm.trans hnm)
  subst hcA
  have hr : H.size = adr (gB G) cd ky := hP.1.trans ha.symm
  have := kk _ H1 rfl (hP.new ha (by rw [he]; show H1[H.size]? = some (vp_cell _ _); rw [hv]; exact e1) z1 o1) ⟨Nat.le_trans hS.1 (by omega), fun x h1 h2 => (o1 x (Nat.lt_of_lt_of_le h1 hS.1)).trans (hS.2.1 x h1 h2), hS.2.2⟩
  rw [← hr] at this
  exact this
theorem k_newq {C : String} {t0 : Nat} {cA : ClassId} (hexec : p.tables.exec = Jvm.exec) (hb : c.code = cc) (hts : ∀ w ∈ TB, w.before args s = true) (hE : KE G s) (hown : s.vm.findClass own = some m.cls) (hP : HP G w H) (hS : va_S (Ab G) s.heap H locs) (m1 : Cond.classLink own index C ∈ TB) (hover : va_AO C s) (ht : (tys G)[t0]? = some (cA, .object C))
    (ha : adr (gB G) cd ky = gZ w) {n : Int32} {N : Nat} {f : Nat → Option Nat} (he : wce G (nw w cd ky 0) cd ky 0 = .inl (cA, (N, .inr (.inr (.inr (.inr f)))))) (hv : ∀ i, f i = none) (hn : ¬ n < 0) (hN : n.toNatClampNeg = N) (hbytes : N * 4 ≤ 536870912) (hcells : cells + 1 ≤ R.cells) (hslots : slots + N ≤ R.slots) (hdg : decode cc pc = .ok (.anewarray index, 3))
    (kk : ∀ (w1 : Mm) (H1 : Heap), w1 = nw w cd ky 0 → HP G w1 H1 → va_S (Ab G) s.heap H1 locs → W p l e R s m args below meth c H1 locs (cells + 1) (slots + N) Q (F0 m (pc + 3) ls (.ref (adr (gB G) cd ky) :: rest))) : W p l e R s m args below meth c H locs cells slots Q (F0 m pc ls (.int n :: rest)) := by
  subst hN
  refine W.anew hexec hb hown (hts _ m1) (va_AO.use hover) rfl hdg rfl hn hbytes hcells hslots fun cA' kA comp f1 f2 f3 f4 => ?_
  generalize hH1 : H.push ({ cls := cA', slots := Array.replicate n.toNatClampNeg .null, vm := .none } : Cell) = H1
  have z1 : H1.size = H.size + 1 := by rw [← hH1, Array.size_push]
  have e1 : H1[H.size]? = some (arrV cA' n.toNatClampNeg (fun _ => .null)) := by rw [← hH1, Array.getElem?_push_size, ← arrV_new]
  have o1 : ∀ q : Nat, q < H.size → H1[q]? = H[q]? := fun q hq => by rw [← hH1, Array.getElem?_push, if_neg (Nat.ne_of_lt hq)]
  obtain ⟨kA', comp', -, -, -, hnm⟩ := (hE.1.2 t0 _ ht).2
  have hcA : cA' = cA := Option.some.inj (f1.symm.trans hnm)
  subst hcA
  have hr : H.size = adr (gB G) cd ky := hP.1.trans ha.symm
  have hfn : f = fun _ => none := funext hv
  have := kk _ H1 rfl (hP.new ha (by rw [he, hfn]; exact e1) z1 o1) ⟨Nat.le_trans hS.1 (by omega), fun x h1 h2 => (o1 x (Nat.lt_of_lt_of_le h1 hS.1)).trans (hS.2.1 x h1 h2), hS.2.2⟩
  rw [← hr] at this
  exact this
theorem k_putF {ref C : String} {T : u_T} {N ci : Nat} (hexec : p.tables.exec = Jvm.exec) (hb : c.code = cc) (hts : ∀ w ∈ TB, w.before args s = true) (hE : KE G s) (hin : ∀ w ∈ u_ws C T N, w ∈ TB) (ty0 : Nat → FieldType) (hty : ∀ k, k < N → parseFieldDescriptor (T k).2.2.1 = some (ty0 k)) (hnm : ∀ a, a < N → ∀ b, b < N → a ≠ b → (T a).2.1 ≠ (T b).2.1) (hown : s.vm.findClass own = some m.cls)
    (hP : HP G w H) (hS : va_S (Ab G) s.heap H locs) (hs : gS w a = (cd, ky, st)) (hc0 : cd ≠ 0) (hbt : gF G = true → cnt cd ≤ ky) {fs : List Value} (he : wce G w cd ky st = .inr (ci, fs)) (hc : vwCl[ci]? = some (C, T, N)) (k : Nat) (hk : k < N) (hlink : Cond.fieldLink own index ref (T k).2.1 (T k).2.2.1 ∈ TB) (hsame : (T k).1 = ref) (hfin : (T k).2.2.2 = true) (hin2 : meth.name = "<init>") (hdecl : (T k).1 = own) {ty : FieldType} {v : Value} (hd : parseFieldDescriptor (T k).2.2.1 = some ty) (hn : narrow ty v = v) (hfit : fits ty v = true) (hl : k < fs.length)
    {st1 : Nat} (he1 : wce G w cd ky st1 = .inr (ci, fs.set k v))
    (hdg : decode cc pc = .ok (.putfield index, 3)) (kk : ∀ (w2 : Mm) (H1 : Heap) (locs1 : List Loc), w2 = pS w a cd ky st1 → HP G w2 H1 → va_S (Ab G) s.heap H1 locs1 → W p l e R s m args below meth c H1 locs1 cells slots Q (F0 m (pc + 3) ls rest)) : W p l e R s m args below meth c H locs cells slots Q (F0 m pc ls (v :: .ref a :: rest)) := by
  have hp := hp_at hP hs hc0
  rw [he] at hp
  have hK := hE.1
  have hap := va_apart (own := own) hts hin ty0 hty hnm hK hc
  obtain ⟨r, h1, cell, q1, q2, q3, q4⟩ := hp 0 _ rfl
  have hr : r = (C, T, N) := Option.some.inj (h1.symm.trans hc)
  subst hr
  obtain ⟨hSl, hfc, kC, hkC, hkind⟩ := hK.1 ci _ hc
  obtain ⟨cf, kf, fi, f, hi, hsl⟩ := hSl k hk
  have hlay := hts _ (hin _ (u_in_lay hk))
  unfold u_lay at hlay
  rw [if_pos hfin] at hlay
  have hst := (u_facts hfc hkC (u_lays hts hin hk) hi).1
  have hcf : m.cls = cf := by
    obtain ⟨_, _, c', _, _, _, -, -, hf', -, -, -, hown2, -⟩ := Cond.laysFinal_spec hlay
    have e1 : c' = cf := by have := hi.symm.trans hf'; simp at this; exact this.1.symm
    rw [hdecl] at hown2
    rw [← e1]; exact Option.some.inj (hown.symm.trans hown2)
  have h6 := u_fits hfc hkC hkind (Or.inr hlay) hi hd hn hfit
  refine W.putFinK hexec hb hown (hts _ hlink) (by rw [← hsame]; exact hi) hst hcf hin2 (by rw [q2]; exact h6) q1 q3 (by rw [hsl]; exact k2_hasslot (q4 k hk)) rfl rfl hdg fun H' e1 e2 e3 => ?_
  rw [hsl] at e1 ⊢
  refine kk _ H' _ rfl (hP.stage hs hc0 hbt ?_ e2 e3) (hS.put e2 e3 ((hP.2.2.1 a _ _ _ hs hc0).1))
  rw [he1]
  exact ⟨_, hc, t_OB.to (V := updV (vp_V fs) k v) ⟨_, e1, q2, q3, t_set q4 hap hk v⟩ (fun j _ => vp_updV_set hl v j)⟩
/-- a cell into an array of references, in the row of the stages -/
theorem k_aastS {C2 : String} {T2 : u_T} {N2 ci2 t0 : Nat} {cA : ClassId} {a2 cd2 ky2 st2 : Nat} (hexec : p.tables.exec = Jvm.exec) (hb : c.code = cc) (hE : KE G s) (hP : HP G w H) (hS : va_S (Ab G) s.heap H locs) (hs : gS w a = (cd, ky, st)) (hc0 : cd ≠ 0) (hbt : gF G = true → cnt cd ≤ ky) {n : Nat} {f : Nat → Option Nat} {i : Int32} (he : wce G w cd ky st = .inl (cA, (n, .inr (.inr (.inr (.inr f)))))) (ht : (tys G)[t0]? = some (cA, .object C2))
    (hs2 : gS w a2 = (cd2, ky2, st2)) (hc2 : cd2 ≠ 0) {fs2 : List Value} (he2 : wce G w cd2 ky2 st2 = .inr (ci2, fs2)) (hcl2 : vwCl[ci2]? = some (C2, T2, N2)) {st1 : Nat} {f1 : Nat → Option Nat} (he1 : wce G w cd ky st1 = .inl (cA, (n, .inr (.inr (.inr (.inr f1)))))) (hf1 : ∀ q, f1 q = if q = i.toNatClampNeg then some a2 else f q) (hin : vB i n = true) (hdg : decode cc pc = .ok (.aastore, 1))
    (kk : ∀ (w2 : Mm) (H1 : Heap) (locs1 : List Loc), w2 = pS w a cd ky st1 → HP G w2 H1 → va_S (Ab G) s.heap H1 locs1 → W p l e R s m args below meth c H1 locs1 cells slots Q (F0 m (pc + 1) ls rest)) : W p l e R s m args below meth c H locs cells slots Q (F0 m pc ls (.ref a2 :: .int i :: .ref a :: rest)) := by
  have hp := hp_at hP hs hc0
  rw [he] at hp
  have hp2 := hp_at hP hs2 hc2
  rw [he2] at hp2
  have hlt : i.toNatClampNeg < n := vB_lt hin
  have h0 : ¬ i < 0 := fun q => vB_in hin (Or.inl q)
  obtain ⟨r', hr', cellV, g1, g2, g3, -⟩ := hp2 0 _ rfl
  have hcls := (hE.1.1 ci2 _ hcl2).2
  obtain ⟨kA, comp, k1, k2, k3, -⟩ := (hE.1.2 t0 _ ht).2
  have hcomp : comp = G.1.1 ci2 := Option.some.inj (k3.symm.trans hcls.1)
  subst hcomp
  obtain ⟨kC, hkC, -⟩ := hcls.2
  refine W.aast hexec hb (hp 0 _ rfl) (fun q h => by cases h) (fun h => by cases h) k1 k2 rfl hkC ⟨h0, by show _ < (arrV _ _ _).slots.size; rw [arrV_size]; exact hlt⟩ g1 (fun q h => by rw [g3] at h; cases h) (by rw [g2]; exact hkC) (by rw [g2]; exact va_assign hcls) rfl rfl hdg fun H1 e z oq => ?_
  refine kk _ H1 _ rfl (hP.stage hs hc0 hbt ?_ z oq) (hS.put z oq ((hP.2.2.1 a _ _ _ hs hc0).1))
  rw [he1]
  show H1[a]? = some (vp_cell _ _)
  rw [e]
  rw [vp_cell_q, vp_cell_q, arrV_store]
  congr 2
  funext q
  rw [hf1 q]
  by_cases hq : q = i.toNatClampNeg
  · subst hq
    simp [updV, va_rf]
  · simp [updV, hq]
/-- Object() -/
theorem k_obj (hexec : p.tables.exec = Jvm.exec) (hb : c.code = cc) (hml : c.maxLocals = nL) (hown : s.vm.findClass own = some m.cls) (hts : ∀ w ∈ TB, w.before args s = true) (m1 : Cond.methodLink own index Lib.objectInit ∈ TB) (hsz : ls.size = nL) (hdg : decode cc pc = .ok (.invokespecial index, 3)) (hf : 1 ≤ R.frames) (hlo : 20 ≤ R.locals) (hr : (rest.map fun v => v.category).sum ≤ 8)
    (kk : W p l e R s m args below meth c H locs cells slots Q (F0 m (pc + 3) ls rest)) : W p l e R s m args below meth c H locs cells slots Q (F0 m pc ls (.ref a :: rest)) :=
  W.objInit hexec hb hown (hts _ m1) (hts _ w1_37) (hts _ w1_38) rfl (by rw [hml]; exact hsz) rfl hdg hf (by show 2 * 0 + _ + 12 ≤ _; omega) (W.eq (g2 := F0 m (pc + 3) ls rest) rfl kk)
def pCp (w : Mm) (c0 k0 c k n : Nat) : Mm := (fun c' k' i' => if c' = c ∧ k' = k ∧ i' < n then w.1 c0 k0 i' else w.1 c' k' i', w.2)
theorem loc_pCp {w : Mm} {c0 k0 c k n : Nat} : Loc1 w (pCp w c0 k0 c k n) c k := ⟨fun c' k' h => ⟨by funext j; simp only [pCp]; rw [if_neg (fun q => h ⟨q.1, q.2.1⟩)], rfl, rfl⟩, rfl⟩
/-- System.arraycopy of ints, both from their first place on -/
theorem k_copyi {a0 cd0 ky0 st0 : Nat} (hexec : p.tables.exec = Jvm.exec) (hb : c.code = cc) (hml : c.maxLocals = nL) (hown : s.vm.findClass own = some m.cls) (hts : ∀ w ∈ TB, w.before args s = true) (hE : KE G s) (hP : HP G w H) (hS : va_S (Ab G) s.heap H locs) (hs0 : gS w a0 = (cd0, ky0, st0)) (hc00 : cd0 ≠ 0) (hs : gS w a = (cd, ky, st)) (hc0 : cd ≠ 0) {n0 n1 : Nat} (he0 : wce G w cd0 ky0 st0 = .inl (G.2.1 0, (n0, .inl (w.1 cd0 ky0)))) (he : wce G w cd ky st = .inl (G.2.1 0, (n1, .inl (w.1 cd ky)))) {n : Int32}
    (he1 : wce G (pCp w cd0 ky0 cd ky n.toNatClampNeg) cd ky st = .inl (G.2.1 0, (n1, .inl ((pCp w cd0 ky0 cd ky n.toNatClampNeg).1 cd ky)))) (m1 : Cond.methodLink own index arraycopyName ∈ TB) (hsz : ls.size = nL) (h3 : ¬ n < 0) (h4 : n.toNatClampNeg ≤ n0) (h5 : n.toNatClampNeg ≤ n1) (hframes : 1 ≤ R.frames) (hlocals : (rest.map fun v => v.category).sum + (nativeFrameWords "java/lang/System" "arraycopy" 5 + 11) ≤ R.locals) (hdg : decode cc pc = .ok (.invokestatic index, 3))
    (kk : ∀ (w2 : Mm) (H1 : Heap) (locs1 : List Loc), w2 = pCp w cd0 ky0 cd ky n.toNatClampNeg → HP G w2 H1 → va_S (Ab G) s.heap H1 locs1 → W p l e R s m args below meth c H1 locs1 cells slots Q (F0 m (pc + 3) ls rest)) : W p l e R s m args below meth c H locs cells slots Q (F0 m pc ls (.int n :: .int 0 :: .ref a :: .int 0 :: .ref a0 :: rest)) := by
  have nn : ∀ z : Int32, ¬ z < 0 → z.toInt = (z.toNatClampNeg : Int) := by
    intro z hz
    have hz0 : (0 : Int) ≤ z.toInt := by
      have := Int32.not_lt.mp hz
      simpa using Int32.le_iff_toInt_le.mp this
    show z.toInt = ((z.toInt.toNat : Nat) : Int)
    omega
  intro T hT X
  have hp0 := hp_at hP hs0 hc00
  rw [he0] at hp0
  have hp1 := hp_at hP hs hc0
  rw [he] at hp1
  have hq0 : H[a0]? = some (vp_cell (G.2.1 0) (n0, .inl (w.1 cd0 ky0))) := hp0 0 _ rfl
  have hq1 : H[a]? = some (vp_cell (G.2.1 0) (n1, .inl (w.1 cd ky))) := hp1 0 _ rfl
  obtain ⟨-, k0, hk0, cm0, hkk0⟩ := (hE.1.2 0 _ rfl).1 n0 (fun j => .int (w.1 cd0 ky0 j))
  obtain ⟨-, k1, hk1, cm1, hkk1⟩ := (hE.1.2 0 _ rfl).1 n1 (fun j => .int (w.1 cd ky j))
  have z0 : ((0 : Int32)).toNatClampNeg = 0 := rfl
  obtain ⟨vm', X', step⟩ := X.arraycopy hexec hown (hts _ m1) (hts _ w7_239) (hts _ w7_238) (hts _ w1_29) (src := a0) (dst := a) (cs := vp_cell (G.2.1 0) (n0, .inl (w.1 cd0 ky0))) (cd := vp_cell (G.2.1 0) (n1, .inl (w.1 cd ky))) (srcPos := 0) (destPos := 0) (n := n) (by rw [hT]; exact hq0) (by rw [hT]; exact hq1)
    (fun _ h => by cases h) (fun _ h => by cases h) (fun h => by cases h) (fun h => by cases h) hk0 hk1 hkk0 hkk1 (by simp [refKind]) (by decide) (by decide) h3
    (by rw [nn n h3]; show ¬ _ > ((arrV (G.2.1 0) n0 (fun j => .int (w.1 cd0 ky0 j))).slots.size : Int); rw [arrV_size]; simp; omega)
    (by rw [nn n h3]; show ¬ _ > ((arrV (G.2.1 0) n1 (fun j => .int (w.1 cd ky j))).slots.size : Int); rw [arrV_size]; simp; omega)
    (fun vm₁ _ i hi => by
      have e : (vp_cell (G.2.1 0) (n0, .inl (w.1 cd0 ky0))).slots.getD (((0 : Int32)).toNatClampNeg + i) .null = .int (w.1 cd0 ky0 i) := by
        show (arrV (G.2.1 0) n0 (fun j => .int (w.1 cd0 ky0 j))).slots.getD _ _ = _
        rw [Array.getD_eq_getD_getElem?, z0, Nat.zero_add, arrV_read _ _ (by omega)]
        rfl
      refine ⟨?_, ?_⟩
      · rw [e]
        rfl
      · rw [e]
        exact trivial)
    (g := F0 m pc ls (.int n :: .int 0 :: .ref a :: .int 0 :: .ref a0 :: rest)) rfl (by rw [hml]; exact hsz) (rest := rest) rfl (by rw [hb]; exact hdg) hframes (by show 2 * 0 + _ + _ ≤ _; omega)
  have e1 : copied (vp_cell (G.2.1 0) (n0, .inl (w.1 cd0 ky0))) (vp_cell (G.2.1 0) (n1, .inl (w.1 cd ky))) 0 0 n = vp_cell (G.2.1 0) (n1, .inl (va_cpy (w.1 cd0 ky0) (w.1 cd ky) 0 0 n.toNatClampNeg)) := va_copied (fun z => .int z) (G.2.1 0) (G.2.1 0) (w.1 cd0 ky0) (w.1 cd ky) (by omega)
  have e2 : va_cpy (w.1 cd0 ky0) (w.1 cd ky) 0 0 n.toNatClampNeg = (pCp w cd0 ky0 cd ky n.toNatClampNeg).1 cd ky := by
    funext q
    simp [va_cpy, pCp]
  rw [e1, e2] at X' step
  have hl : a < H.size := (Array.getElem?_eq_some_iff.mp hq1).1
  have hheap : ((T.setVm vm').setCell a (vp_cell (G.2.1 0) (n1, .inl ((pCp w cd0 ky0 cd ky n.toNatClampNeg).1 cd ky)))).heap = H.setIfInBounds a (vp_cell (G.2.1 0) (n1, .inl ((pCp w cd0 ky0 cd ky n.toNatClampNeg).1 cd ky))) := by rw [← hT]; rfl
  have oq : ∀ q : Nat, q ≠ a → (H.setIfInBounds a (vp_cell (G.2.1 0) (n1, .inl ((pCp w cd0 ky0 cd ky n.toNatClampNeg).1 cd ky))))[q]? = H[q]? := fun q hq => by simp [Array.getElem?_setIfInBounds, Ne.symm hq]
  have hB := (hP.2.2.1 a _ _ _ hs hc0).1
  obtain ⟨t, a1, b1⟩ := kk _ _ _ rfl (hP.put hs hc0 loc_pCp (by rw [he1]; show (H.setIfInBounds a _)[a]? = some _; simp [Array.getElem?_setIfInBounds, hl]) (by simp) oq) ⟨by simp; exact hS.1, fun q g1 g2 => by
      rw [oq q (fun e => g2 (by rw [e]; exact hB))]
      exact hS.2.1 q g1 g2, fun q hq => by
      rcases List.mem_append.mp hq with h | h
      · exact hS.2.2 q h
      · obtain ⟨z, -, hz⟩ := List.mem_map.mp h
        rw [← hz]
        exact hB⟩ _ hheap X'
  exact ⟨t, step t a1, b1⟩
end NEWS

theorem w_arrI : Cond.arrayClass .int ∈ TB := w1_91
theorem w_arrJ : Cond.arrayClass .long ∈ TB := w1_92
theorem w_arrB : Cond.arrayClass .byte ∈ TB := w1_54
theorem w_arrZ : Cond.arrayClass .boolean ∈ TB := w1_135
theorem ao_H {G : GG} {s : State} (hE : KE G s) : va_AO "HedgeNews$Hedge" s := hE.2.2.2.2.2.2.2.2.2.2.2.2.1 _ (by simp [NWA])
theorem ao_R {G : GG} {s : State} (hE : KE G s) : va_AO "HedgeNews$Rose" s := hE.2.2.2.2.2.2.2.2.2.2.2.2.1 _ (by simp [NWA])
theorem ao_K {G : GG} {s : State} (hE : KE G s) : va_AO "HedgeNews$Kind" s := hE.2.2.2.2.2.2.2.2.2.2.2.2.1 _ (by simp [NWA])