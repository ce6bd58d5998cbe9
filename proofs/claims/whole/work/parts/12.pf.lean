-- THE PURE PART: what holds on a news's way
def sumI : Nat → (Nat → Int32) → Int32
  | 0, _ => 0
  | n + 1, f => sumI n f + f n
def OKb (H R : Nat) (S : Gs) : Prop := SH H R S ∧ (∀ h, h < H → 1 ≤ (sg S 1 h).toInt ∧ (sg S 1 h).toInt ≤ 9) ∧ (∀ r, r < R → (0 ≤ (sg S 6 r).toInt ∧ (sg S 6 r).toInt < (sg S 4 r).toInt ∧ (sg S 4 r).toInt ≤ 9)) ∧ sg S 0 4 = sumI R (sg S 7)
def OK (B : Int) (H R : Nat) (S : Gs) : Prop := OKb H R S ∧ ∀ r, r < R → 0 ≤ (sg S 5 r).toInt ∧ (sg S 5 r).toInt ≤ B
def vE (H R : Nat) (S : Gs) (e : Nat × Nat × Int32) : Prop := e.1 < H ∧ (e.2.1 < H ∨ (8 ≤ e.2.1 ∧ e.2.1 < 8 + R ∧ e.2.1 ∈ sr S e.1)) ∧ 1 ≤ e.2.2.toInt ∧ e.2.2.toInt ≤ 98
def hc (f : Nat → Int32) : Nat → Nat
  | 0 => 0
  | n + 1 => hc f n + (if f n ≤ 0 then 0 else 1)
def cntE (x : Nat) : List (Nat × Nat × Int32) → Nat
  | [] => 0
  | e :: t => (if e.2.1 = x then 1 else 0) + cntE x t
def NI (B : Int) (H R k : Nat) (N : Ns) : Prop := OKb H R (nG N) ∧ (∀ r, r < R → 0 ≤ (sg (nG N) 5 r).toInt ∧ (sg (nG N) 5 r).toInt + 98 * (cntE (8 + r) (nQ N) : Nat) + 98 * (8 - (hc (nF N) 8 : Nat)) ≤ B + 784) ∧ (∀ e ∈ nQ N, vE H R (nG N) e ∧ ¬ nF N e.1 ≤ 0) ∧ ((nQ N).map (fun e => (e.1, e.2.1))).Nodup ∧ nT N = k + (nQ N).length ∧ nT N ≤ 15 * hc (nF N) 8
theorem hc_le {f : Nat → Int32} : ∀ n, hc f n ≤ n
  | 0 => Nat.le_refl _
  | n + 1 => by
    have := hc_le (f := f) n
    unfold hc
    split <;> omega
theorem hc_o {f : Nat → Int32} {h : Nat} {v : Int32} : ∀ n, n ≤ h → hc (fun j => if j = h then v else f j) n = hc f n
  | 0, _ => rfl
  | n + 1, e => by
    unfold hc
    rw [hc_o n (by omega), if_neg (show ¬ n = h by omega)]
theorem hc_upd {f : Nat → Int32} {h : Nat} {v : Int32} (h0 : f h ≤ 0) (hv : ¬ v ≤ 0) : ∀ n, h < n → hc (fun j => if j = h then v else f j) n = hc f n + 1
  | n + 1, e => by
    unfold hc
    by_cases q : h = n
    · subst q
      rw [hc_o h (Nat.le_refl _), if_pos rfl, if_neg hv, if_pos h0]
    · rw [hc_upd h0 hv n (by omega), if_neg (show ¬ n = h by omega)]
      omega
theorem cntE_app {x : Nat} : ∀ a b, cntE x (a ++ b) = cntE x a + cntE x b
  | [], b => by simp [cntE]
  | e :: t, b => by simp only [List.cons_append, cntE, cntE_app t b]; omega
theorem cntE_map {x h : Nat} {v : Int32} : ∀ l : List Nat, l.Nodup → cntE x (l.map (fun y => (h, y, v))) ≤ 1 ∧ (x ∉ l → cntE x (l.map (fun y => (h, y, v))) = 0)
  | [], _ => by simp [cntE]
  | a :: t, e => by
    obtain ⟨e1, e2⟩ := List.nodup_cons.mp e
    obtain ⟨i1, i2⟩ := cntE_map (x := x) (h := h) (v := v) t e2
    simp only [List.map_cons, cntE]
    by_cases q : a = x
    · subst q
      rw [if_pos rfl, i2 e1]
      simp
    · rw [if_neg q]
      refine ⟨by omega, fun m => ?_⟩
      rw [i2 fun m' => m (List.mem_cons_of_mem _ m')]
theorem sumI_o {f : Nat → Int32} {r : Nat} {v : Int32} : ∀ n, n ≤ r → sumI n (fun j => if j = r then v else f j) = sumI n f
  | 0, _ => rfl
  | n + 1, e => by
    unfold sumI
    show sumI n _ + (if n = r then v else f n) = _
    rw [sumI_o n (by omega), if_neg (show ¬ n = r by omega)]
theorem sumI_upd {f : Nat → Int32} {r : Nat} : ∀ n, r < n → sumI n (fun j => if j = r then f r + 1 else f j) = sumI n f + 1
  | n + 1, e => by
    unfold sumI
    by_cases q : r = n
    · subst q
      show sumI r _ + (if r = r then f r + 1 else f r) = _
      rw [sumI_o r (Nat.le_refl _), if_pos rfl, Int32.add_assoc]
    · show sumI n _ + (if n = r then f r + 1 else f n) = _
      rw [sumI_upd n (by omega), if_neg (show ¬ n = r by omega), Int32.add_assoc, Int32.add_assoc, Int32.add_comm 1]
theorem plc_erase {x : Nat} : ∀ {l : List Nat} {i j : Nat}, plc x l i = some j → l.eraseIdx (j - i) = l.erase x
  | [], i, j, e => by simp [plc] at e
  | a :: t, i, j, e => by
    unfold plc at e
    by_cases h : a = x
    · rw [if_pos h] at e
      cases e
      subst h
      simp
    · rw [if_neg h] at e
      have h1 := plc_some e
      have e1 : j - i = (j - (i + 1)) + 1 := by omega
      rw [e1, List.eraseIdx_cons_succ, plc_erase e, List.erase_cons_tail (by simpa using h)]
theorem sr_lea {S : Gs} {h x h' : Nat} : sr (sLea S h x) h' = if h' = h then (sr S h).erase x else sr S h' := by
  unfold sLea
  cases e : plc x (sr S h) 0 with
  | none =>
    have m := plc_none.mp e
    by_cases q : h' = h
    · rw [if_pos q, List.erase_of_not_mem m, q]
    · rw [if_neg q]
  | some j =>
    have := plc_erase e
    simp only [Nat.sub_zero] at this
    simp only [sr_pr, this]
theorem sg_lea {S : Gs} {h x : Nat} : sg (sLea S h x) = sg S := by
  unfold sLea
  split <;> rfl
theorem sh_lea {H R h x : Nat} {S : Gs} (q : SH H R S) : SH H R (sLea S h x) := by
  obtain ⟨q1, q2, q3⟩ := q
  refine ⟨q1, q2, fun y hy => ?_⟩
  obtain ⟨n1, n2⟩ := q3 y hy
  rw [sr_lea]
  split
  · rename_i e
    subst e
    exact ⟨List.Pairwise.sublist List.erase_sublist n1, fun z hz => n2 z (List.mem_of_mem_erase hz)⟩
  · exact ⟨n1, n2⟩
theorem ni_h {B : Int} {H R k h : Nat} {l : Int32} {N : Ns} (q : NI B H R k N) (hh : h < H) (hl : 1 ≤ l.toInt ∧ l.toInt ≤ 99) : NI B H R k (nH h l N) := by
  obtain ⟨⟨s1, s2, s3, s4⟩, p, v, nd, t1, t2⟩ := q
  have hH := s1.1
  have hR := s1.2.1
  have hlen := sh_len s1 hh
  unfold nH
  by_cases e : nF N h ≤ 0
  · rw [if_pos e]
    obtain ⟨u1, u2⟩ := s2 h hh
    have hs : (l - sg (nG N) 1 h).toInt = l.toInt - (sg (nG N) 1 h).toInt := by rw [i_sub] <;> omega
    have hv : ¬ l ≤ 0 := by
      rw [Int32.le_iff_toInt_le, i_0]; omega
    have hc1 : hc (fun j => if j = h then l else nF N j) 8 = hc (nF N) 8 + 1 := hc_upd e hv 8 (by omega)
    have hc8 := hc_le (f := fun j => if j = h then l else nF N j) 8
    have hw : whs (nG N) h l = [] ∨ (whs (nG N) h l = (sr (nG N) h).map (fun x => (h, x, l - sg (nG N) 1 h)) ∧ 1 ≤ (l - sg (nG N) 1 h).toInt) := by
      unfold whs
      split
      · rename_i q
        have := Int32.le_iff_toInt_le.mp q
        rw [i_1] at this
        exact Or.inr ⟨rfl, this⟩
      · exact Or.inl rfl
    have hwl : (whs (nG N) h l).length ≤ 15 := by
      rcases hw with q | ⟨q, -⟩ <;> rw [q]
      · exact Nat.zero_le _
      · rw [List.length_map]; exact hlen
    have hwe : ∀ a ∈ whs (nG N) h l, a.1 = h ∧ a.2.1 ∈ sr (nG N) h ∧ 1 ≤ a.2.2.toInt ∧ a.2.2.toInt ≤ 98 := by
      intro a ha
      rcases hw with q | ⟨q, q1⟩ <;> rw [q] at ha
      · cases ha
      · obtain ⟨x, hx, rfl⟩ := List.mem_map.mp ha
        exact ⟨rfl, hx, q1, by show (l - sg (nG N) 1 h).toInt ≤ 98; omega⟩
    have hwc : ∀ x, cntE x (whs (nG N) h l) ≤ 1 := by
      intro x
      rcases hw with q | ⟨q, -⟩ <;> rw [q]
      · simp [cntE]
      · exact (cntE_map _ (s1.2.2 h hh).1).1
    refine ⟨⟨s1, fun y hy => by simpa [nG_mk, sg_pg] using s2 y hy, fun y hy => by simpa [nG_mk, sg_pg] using s3 y hy, ?_⟩, fun r hr => ?_, fun a ha => ?_, ?_, ?_, ?_⟩
    · show sg (nG N) 0 4 = sumI R (sg (nG N) 7)
      exact s4
    · have := p r hr
      have h2 := hwc (8 + r)
      simp only [nG_mk, nQ_mk, nF_mk, cntE_app]
      show 0 ≤ (sg (nG N) 5 r).toInt ∧ (sg (nG N) 5 r).toInt + 98 * ((cntE (8 + r) (nQ N) + cntE (8 + r) (whs (nG N) h l) : Nat) : Int) + 98 * (8 - (hc (fun j => if j = h then l else nF N j) 8 : Nat)) ≤ B + 784
      rw [hc1]
      omega
    · simp only [nQ_mk, List.mem_append] at ha
      show vE H R (pg (pg (nG N) 2 h _) 3 h l) a ∧ ¬ (if a.1 = h then l else nF N a.1) ≤ 0
      rcases ha with ha | ha
      · obtain ⟨v1, v2⟩ := v a ha
        refine ⟨v1, ?_⟩
        split
        · exact hv
        · exact v2
      · obtain ⟨a1, a2, a3, a4⟩ := hwe a ha
        rw [a1, if_pos rfl]
        refine ⟨⟨by rw [a1]; exact hh, ?_, a3, a4⟩, hv⟩
        rcases (s1.2.2 h hh).2 a.2.1 a2 with q | q
        · exact Or.inl q.1
        · exact Or.inr ⟨q.1, q.2, by rw [a1]; exact a2⟩
    · simp only [nQ_mk, List.map_append]
      refine List.nodup_append.mpr ⟨nd, ?_, ?_⟩
      · rcases hw with q | ⟨q, -⟩ <;> rw [q]
        · exact List.nodup_nil
        · rw [List.map_map]
          refine List.pairwise_map.mpr (List.Pairwise.imp ?_ (s1.2.2 h hh).1)
          intro a b hab hc
          simp only [Function.comp_apply, Prod.mk.injEq] at hc
          exact hab hc.2
      · intro a ha b hb hab
        obtain ⟨a', ha', rfl⟩ := List.mem_map.mp ha
        obtain ⟨b', hb', rfl⟩ := List.mem_map.mp hb
        have h1 := (v a' ha').2
        have h2 := (hwe b' hb').1
        simp only [Prod.mk.injEq] at hab
        rw [hab.1, h2] at h1
        exact h1 e
    · simp only [nT_mk, nQ_mk, List.length_append]
      have : nT N = k + (nQ N).length := t1
      omega
    · simp only [nT_mk, nF_mk]
      show nT N + (whs (nG N) h l).length ≤ 15 * hc (fun j => if j = h then l else nF N j) 8
      rw [hc1]
      omega
  · rw [if_neg e]
    exact ⟨⟨s1, fun y hy => by simpa [nG_mk, sg_pg] using s2 y hy, fun y hy => by simpa [nG_mk, sg_pg] using s3 y hy, s4⟩, fun r hr => by simpa [nG_mk, nQ_mk, nF_mk, sg_pg] using p r hr, v, nd, t1, t2⟩
theorem ni_popH {B : Int} {H R k m x T : Nat} {l : Int32} {S : Gs} {F : Nat → Int32} {Bk : Nat → Bool} {t : List (Nat × Nat × Int32)} (q : NI B H R k (S, F, Bk, (m, x, l) :: t, T)) (hx : x < 8) : NI B H R (k + 1) (S, F, Bk, t, T) ∧ x < H ∧ 1 ≤ l.toInt ∧ l.toInt ≤ 99 := by
  obtain ⟨s, p, v, nd, t1, t2⟩ := q
  simp only [nQ_mk, nF_mk, nG_mk, nT_mk] at p v nd t1 t2
  obtain ⟨⟨v1, v2, v3, v4⟩, v5⟩ := v _ List.mem_cons_self
  simp only at v1 v2 v3 v4
  refine ⟨⟨s, fun r hr => ?_, fun a ha => v a (List.mem_cons_of_mem _ ha), (List.nodup_cons.mp nd).2, ?_, t2⟩, by omega, v3, by omega⟩
  · have := p r hr
    simp only [cntE] at this
    rw [if_neg (show ¬ x = 8 + r by omega)] at this
    simpa [nG_mk, nQ_mk, nF_mk] using this
  · simp only [nT_mk, nQ_mk]
    simp only [List.length_cons] at t1
    omega
theorem okb_sR {H R r h : Nat} {l : Int32} {S : Gs} (q : OKb H R S) (hr : r < R) : OKb H R (sR S r h l) := by
  obtain ⟨s1, s2, s3, s4⟩ := q
  obtain ⟨c1, c2, c3⟩ := s3 r hr
  have hi : (sg S 6 r + 1).toInt = (sg S 6 r).toInt + 1 := by rw [i_add] <;> rw [i_1] <;> omega
  unfold sR
  split
  · rename_i e
    refine ⟨sh_pg (sh_pg (sh_pg (sh_lea (sh_pg (sh_pg s1))))), fun y hy => by simpa [sg_pg, sg_lea] using s2 y hy, fun y hy => ?_, ?_⟩
    · have := s3 y hy
      by_cases ey : y = r
      · subst ey
        simp [sg_pg, sg_lea]
        omega
      · simpa [sg_pg, sg_lea, ey] using this
    · have e7 : sg (pg (pg (pg (sLea (pg (pg S 5 r (sg S 5 r + l)) 6 r (sg S 6 r + 1)) h (8 + r)) 6 r 0) 7 r (sg S 7 r + 1)) 0 4 (sg S 0 4 + 1)) 7 = fun j => if j = r then sg S 7 r + 1 else sg S 7 j := by
        funext j
        simp [sg_pg, sg_lea]
      rw [e7, sumI_upd R hr, ← s4]
      simp [sg_pg]
  · rename_i e
    refine ⟨s1, fun y hy => by simpa [sg_pg] using s2 y hy, fun y hy => ?_, s4⟩
    have := s3 y hy
    by_cases ey : y = r
    · subst ey
      have hne : (sg S 6 y + 1).toInt ≠ (sg S 4 y).toInt := fun q => e (Int32.toInt_inj.mp q)
      simp only [sg_pg, Nat.reduceEqDiff, false_and, if_false, true_and, if_true]
      omega
    · simpa [sg_pg, ey] using this
theorem sg_sR5 {S : Gs} {r h : Nat} {l : Int32} {y : Nat} : sg (sR S r h l) 5 y = if y = r then sg S 5 r + l else sg S 5 y := by
  unfold sR
  split <;> simp [sg_pg, sg_lea]
theorem sr_sR {S : Gs} {r h : Nat} {l : Int32} {y : Nat} : sr (sR S r h l) y = sr S y ∨ (y = h ∧ sr (sR S r h l) y = (sr S y).erase (8 + r)) := by
  unfold sR
  split
  · by_cases e : y = h
    · subst e
      refine Or.inr ⟨rfl, ?_⟩
      rw [sr_pg, sr_pg, sr_pg, sr_lea, if_pos rfl]
      rfl
    · refine Or.inl ?_
      rw [sr_pg, sr_pg, sr_pg, sr_lea, if_neg e]
      rfl
  · exact Or.inl rfl
theorem ni_popR {B : Int} {H R k m x T : Nat} {l : Int32} {S : Gs} {F : Nat → Int32} {Bk : Nat → Bool} {t : List (Nat × Nat × Int32)} (hB : B + 784 < 2147483648) (q : NI B H R k (S, F, Bk, (m, x, l) :: t, T)) (hx : ¬ x < 8) : NI B H R (k + 1) (sR S (x - 8) m l, F, Bk, t, T) ∧ x - 8 < R ∧ 8 + (x - 8) = x ∧ m < H ∧ x ∈ sr S m := by
  obtain ⟨s, p, v, nd, t1, t2⟩ := q
  simp only [nQ_mk, nF_mk, nG_mk, nT_mk] at s p v nd t1 t2
  obtain ⟨⟨v1, v2, v3, v4⟩, v5⟩ := v _ List.mem_cons_self
  simp only at v1 v2 v3 v4
  have hH := s.1.1
  have hxr : 8 ≤ x ∧ x < 8 + R ∧ x ∈ sr S m := by
    rcases v2 with q | q
    · omega
    · exact q
  obtain ⟨n1, n2⟩ := List.nodup_cons.mp nd
  have hx8 : 8 + (x - 8) = x := by omega
  refine ⟨⟨okb_sR s (by omega), fun r hr => ?_, fun a ha => ?_, n2, ?_, t2⟩, by omega, hx8, v1, hxr.2.2⟩
  · have hp := p r hr
    have hc8 := hc_le (f := F) 8
    simp only [cntE] at hp
    simp only [nG_mk, nQ_mk, nF_mk, sg_sR5]
    by_cases e : r = x - 8
    · have hc : x = 8 + r := by omega
      rw [if_pos hc] at hp
      rw [if_pos e, ← e]
      have : (sg S 5 r + l).toInt = (sg S 5 r).toInt + l.toInt := by rw [i_add] <;> omega
      omega
    · have hc : ¬ x = 8 + r := by omega
      rw [if_neg hc] at hp
      rw [if_neg e]
      omega
  · obtain ⟨⟨a1, a2, a3, a4⟩, a5⟩ := v a (List.mem_cons_of_mem _ ha)
    refine ⟨⟨a1, ?_, a3, a4⟩, a5⟩
    rcases a2 with q | ⟨q1, q2, q3⟩
    · exact Or.inl q
    · refine Or.inr ⟨q1, q2, ?_⟩
      show a.2.1 ∈ sr (sR S (x - 8) m l) a.1
      rcases sr_sR (S := S) (r := x - 8) (h := m) (l := l) (y := a.1) with e | ⟨e0, e⟩ <;> rw [e]
      · exact q3
      · refine (List.mem_erase_of_ne ?_).mpr q3
        intro e1
        refine n1 (List.mem_map.mpr ⟨a, ha, ?_⟩)
        rw [e0, e1, hx8]
  · simp only [nT_mk, nQ_mk]
    simp only [List.length_cons] at t1
    omega
