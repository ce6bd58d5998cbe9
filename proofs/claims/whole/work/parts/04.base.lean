-- THE MEMORY: ints, longs, references by (code, key, place); what stands at an address; the heap's size
abbrev Mm : Type := (Nat → Nat → Nat → Int32) × (Nat → Nat → Nat → Int64) × (Nat → Nat → Nat → Nat) × (Nat → Nat × Nat × Nat) × Nat
def gI (w : Mm) (c k i : Nat) : Int32 := w.1 c k i
def gL (w : Mm) (c k i : Nat) : Int64 := w.2.1 c k i
def gR (w : Mm) (c k i : Nat) : Nat := w.2.2.1 c k i
def gS (w : Mm) (a : Nat) : Nat × Nat × Nat := w.2.2.2.1 a
def gZ (w : Mm) : Nat := w.2.2.2.2
def pI (w : Mm) (c k i : Nat) (v : Int32) : Mm := (fun c' k' i' => if c' = c ∧ k' = k ∧ i' = i then v else w.1 c' k' i', w.2)
def pL (w : Mm) (c k i : Nat) (v : Int64) : Mm := (w.1, fun c' k' i' => if c' = c ∧ k' = k ∧ i' = i then v else w.2.1 c' k' i', w.2.2)
def pR (w : Mm) (c k i : Nat) (v : Nat) : Mm := (w.1, w.2.1, fun c' k' i' => if c' = c ∧ k' = k ∧ i' = i then v else w.2.2.1 c' k' i', w.2.2.2)
def nw (w : Mm) (c k st : Nat) : Mm := (fun c' k' i' => if c' = c ∧ k' = k then 0 else w.1 c' k' i', fun c' k' i' => if c' = c ∧ k' = k then 0 else w.2.1 c' k' i', fun c' k' i' => if c' = c ∧ k' = k then 0 else w.2.2.1 c' k' i', fun a => if a = gZ w then (c, k, st) else gS w a, gZ w + 1)
def pS (w : Mm) (a c k st : Nat) : Mm := (w.1, w.2.1, w.2.2.1, fun a' => if a' = a then (c, k, st) else gS w a', gZ w)
def pZ (w : Mm) (z : Nat) : Mm := (w.1, w.2.1, w.2.2.1, w.2.2.2.1, z)
-- sequencing of the lifted functions
def sq {α β : Type} (e : α) (k : α → Option β) : Option β := k e
def gd {β : Type} (c : Bool) (k : Option β) : Option β := if c = true then k else none
def br {β : Type} (c : Prop) [Decidable c] (a b : Option β) : Option β := if c then a else b
def bd {α β : Type} (e : Option (α × Mm)) (k : α → Mm → Option β) : Option β := match e with
  | none => none
  | some (a, w) => k a w
def bx {α β : Type} (e : Option ((Nat ⊕ α) × Mm)) (k : α → Mm → Option ((Nat ⊕ β) × Mm)) : Option ((Nat ⊕ β) × Mm) := match e with
  | none => none
  | some (.inl x, w) => some (.inl x, w)
  | some (.inr a, w) => k a w
def vB (i : Int32) (n : Nat) : Bool := !(decide (i < 0) || decide (n ≤ i.toNatClampNeg))
theorem sq_at {α β : Type} {e x : α} {k : α → Option β} {r : Option β} (h : sq e k = r) (hx : x = e) : k x = r := by rw [hx]; exact h
theorem gd_el {β : Type} {c : Bool} {k : Option β} {r : β} (h : gd c k = some r) : c = true ∧ k = some r := by
  unfold gd at h
  split at h
  · exact ⟨by assumption, h⟩
  · cases h
theorem br_el {β : Type} {c : Prop} [Decidable c] {a b : Option β} {r : Option β} (h : br c a b = r) (hc : c) : a = r := by
  unfold br at h; rwa [if_pos hc] at h
theorem br_er {β : Type} {c : Prop} [Decidable c] {a b : Option β} {r : Option β} (h : br c a b = r) (hc : ¬ c) : b = r := by
  unfold br at h; rwa [if_neg hc] at h
theorem bd_el {α β : Type} {e : Option (α × Mm)} {k : α → Mm → Option β} {r : β} (h : bd e k = some r) : ∃ a w, e = some (a, w) ∧ k a w = some r := by
  unfold bd at h
  split at h
  · cases h
  · exact ⟨_, _, rfl, h⟩
theorem bx_el {α β : Type} {e : Option ((Nat ⊕ α) × Mm)} {k : α → Mm → Option ((Nat ⊕ β) × Mm)} {r : (Nat ⊕ β) × Mm} (h : bx e k = some r) : ∃ a w, e = some (a, w) ∧ (∀ x, a = .inl x → r = (.inl x, w)) ∧ (∀ x, a = .inr x → k x w = some r) := by
  unfold bx at h
  split at h
  · cases h
  · refine ⟨_, _, rfl, (fun x hx => ?_), (fun x hx => ?_)⟩
    · cases hx
      exact (Option.some.inj h).symm
    · cases hx
  · refine ⟨_, _, rfl, (fun x hx => ?_), (fun x hx => ?_)⟩
    · cases hx
    · cases hx
      exact h
theorem vB_in {i : Int32} {n : Nat} (h : vB i n = true) : vp_in i n := by
  unfold vB at h
  simp only [Bool.not_eq_true', Bool.or_eq_false_iff, decide_eq_false_iff_not] at h
  exact fun q => q.elim h.1 h.2
theorem vB_lt {i : Int32} {n : Nat} (h : vB i n = true) : i.toNatClampNeg < n := Nat.not_le.mp fun q => vB_in h (Or.inr q)
theorem so_el {α : Type} {a b : α} (h : some a = some b) : a = b := Option.some.inj h
-- what is known of a run: classes' numbers and places; arrays' classes; the constants' addresses; other addresses; where the world begins; is it built
abbrev GG : Type := va_G × (Nat → ClassId) × (Nat → Nat) × (Nat → Nat) × Nat × Bool
def gA (G : GG) : Nat → Nat := G.2.2.1
def gM (G : GG) : Nat → Nat := G.2.2.2.1
def gB (G : GG) : Nat := G.2.2.2.2.1
def gF (G : GG) : Bool := G.2.2.2.2.2
def Ab (G : GG) : Nat → Prop := fun q => gB G ≤ q
abbrev tys (G : GG) : List (ClassId × FieldType) := [(G.2.1 0, .int), (G.2.1 1, .long), (G.2.1 2, .byte), (G.2.1 3, .boolean), (G.2.1 4, .object "HedgeNews$Hedge"), (G.2.1 5, .object "HedgeNews$Rose"), (G.2.1 6, .object "HedgeNews$Kind")]
def adr (b c k : Nat) : Nat := match c with
  | 1 => b
  | 2 => b + 1
  | 3 => b + 2
  | 4 => b + 3
  | 5 => b + 4
  | 6 => b + 5
  | 7 => b + 6
  | 8 => b + 7
  | 9 => b + 8
  | 10 => b + 9
  | 11 => b + 10
  | 12 => b + 11
  | 13 => b + 12
  | 14 => b + 13
  | 15 => b + 14
  | 16 => b + 15
  | 17 => b + 16
  | 18 => b + 17
  | 19 => b + 18 + 27 * k
  | 20 => b + 19 + 27 * k
  | 21 => b + 20 + 27 * k
  | 22 => b + 21 + 27 * (k / 8) + 2 * (k % 8)
  | 23 => b + 22 + 27 * (k / 8) + 2 * (k % 8)
  | 24 => b + 37 + 27 * (k / 8) + k % 8
  | 25 => b + 72 + 6 * k
  | 26 => b + 73 + 6 * k
  | 27 => b + 74 + 6 * k
  | 28 => b + 75 + 6 * k
  | 29 => b + 76 + 6 * k
  | 30 => b + 77 + 6 * k
  | 31 => b + 84
  | 32 => b + 85
  | 33 => b + 86
  | 34 => b + 87
  | 35 => b + 88
  | 36 => b + 89
  | 37 => b + 90
  | 38 => b + 91
  | 39 => b + 103
  | 40 => b + 104
  | 41 => b + 105
  | 42 => b + 106
  | 43 => b + 107
  | 44 => k
  | 45 => k + 1
  | 46 => k + 2
  | 47 => k + 3
  | 48 => k + 4
  | 49 => k + 5
  | 50 => k + 6
  | 51 => k + 7
  | 52 => k + 8
  | 53 => k + 9
  | 54 => k + 10
  | 55 => if k < 2 then b + 108 + 8 * k else k
  | 56 => if k < 2 then b + 109 + 8 * k else k + 1
  | 57 => if k < 2 then b + 110 + 8 * k else k + 2
  | 58 => if k < 2 then b + 111 + 8 * k else k + 3
  | 59 => if k < 2 then b + 112 + 8 * k else k + 4
  | 60 => if k < 2 then b + 113 + 8 * k else k + 5
  | 61 => if k < 2 then b + 114 + 8 * k else k + 6
  | 62 => if k < 2 then b + 115 + 8 * k else k + 7
  | 63 => b + 124
  | 64 => k
  | 65 => k
  | _ => 0
def full (c : Nat) : Nat := match c with
  | 1 => 8
  | 2 => 1
  | 4 => 4
  | 9 => 1
  | 11 => 5
  | 17 => 2
  | 19 => 2
  | 20 => 8
  | 21 => 8
  | 22 => 1
  | 25 => 5
  | 31 => 1
  | 32 => 13
  | 44 => 10
  | 55 => 8
  | _ => 0
def cnt (c : Nat) : Nat := match c with
  | 1 => 1
  | 2 => 1
  | 3 => 1
  | 4 => 1
  | 5 => 1
  | 6 => 1
  | 7 => 1
  | 8 => 1
  | 9 => 1
  | 10 => 1
  | 11 => 1
  | 12 => 1
  | 13 => 1
  | 14 => 1
  | 15 => 1
  | 16 => 1
  | 17 => 1
  | 18 => 1
  | 19 => 2
  | 20 => 2
  | 21 => 2
  | 22 => 16
  | 23 => 16
  | 24 => 16
  | 25 => 2
  | 26 => 2
  | 27 => 2
  | 28 => 2
  | 29 => 2
  | 30 => 2
  | 31 => 1
  | 32 => 1
  | 33 => 1
  | 34 => 1
  | 35 => 1
  | 36 => 1
  | 37 => 1
  | 38 => 1
  | 39 => 1
  | 40 => 1
  | 41 => 1
  | 42 => 1
  | 43 => 1
  | 44 => 0
  | 45 => 0
  | 46 => 0
  | 47 => 0
  | 48 => 0
  | 49 => 0
  | 50 => 0
  | 51 => 0
  | 52 => 0
  | 53 => 0
  | 54 => 0
  | 55 => 2
  | 56 => 2
  | 57 => 2
  | 58 => 2
  | 59 => 2
  | 60 => 2
  | 61 => 2
  | 62 => 2
  | 63 => 1
  | 64 => 0
  | 65 => 0
  | _ => 0
def oR (G : GG) (st j c k : Nat) : Value := if j < st then .ref (adr (gB G) c k) else .null
def vR (G : GG) (c : Nat) : Nat → Value
  | 0 => .null
  | k + 1 => .ref (adr (gB G) c k)
def kO (G : GG) : Nat → Option Nat
  | 0 => none
  | k + 1 => some (gA G k)
def kR (G : GG) (r : Nat) : Value := va_rf (kO G r)
def cel (G : GG) (I : Nat → Int32) (L : Nat → Int64) (R : Nat → Nat) (c k st : Nat) : va_E := match c with
  | 1 => .inr (10, [oR G st 0 2 0, oR G st 1 4 0, oR G st 2 9 0, oR G st 3 11 0, oR G st 4 17 0, oR G st 5 19 0, oR G st 6 19 1, vR G 25 (R 7), vR G 25 (R 8), oR G st 7 31 0, .int (I 10)])
  | 2 => .inr (8, [oR G st 0 3 k, .int (I 1)])
  | 3 => .inl (G.2.1 2, (2000, .inl I))
  | 4 => .inr (9, [oR G st 0 5 k, oR G st 1 6 k, oR G st 2 7 k, oR G st 3 8 k, .int (I 4), .int (I 5), .long (L 6), .int (I 7)])
  | 5 => .inl (G.2.1 6, (401, .inr (.inr (.inr (.inr (fun i => kO G (R i)))))))
  | 6 => .inl (G.2.1 0, (401, .inl I))
  | 7 => .inl (G.2.1 1, (401, .inr (.inl L)))
  | 8 => .inl (G.2.1 0, (401, .inl I))
  | 9 => .inr (3, [oR G st 0 10 k, .int (I 1), .int (I 2)])
  | 10 => .inl (G.2.1 1, (16, .inr (.inl L)))
  | 11 => .inr (4, [oR G st 0 12 k, oR G st 1 13 k, oR G st 2 14 k, .int (I 3), oR G st 3 15 k, oR G st 4 16 k])
  | 12 => .inl (G.2.1 0, (128, .inl I))
  | 13 => .inl (G.2.1 0, (128, .inl I))
  | 14 => .inl (G.2.1 0, (128, .inl I))
  | 15 => .inl (G.2.1 0, (8, .inl I))
  | 16 => .inl (G.2.1 3, (8, .inl I))
  | 17 => .inr (1, [oR G st 1 11 0, oR G st 0 18 k, .int (I 2)])
  | 18 => .inl (G.2.1 0, (400, .inl I))
  | 19 => .inr (0, [oR G st 0 20 k, oR G st 1 21 k, .int (I 2), .int (I 3), .int (I 4), .int (I 5), .int (I 6), .int (I 7), .int (I 8)])
  | 20 => .inl (G.2.1 4, (8, .inr (.inr (.inr (.inr (fun i => if i < st then some (adr (gB G) 22 (8 * k + i)) else none))))))
  | 21 => .inl (G.2.1 5, (8, .inr (.inr (.inr (.inr (fun i => if i < st then some (adr (gB G) 24 (8 * k + i)) else none))))))
  | 22 => .inr (2, [.int (I 0), .int (I 1), .int (I 2), .int (I 3), oR G st 0 23 k])
  | 23 => .inl (G.2.1 0, (16, .inl I))
  | 24 => .inr (7, [.int (I 0), .int (I 1), .int (I 2), .int (I 3)])
  | 25 => .inr (6, [oR G st 0 26 k, oR G st 1 27 k, .int (I 2), .int (I 3), oR G st 2 28 k, oR G st 3 29 k, oR G st 4 30 k, .int (I 7)])
  | 26 => .inl (G.2.1 0, (8, .inl I))
  | 27 => .inl (G.2.1 0, (8, .inl I))
  | 28 => .inl (G.2.1 6, (400, .inr (.inr (.inr (.inr (fun i => kO G (R i)))))))
  | 29 => .inl (G.2.1 0, (400, .inl I))
  | 30 => .inl (G.2.1 0, (400, .inl I))
  | 31 => .inr (5, [oR G st 0 4 0, vR G 25 (R 1), .int (I 2), kR G (R 3)])
  | 32 => .inr (13, [.int (I 0), oR G st 0 33 k, .int (I 2), .int (I 3), oR G st 1 34 k, oR G st 2 35 k, oR G st 3 36 k, oR G st 4 37 k, oR G st 5 38 k, .int (I 9), .int (I 10), vR G 44 (R 11), vR G 44 (R 12), oR G st 6 39 k, oR G st 7 40 k, oR G st 8 41 k, oR G st 9 42 k, oR G st 10 43 k, .int (I 18), .int (I 19), .int (I 20), oR G st 11 55 0, oR G st 12 55 1])
  | 33 => .inl (G.2.1 0, (2000, .inl I))
  | 34 => .inl (G.2.1 0, (401, .inl I))
  | 35 => .inl (G.2.1 0, (401, .inl I))
  | 36 => .inl (G.2.1 0, (401, .inl I))
  | 37 => .inl (G.2.1 0, (401, .inl I))
  | 38 => .inl (G.2.1 0, (401, .inl I))
  | 39 => .inl (G.2.1 0, (400, .inl I))
  | 40 => .inl (G.2.1 0, (128, .inl I))
  | 41 => .inl (G.2.1 0, (128, .inl I))
  | 42 => .inl (G.2.1 0, (128, .inl I))
  | 43 => .inl (G.2.1 0, (8, .inl I))
  | 44 => .inr (11, [.int (I 0), .int (I 1), oR G st 0 45 k, oR G st 1 46 k, .int (I 4), .int (I 5), oR G st 2 47 k, oR G st 3 48 k, oR G st 4 49 k, oR G st 5 50 k, oR G st 6 51 k, oR G st 7 52 k, oR G st 8 53 k, .int (I 13), oR G st 9 54 k, .int (I 15)])
  | 45 => .inl (G.2.1 0, (8, .inl I))
  | 46 => .inl (G.2.1 0, (8, .inl I))
  | 47 => .inl (G.2.1 0, (16, .inl I))
  | 48 => .inl (G.2.1 0, (16, .inl I))
  | 49 => .inl (G.2.1 0, (16, .inl I))
  | 50 => .inl (G.2.1 0, (17, .inl I))
  | 51 => .inl (G.2.1 0, (17, .inl I))
  | 52 => .inl (G.2.1 0, (17, .inl I))
  | 53 => .inl (G.2.1 0, (800, .inl I))
  | 54 => .inl (G.2.1 0, (400, .inl I))
  | 55 => .inr (12, [.int (I 0), .int (I 1), .int (I 2), .int (I 3), oR G st 1 56 k, oR G st 2 57 k, oR G st 3 58 k, oR G st 4 59 k, oR G st 5 60 k, oR G st 6 61 k, oR G st 7 62 k, oR G st 0 32 0])
  | 56 => .inl (G.2.1 0, (128, .inl I))
  | 57 => .inl (G.2.1 0, (8, .inl I))
  | 58 => .inl (G.2.1 0, (8, .inl I))
  | 59 => .inl (G.2.1 0, (8, .inl I))
  | 60 => .inl (G.2.1 0, (8, .inl I))
  | 61 => .inl (G.2.1 0, (8, .inl I))
  | 62 => .inl (G.2.1 0, (8, .inl I))
  | 63 => .inl (G.2.1 1, (1, .inr (.inl L)))
  | 64 => .inl (G.2.1 0, (5, .inl I))
  | 65 => .inl (G.2.1 0, (9, .inl I))
  | _ => .inl (0, (0, .inl I))

def wce (G : GG) (w : Mm) (c k st : Nat) : va_E := cel G (w.1 c k) (w.2.1 c k) (w.2.2.1 c k) c k st
def Bt (G : GG) (w : Mm) : Prop := ∀ c k, k < cnt c → gS w (adr (gB G) c k) = (c, k, full c)
def HP (G : GG) (w : Mm) (H : Heap) : Prop := H.size = gZ w ∧ gB G ≤ gZ w ∧ (∀ a c k st, gS w a = (c, k, st) → c ≠ 0 → gB G ≤ a ∧ a = adr (gB G) c k ∧ va_at G.1 vwCl (a, wce G w c k st) H) ∧ (gF G = true → Bt G w)
def Loc1 (w w1 : Mm) (c k : Nat) : Prop := (∀ c' k', ¬ (c' = c ∧ k' = k) → w1.1 c' k' = w.1 c' k' ∧ w1.2.1 c' k' = w.2.1 c' k' ∧ w1.2.2.1 c' k' = w.2.2.1 c' k') ∧ w1.2.2.2 = w.2.2.2
theorem loc_pI {w : Mm} {c k i : Nat} {v : Int32} : Loc1 w (pI w c k i v) c k := ⟨fun c' k' h => ⟨by funext j; simp only [pI]; rw [if_neg (fun q => h ⟨q.1, q.2.1⟩)], rfl, rfl⟩, rfl⟩
theorem loc_pL {w : Mm} {c k i : Nat} {v : Int64} : Loc1 w (pL w c k i v) c k := ⟨fun c' k' h => ⟨rfl, by funext j; simp only [pL]; rw [if_neg (fun q => h ⟨q.1, q.2.1⟩)], rfl⟩, rfl⟩
theorem loc_pR {w : Mm} {c k i v : Nat} : Loc1 w (pR w c k i v) c k := ⟨fun c' k' h => ⟨rfl, rfl, by funext j; simp only [pR]; rw [if_neg (fun q => h ⟨q.1, q.2.1⟩)]⟩, rfl⟩
theorem HP.put {G : GG} {w w1 : Mm} {H H1 : Heap} {a c k st : Nat} (hP : HP G w H) (hs : gS w a = (c, k, st)) (hc : c ≠ 0) (hl : Loc1 w w1 c k) (e1 : va_at G.1 vwCl (a, wce G w1 c k st) H1) (z : H1.size = H.size) (o : ∀ q, q ≠ a → H1[q]? = H[q]?) : HP G w1 H1 := by
  have hS : gS w1 = gS w := by unfold gS; rw [hl.2]
  have hZ : gZ w1 = gZ w := by unfold gZ; rw [hl.2]
  refine ⟨by rw [z, hZ]; exact hP.1, by rw [hZ]; exact hP.2.1, fun a' c' k' st' h hc' => ?_, fun hf => ?_⟩
  · rw [hS] at h
    obtain ⟨q1, q2, q3⟩ := hP.2.2.1 a' c' k' st' h hc'
    refine ⟨q1, q2, ?_⟩
    by_cases ha : a' = a
    · subst ha
      have hh := hs.symm.trans h
      simp only [Prod.mk.injEq] at hh
      obtain ⟨rfl, rfl, rfl⟩ := hh
      exact e1
    · have hn : ¬ (c' = c ∧ k' = k) := by
        rintro ⟨rfl, rfl⟩
        exact ha (q2.trans (hP.2.2.1 a _ _ _ hs hc).2.1.symm)
      have hl1 := hl.1 c' k' hn
      have hw : wce G w1 c' k' st' = wce G w c' k' st' := by unfold wce; rw [hl1.1, hl1.2.1, hl1.2.2]
      rw [hw]
      exact q3.kept (o a' ha)
  · have := hP.2.2.2 hf
    unfold Bt at this ⊢
    rw [hS]; exact this

def NWD : List MethodName := [⟨"java/lang/Enum", "ordinal", "()I"⟩, ⟨"java/lang/RuntimeException", "<init>", "()V"⟩, ⟨"java/lang/RuntimeException", "<init>", "(Ljava/lang/String;)V"⟩, ⟨"java/lang/Exception", "<init>", "()V"⟩, ⟨"java/lang/Exception", "<init>", "(Ljava/lang/String;)V"⟩, ⟨"java/lang/Throwable", "<init>", "()V"⟩, ⟨"java/lang/Throwable", "<init>", "(Ljava/lang/String;)V"⟩]
def NWA : List String := ["HedgeNews$Hedge", "HedgeNews$Rose", "HedgeNews$Kind"]
def NWC : List (String × String) := [("java/lang/IllegalArgumentException", "java/lang/IllegalArgumentException"), ("java/lang/IndexOutOfBoundsException", "java/lang/IndexOutOfBoundsException"), ("java/lang/IllegalStateException", "java/lang/IllegalStateException")]
def MSG : List (String × Nat × String) := [("HedgeNews", 236, "a loudness is 1 to 99"), ("HedgeNews", 185, "no such hedge"), ("HedgeNews", 209, "no such rose"), ("HedgeNews", 84, "the tape would be too long"), ("HedgeNews", 95, "the tape has no such first bytes"), ("HedgeNews", 222, "it listens there, or is this very hedge"), ("HedgeNews", 227, "it does not listen there"), ("HedgeNews", 314, "days are 1 to 30")]
def kNm : List String := ["END", "BAD", "NAME", "NUMBER", "TURN", "EVER", "HEDGE", "HUSH", "ROSE", "PATIENCE", "LISTEN", "LEAVE", "TO", "TELL", "WITH", "WHEN", "DAY", "CYCLES", "WHISPERS", "HEARD", "LATEST", "PETALS", "OF", "HEARS", "NOT", "AND", "OR", "MIN", "MAX", "OPEN", "CLOSE", "OPEN_TEST", "CLOSE_TEST", "SEMICOLON", "COMMA", "PLUS", "MINUS", "TIMES", "OVER", "LESS", "GREATER", "EQUAL", "AT_MOST", "AT_LEAST"]
def kOr : List Int32 := [0, 1, 2, 3, 4, 5, 6, 7, 8, 9, 10, 11, 12, 13, 14, 15, 16, 17, 18, 19, 20, 21, 22, 23, 24, 25, 26, 27, 28, 29, 30, 31, 32, 33, 34, 35, 36, 37, 38, 39, 40, 41, 42, 43]
def swT : List Int32 := [0, 0, 0, 9, 21, 20, 1, 0, 2, 0, 3, 4, 0, 5, 0, 0, 10, 11, 12, 13, 14, 15, 0, 8, 6, 30, 31, 18, 19, 17, 0, 7, 0, 0, 0, 22, 16, 23, 24, 25, 26, 27, 28, 29]
def keyL : List Int64 := [0, 0, 0, 0, 0, 0, 135545285, 2184392, 4781253, 70459090854085, 13040959822, 202642821, 1295, 5264140, 6067464, 6062414, 16473, 3641491795, 101714812228755, 135533700, 12906943700, 17269003027, 966, 135533715, 58324, 4996, 978, 53838, 53336, 0, 0, 0, 0, 0, 0, 0, 0, 0, 0, 0, 0, 0, 0, 0]
def swv (e : Nat) : Int32 := swT.getD (e - 1) 0
def keyT (e : Nat) : Int64 := keyL.getD (e - 1) 0
def lenS : List Nat := [5, 4, 4, 8, 6, 5, 2, 4, 4, 4, 3, 6, 8, 5, 6, 6, 2, 5, 3, 3, 2, 3, 3, 13]
def bytS : List (List Int32) := [[104, 101, 100, 103, 101], [104, 117, 115, 104], [114, 111, 115, 101], [112, 97, 116, 105, 101, 110, 99, 101], [108, 105, 115, 116, 101, 110], [108, 101, 97, 118, 101], [116, 111], [116, 101, 108, 108], [119, 105, 116, 104], [119, 104, 101, 110], [100, 97, 121], [99, 121, 99, 108, 101, 115], [119, 104, 105, 115, 112, 101, 114, 115], [104, 101, 97, 114, 100], [108, 97, 116, 101, 115, 116], [112, 101, 116, 97, 108, 115], [111, 102], [104, 101, 97, 114, 115], [110, 111, 116], [97, 110, 100], [111, 114], [109, 105, 110], [109, 97, 120], [40, 41, 91, 93, 59, 44, 43, 45, 42, 47, 60, 62, 61]]
def NWX : List (String × String) := [("java/lang/IndexOutOfBoundsException", "java/lang/IllegalStateException"), ("java/lang/IndexOutOfBoundsException", "java/lang/IllegalArgumentException"), ("java/lang/IllegalStateException", "java/lang/IndexOutOfBoundsException"), ("java/lang/IllegalStateException", "java/lang/IllegalArgumentException"), ("java/lang/IllegalArgumentException", "java/lang/IndexOutOfBoundsException"), ("java/lang/IllegalArgumentException", "java/lang/IllegalStateException")]
def gX (G : GG) (i : Nat) : Nat := gM G (100 + i)
def gY (G : GG) (i : Nat) : Nat := gM G (200 + i)
def KES (G : GG) (U : State) : Prop := vk_S 24 lenS bytS (gX G) (gY G) (Ab G) U U.heap ∧ (va_Z "HedgeNewsModel" "WORDS" "[Ljava/lang/String;" (.ref (gM G 2)) (Ab G) U U.heap ∧ va_T (.object "java/lang/String") (gM G 2) 23 (fun i => .ref (gX G i)) (Ab G) U U.heap) ∧
  vk_R "HedgeNewsModel" 112 "()[];,+-*/<>=" (gX G 23) U ∧ va_Z "java/lang/String" "COMPACT_STRINGS" "Z" (.int 1) (Ab G) U U.heap ∧ va_Zq "jdk/internal/util/Preconditions" "SIOOBE_FORMATTER" "Ljava/util/function/BiFunction;" (Ab G) U U.heap ∧ (∀ q ∈ NWX, va_Nc q.1 q.2 U)
theorem KES.step {G : GG} {s U : State} {H : Heap} {locs : List Loc} (hE : KES G s) (hS : va_S (Ab G) s.heap H locs) (hU : U.heap = H) (hW : s.WarmedH U.vm) : KES G U := by
  obtain ⟨h1, ⟨h2, h3⟩, h4, h5, h6, h7⟩ := hE
  unfold KES
  rw [hU]
  exact ⟨vk_S.moved hW.alike (h1.kept hS.2.1), ⟨va_Z.moved hW.alike (h2.kept hS.2.1), va_T.moved hW.alike (h3.kept hS.2.1)⟩, vk_R.warm hW h4, va_Z.moved hW.alike (h5.kept hS.2.1), va_Zq.moved hW.alike (h6.kept hS.2.1), fun q hq => va_Nc.moved hW.alike (h7 q hq)⟩
def KEH (G : GG) (U : State) : Prop := va_Ec "HedgeNews$Kind" "HedgeNews$Kind" "LHedgeNews$Kind;" kNm [("java/lang/Enum", "ordinal", "I", kOr)] (gA G) (Ab G) U U.heap ∧ (∀ i j, gA G i = gA G j → i = j) ∧
  va_Ef 44 "HedgeNews$Kind" "key" "J" (fun i => .long (keyL.getD i 0)) (gA G) (Ab G) U U.heap ∧
  (va_Z "HedgeNews$1" "$SwitchMap$HedgeNews$Kind" "[I" (.ref (gM G 0)) (Ab G) U U.heap ∧ va_T .int (gM G 0) 44 (fun i => .int (swT.getD i 0)) (Ab G) U U.heap) ∧
  (va_Z "HedgeNews$Kind" "ALL" "[LHedgeNews$Kind;" (.ref (gM G 1)) (Ab G) U U.heap ∧ va_T (.object "HedgeNews$Kind") (gM G 1) 44 (fun i => .ref (gA G i)) (Ab G) U U.heap) ∧
  (∀ q ∈ NWD, va_Nw (.declares q) U) ∧ (∀ q ∈ NWC, va_Nw (.castable q.1 q.2) U) ∧ (vx_Zq Bundle.tN "UNASSIGNED_STACK" Bundle.steD (Ab G) U U.heap ∧ vx_Zq Bundle.tN "SUPPRESSED_SENTINEL" Bundle.listD (Ab G) U U.heap) ∧ (∀ j q, MSG[j]? = some q → vk_R q.1 q.2.1 q.2.2 (gM G (10 + j)) U) ∧ (∀ C ∈ NWA, va_AO C U) ∧ KES G U
theorem KEH.step {G : GG} {s U : State} {H : Heap} {locs : List Loc} (hE : KEH G s) (hS : va_S (Ab G) s.heap H locs) (hU : U.heap = H) (hW : s.WarmedH U.vm) : KEH G U := by
  obtain ⟨h1, h2, h3, ⟨h4, h5⟩, ⟨h6, h7⟩, h8, h9, ⟨h10, h11⟩, h12, h13, h14⟩ := hE
  have h14 := KES.step h14 hS hU hW
  unfold KEH
  rw [hU]
  exact ⟨va_Ec.moved hW.alike (h1.kept hS.2.1), h2, va_Ef.moved hW.alike (h3.kept hS.2.1), ⟨va_Z.moved hW.alike (h4.kept hS.2.1), va_T.moved hW.alike (h5.kept hS.2.1)⟩, ⟨va_Z.moved hW.alike (h6.kept hS.2.1), va_T.moved hW.alike (h7.kept hS.2.1)⟩, fun q hq => va_Nw.warmD hW (h8 q hq), fun q hq => va_Nw.warmC hW (h9 q hq), ⟨vx_Zq.moved hW.alike (h10.kept hS.2.1), vx_Zq.moved hW.alike (h11.kept hS.2.1)⟩, fun j q hq => vk_R.warm hW (h12 j q hq), fun C hC => va_AO.moved hW.alike (h13 C hC), h14⟩
def NWF : List (String × Nat × String × String × String × String) := [("HedgeNews$Parser", 32, "HedgeNews$Tokens", "kinds", "[LHedgeNews$Kind;", "HedgeNews"), ("HedgeNews$Garden", 36, "HedgeNews$Plan", "hushes", "[I", "HedgeNews"), ("HedgeNews$Garden", 44, "HedgeNews$Plan", "patiences", "[I", "HedgeNews"), ("HedgeNews$Garden", 32, "HedgeNews$Plan", "hedgeCount", "I", "HedgeNews"), ("HedgeNews$NameCheck", 92, "HedgeNews$Plan", "hedgeCount", "I", "HedgeNews"), ("HedgeNews$Garden", 35, "HedgeNews$Plan", "roseCount", "I", "HedgeNews"), ("HedgeNews$NameCheck", 95, "HedgeNews$Plan", "roseCount", "I", "HedgeNews"), ("HedgeNews$Gardener", 28, "HedgeNews$Plan", "acts", "[LHedgeNews$Kind;", "HedgeNews"), ("HedgeNews$Gardener", 32, "HedgeNews$Plan", "firsts", "[I", "HedgeNews"), ("HedgeNews$Gardener", 35, "HedgeNews$Plan", "seconds", "[I", "HedgeNews"), ("HedgeNews$Gardener", 23, "HedgeNews$Plan", "size", "I", "HedgeNews"), ("HedgeNewsModel", 72, "HedgeNewsModel$Plan", "hedges", "I", "HedgeNewsModel"), ("HedgeNewsModel$State", 74, "HedgeNewsModel$Plan", "hedges", "I", "HedgeNewsModel"), ("HedgeNewsModel", 79, "HedgeNewsModel$Plan", "roses", "I", "HedgeNewsModel"), ("HedgeNewsModel$State", 118, "HedgeNewsModel$Plan", "roses", "I", "HedgeNewsModel"), ("HedgeNewsModel$State", 89, "HedgeNewsModel$Plan", "hush", "[I", "HedgeNewsModel"), ("HedgeNewsModel", 234, "HedgeNewsModel$Plan", "hush", "[I", "HedgeNewsModel"), ("HedgeNewsModel$State", 104, "HedgeNewsModel$Plan", "patience", "[I", "HedgeNewsModel"), ("HedgeNewsModel", 237, "HedgeNewsModel$Plan", "patience", "[I", "HedgeNewsModel"), ("HedgeNewsModel$State", 170, "HedgeNewsModel$Plan", "orders", "I", "HedgeNewsModel"), ("HedgeNewsModel", 240, "HedgeNewsModel$Plan", "orders", "I", "HedgeNewsModel"), ("HedgeNewsModel", 162, "HedgeNewsModel$Plan", "ordersRead", "I", "HedgeNewsModel"), ("HedgeNewsModel$State", 134, "HedgeNewsModel$Plan", "does", "[I", "HedgeNewsModel"), ("HedgeNewsModel", 243, "HedgeNewsModel$Plan", "does", "[I", "HedgeNewsModel"), ("HedgeNewsModel$State", 137, "HedgeNewsModel$Plan", "who", "[I", "HedgeNewsModel"), ("HedgeNewsModel", 250, "HedgeNewsModel$Plan", "who", "[I", "HedgeNewsModel"), ("HedgeNewsModel$State", 140, "HedgeNewsModel$Plan", "to", "[I", "HedgeNewsModel"), ("HedgeNewsModel", 253, "HedgeNewsModel$Plan", "to", "[I", "HedgeNewsModel"), ("HedgeNewsModel$State", 143, "HedgeNewsModel$Plan", "sum", "[I", "HedgeNewsModel"), ("HedgeNewsModel", 165, "HedgeNewsModel$Plan", "sum", "[I", "HedgeNewsModel"), ("HedgeNewsModel$State", 146, "HedgeNewsModel$Plan", "test", "[I", "HedgeNewsModel"), ("HedgeNewsModel", 171, "HedgeNewsModel$Plan", "test", "[I", "HedgeNewsModel"), ("HedgeNewsModel$State", 173, "HedgeNewsModel$Plan", "testEnd", "[I", "HedgeNewsModel"), ("HedgeNewsModel", 177, "HedgeNewsModel$Plan", "testEnd", "[I", "HedgeNewsModel"), ("HedgeNewsModel$State", 121, "HedgeNewsModel$Plan", "code", "[I", "HedgeNewsModel"), ("HedgeNewsModel", 143, "HedgeNewsModel$Plan", "code", "[I", "HedgeNewsModel"), ("HedgeNewsModel", 146, "HedgeNewsModel$Plan", "size", "I", "HedgeNewsModel"), ("HedgeNewsModel", 193, "HedgeNewsModel$Plan", "open", "[I", "HedgeNewsModel"), ("HedgeNewsModel", 196, "HedgeNewsModel$Plan", "opens", "I", "HedgeNewsModel"), ("HedgeNewsModel", 293, "HedgeNewsModel$State", "day", "I", "HedgeNewsModel"), ("HedgeNewsModel", 296, "HedgeNewsModel$State", "done", "I", "HedgeNewsModel"), ("HedgeNewsModel", 299, "HedgeNewsModel$State", "whispers", "I", "HedgeNewsModel"), ("HedgeNewsModel", 302, "HedgeNewsModel$State", "cycles", "I", "HedgeNewsModel"), ("HedgeNewsModel", 321, "HedgeNewsModel$State", "listen", "[I", "HedgeNewsModel"), ("HedgeNewsModel", 315, "HedgeNewsModel$State", "heard", "[I", "HedgeNewsModel"), ("HedgeNewsModel", 318, "HedgeNewsModel$State", "latest", "[I", "HedgeNewsModel"), ("HedgeNewsModel", 330, "HedgeNewsModel$State", "petals", "[I", "HedgeNewsModel"), ("HedgeNewsModel", 333, "HedgeNewsModel$State", "count", "[I", "HedgeNewsModel"), ("HedgeNewsModel$State", 70, "HedgeNewsModel", "plan", "LHedgeNewsModel$Plan;", "HedgeNewsModel"), ("HedgeNewsModel$State", 124, "HedgeNewsModel", "stack", "[I", "HedgeNewsModel"), ("HedgeNewsModel$State", 92, "HedgeNewsModel", "ear", "[I", "HedgeNewsModel"), ("HedgeNewsModel$State", 98, "HedgeNewsModel", "mouth", "[I", "HedgeNewsModel"), ("HedgeNewsModel$State", 101, "HedgeNewsModel", "loud", "[I", "HedgeNewsModel"), ("HedgeNewsModel$State", 79, "HedgeNewsModel", "first", "[I", "HedgeNewsModel"), ("HedgeNewsModel$State", 95, "HedgeNewsModel", "said", "I", "HedgeNewsModel"), ("HedgeNewsModel$State", 86, "HedgeNewsModel", "begun", "I", "HedgeNewsModel"), ("HedgeNewsModel$State", 82, "HedgeNewsModel", "isBack", "Z", "HedgeNewsModel")]
def NWM : List (String × Nat × MethodName × String) := [("HedgeNews", 11, ⟨"HedgeNews$Tape", "<init>", "()V"⟩, "HedgeNews"), ("HedgeNews", 25, ⟨"HedgeNews$NameCheck", "<init>", "()V"⟩, "HedgeNews"), ("HedgeNews", 32, ⟨"HedgeNews$News", "<init>", "()V"⟩, "HedgeNews"), ("HedgeNews$Garden", 23, ⟨"HedgeNews$Hedge", "<init>", "()V"⟩, "HedgeNews"), ("HedgeNews$Garden", 24, ⟨"HedgeNews$Rose", "<init>", "()V"⟩, "HedgeNews"), ("HedgeNewsModel", 34, ⟨"HedgeNewsModel$Plan", "<init>", "()V"⟩, "HedgeNewsModel"), ("HedgeNewsModel", 59, ⟨"HedgeNewsModel$State", "<init>", "(LHedgeNewsModel;)V"⟩, "HedgeNewsModel"), ("HedgeNewsModel$State", 130, ⟨"HedgeNewsModel", "both", "(III)I"⟩, "HedgeNewsModel")]
def KE (G : GG) (U : State) : Prop := va_K G.1 vwCl (tys G) U ∧ (∀ q ∈ NWF, va_Nw (.fieldLinkNest q.1 q.2.1 q.2.2.1 q.2.2.2.1 q.2.2.2.2.1 q.2.2.2.2.2) U) ∧ (∀ q ∈ NWM, va_Nw (.methodLinkNest q.1 q.2.1 q.2.2.1 q.2.2.2) U) ∧ KEH G U
theorem KE.step {G : GG} {s U : State} {H : Heap} {locs : List Loc} (hE : KE G s) (hS : va_S (Ab G) s.heap H locs) (hU : U.heap = H) (hW : s.WarmedH U.vm) : KE G U :=
  ⟨va_K.moved hW.alike hE.1, fun q hq => va_Nw.warmF hW (hE.2.1 q hq), fun q hq => va_Nw.warmM hW (hE.2.2.1 q hq), KEH.step hE.2.2.2 hS hU hW⟩

section ROWS
variable {p : Program} {l : Launch} {e : Env} {R : Room} {s : State} {m : MethodId} {args : Array Value} {below : List Frame} {meth : Method} {c : Code} {H : Heap} {locs : List Loc} {cells slots : Nat} {Q : State → Prop}
variable {cc : ByteArray} {pc : Nat} {ls : Array Slot} {rest : List Value} {G : GG} {w : Mm} {a cd ky st : Nat} {A : Nat → Prop} {H0 : Heap}
theorem hp_at (hP : HP G w H) (hs : gS w a = (cd, ky, st)) (hc : cd ≠ 0) : va_P G.1 vwCl [(a, wce G w cd ky st)] H := by
  intro k q hk
  have hz : k < 1 := (List.getElem?_eq_some_iff.mp hk).1
  rw [show k = 0 by omega] at hk
  cases hk
  exact (hP.2.2.1 a _ _ _ hs hc).2.2
theorem hp_sh (hP : HP G w H) (hF : gF G = true) (k : Nat) (cd : Nat) (hk : k < cnt cd) : gS w (adr (gB G) cd k) = (cd, k, full cd) := hP.2.2.2 hF cd k hk
/-- getfield -/
theorem k_get (hexec : p.tables.exec = Jvm.exec) (hb : c.code = cc) (hts : ∀ w ∈ TB, w.before args s = true) (hE : KE G s) {own ref C : String} {T : u_T} {N ci index : Nat} (hin : ∀ w ∈ u_ws C T N, w ∈ TB) (hown : s.vm.findClass own = some m.cls)
    (hP : HP G w H) (hs : gS w a = (cd, ky, st)) (hc0 : cd ≠ 0) {fs : List Value} (he : wce G w cd ky st = .inr (ci, fs)) (hc : vwCl[ci]? = some (C, T, N)) (k : Nat) (hk : k < N) (hlink : Cond.fieldLink own index ref (T k).2.1 (T k).2.2.1 ∈ TB) (hsame : (T k).1 = ref) {v : Value} (hv : fs[k]? = some v) (hdg : decode cc pc = .ok (.getfield index, 3))
    (kk : W p l e R s m args below meth c H locs cells slots Q (F0 m (pc + 3) ls (v :: rest))) : W p l e R s m args below meth c H locs cells slots Q (F0 m pc ls (.ref a :: rest)) := by
  have hp := hp_at hP hs hc0
  rw [he] at hp
  exact va_get hexec hb hts hin hown hE.1 hp 0 rfl hc k hk (hts _ hlink) (fun x hx => by rw [← hsame]; exact hx) hv hdg kk
/-- getfield of a nest mate's private field -/
theorem k_getN (hexec : p.tables.exec = Jvm.exec) (hb : c.code = cc) (hts : ∀ w ∈ TB, w.before args s = true) (hE : KE G s) {own ref C host : String} {T : u_T} {N ci index : Nat} (hin : ∀ w ∈ u_ws C T N, w ∈ TB) (hown : s.vm.findClass own = some m.cls)
    (hP : HP G w H) (hs : gS w a = (cd, ky, st)) (hc0 : cd ≠ 0) {fs : List Value} (he : wce G w cd ky st = .inr (ci, fs)) (hc : vwCl[ci]? = some (C, T, N)) (k : Nat) (hk : k < N) (hlink : (own, index, ref, (T k).2.1, (T k).2.2.1, host) ∈ NWF) (hsame : (T k).1 = ref) {v : Value} (hv : fs[k]? = some v) (hdg : decode cc pc = .ok (.getfield index, 3))
    (kk : W p l e R s m args below meth c H locs cells slots Q (F0 m (pc + 3) ls (v :: rest))) : W p l e R s m args below meth c H locs cells slots Q (F0 m pc ls (.ref a :: rest)) := by
  have hp := hp_at hP hs hc0
  rw [he] at hp
  exact va_getN hexec hb hts hin hown hE.1 hp 0 rfl hc k hk (va_Nw.use rfl (hE.2.1 _ hlink)) (fun x hx => by rw [← hsame]; exact hx) hv hdg kk
/-- putfield; w1 is the memory behind it -/
theorem k_put (hexec : p.tables.exec = Jvm.exec) (hb : c.code = cc) (hts : ∀ w ∈ TB, w.before args s = true) (hE : KE G s) {own ref C : String} {T : u_T} {N ci index : Nat} (hin : ∀ w ∈ u_ws C T N, w ∈ TB) (ty0 : Nat → FieldType) (hty : ∀ k, k < N → parseFieldDescriptor (T k).2.2.1 = some (ty0 k)) (hnm : ∀ a, a < N → ∀ b, b < N → a ≠ b → (T a).2.1 ≠ (T b).2.1) (hown : s.vm.findClass own = some m.cls)
    (hP : HP G w H) (hS : va_S (Ab G) H0 H locs) (hs : gS w a = (cd, ky, st)) (hc0 : cd ≠ 0) {fs : List Value} (he : wce G w cd ky st = .inr (ci, fs)) (hc : vwCl[ci]? = some (C, T, N)) (k : Nat) (hk : k < N) (hlink : Cond.fieldLink own index ref (T k).2.1 (T k).2.2.1 ∈ TB) (hsame : (T k).1 = ref) (hfin : (T k).2.2.2 = false) {ty : FieldType} {v : Value} (hd : parseFieldDescriptor (T k).2.2.1 = some ty) (hn : narrow ty v = v) (hfit : fits ty v = true) (hl : k < fs.length)
    {w1 : Mm} (hloc : Loc1 w w1 cd ky) (he1 : wce G w1 cd ky st = .inr (ci, fs.set k v))
    (hdg : decode cc pc = .ok (.putfield index, 3)) (kk : ∀ (w2 : Mm) (H1 : Heap) (locs1 : List Loc), w2 = w1 → HP G w2 H1 → va_S (Ab G) H0 H1 locs1 → W p l e R s m args below meth c H1 locs1 cells slots Q (F0 m (pc + 3) ls rest)) : W p l e R s m args below meth c H locs cells slots Q (F0 m pc ls (v :: .ref a :: rest)) := by
  have hp := hp_at hP hs hc0
  rw [he] at hp
  have hK := hE.1
  have hap := va_apart (own := own) hts hin ty0 hty hnm hK hc
  obtain ⟨r, h1, cell, q1, q2, q3, q4⟩ := hp 0 _ rfl
  have hr : r = (C, T, N) := Option.some.inj (h1.symm.trans hc)
  subst hr
  obtain ⟨hSl, hfc, kC, hkC, hkind⟩ := hK.1 ci _ hc
  obtain ⟨cf, kf, fi, f, hi, hsl⟩ := hSl k hk
  have hlay := hts _ (hin _ (u_in_lay hk))
  unfold u_lay at hlay
  rw [if_neg (by rw [hfin]; decide)] at hlay
  have hst := (u_facts hfc hkC (u_lays hts hin hk) hi).1
  have h6 := u_store hfc hkC hkind hlay hi hd hn hfit
  refine W.putK hexec hb (f := f) ⟨hown, hts _ hlink, ⟨_, _, _, by rw [← hsame]; exact hi⟩, hst⟩ (by rw [q2]; exact h6) q1 q3 (by rw [hsl]; exact k2_hasslot (q4 k hk)) rfl rfl hdg fun H' e1 e2 e3 => ?_
  rw [hsl] at e1 ⊢
  refine kk _ H' _ rfl (hP.put hs hc0 hloc ?_ e2 e3) (hS.put e2 e3 ((hP.2.2.1 a _ _ _ hs hc0).1))
  rw [he1]
  exact ⟨_, hc, t_OB.to (V := updV (vp_V fs) k v) ⟨_, e1, q2, q3, t_set q4 hap hk v⟩ (fun j _ => vp_updV_set hl v j)⟩
theorem k_putN (hexec : p.tables.exec = Jvm.exec) (hb : c.code = cc) (hts : ∀ w ∈ TB, w.before args s = true) (hE : KE G s) {own ref C host : String} {T : u_T} {N ci index : Nat} (hin : ∀ w ∈ u_ws C T N, w ∈ TB) (ty0 : Nat → FieldType) (hty : ∀ k, k < N → parseFieldDescriptor (T k).2.2.1 = some (ty0 k)) (hnm : ∀ a, a < N → ∀ b, b < N → a ≠ b → (T a).2.1 ≠ (T b).2.1) (hown : s.vm.findClass own = some m.cls)
    (hP : HP G w H) (hS : va_S (Ab G) H0 H locs) (hs : gS w a = (cd, ky, st)) (hc0 : cd ≠ 0) {fs : List Value} (he : wce G w cd ky st = .inr (ci, fs)) (hc : vwCl[ci]? = some (C, T, N)) (k : Nat) (hk : k < N) (hlink : (own, index, ref, (T k).2.1, (T k).2.2.1, host) ∈ NWF) (hsame : (T k).1 = ref) (hfin : (T k).2.2.2 = false) {ty : FieldType} {v : Value} (hd : parseFieldDescriptor (T k).2.2.1 = some ty) (hn : narrow ty v = v) (hfit : fits ty v = true) (hl : k < fs.length)
    {w1 : Mm} (hloc : Loc1 w w1 cd ky) (he1 : wce G w1 cd ky st = .inr (ci, fs.set k v))
    (hdg : decode cc pc = .ok (.putfield index, 3)) (kk : ∀ (w2 : Mm) (H1 : Heap) (locs1 : List Loc), w2 = w1 → HP G w2 H1 → va_S (Ab G) H0 H1 locs1 → W p l e R s m args below meth c H1 locs1 cells slots Q (F0 m (pc + 3) ls rest)) : W p l e R s m args below meth c H locs cells slots Q (F0 m pc ls (v :: .ref a :: rest)) := by
  have hp := hp_at hP hs hc0
  rw [he] at hp
  have hK := hE.1
  have hap := va_apart (own := own) hts hin ty0 hty hnm hK hc
  obtain ⟨r, h1, cell, q1, q2, q3, q4⟩ := hp 0 _ rfl
  have hr : r = (C, T, N) := Option.some.inj (h1.symm.trans hc)
  subst hr
  obtain ⟨hSl, hfc, kC, hkC, hkind⟩ := hK.1 ci _ hc
  obtain ⟨cf, kf, fi, f, hi, hsl⟩ := hSl k hk
  have hlay := hts _ (hin _ (u_in_lay hk))
  unfold u_lay at hlay
  rw [if_neg (by rw [hfin]; decide)] at hlay
  have hst := (u_facts hfc hkC (u_lays hts hin hk) hi).1
  have h6 := u_store hfc hkC hkind hlay hi hd hn hfit
  refine va_WputK hexec hb hown (va_Nw.use rfl (hE.2.1 _ hlink)) (by rw [← hsame]; exact hi) hst (by rw [q2]; exact h6) q1 q3 (by rw [hsl]; exact k2_hasslot (q4 k hk)) rfl rfl hdg fun H' e1 e2 e3 => ?_
  rw [hsl] at e1 ⊢
  refine kk _ H' _ rfl (hP.put hs hc0 hloc ?_ e2 e3) (hS.put e2 e3 ((hP.2.2.1 a _ _ _ hs hc0).1))
  rw [he1]
  exact ⟨_, hc, t_OB.to (V := updV (vp_V fs) k v) ⟨_, e1, q2, q3, t_set q4 hap hk v⟩ (fun j _ => vp_updV_set hl v j)⟩
/-- arrays: length, loads -/
theorem k_alen (hexec : p.tables.exec = Jvm.exec) (hb : c.code = cc) (hE : KE G s) (hP : HP G w H) (hs : gS w a = (cd, ky, st)) (hc0 : cd ≠ 0) {cA : ClassId} {x : vp_A} (he : wce G w cd ky st = .inl (cA, x)) (t0 : Nat) {ty : FieldType} (ht : (tys G)[t0]? = some (cA, ty)) {v : Int32} (hv : Int32.ofNat x.1 = v) (hdg : decode cc pc = .ok (.arraylength, 1))
    (kk : W p l e R s m args below meth c H locs cells slots Q (F0 m (pc + 1) ls (.int v :: rest))) : W p l e R s m args below meth c H locs cells slots Q (F0 m pc ls (.ref a :: rest)) := by
  have hp := hp_at hP hs hc0
  rw [he] at hp
  exact va_alen hexec hb hE.1 hp 0 t0 rfl ht hv hdg kk
theorem k_iald (hexec : p.tables.exec = Jvm.exec) (hb : c.code = cc) (hE : KE G s) (hP : HP G w H) (hs : gS w a = (cd, ky, st)) (hc0 : cd ≠ 0) {n : Nat} (he : wce G w cd ky st = .inl (G.2.1 0, (n, .inl (w.1 cd ky)))) {i : Int32} (hin : vB i n = true) (hdg : decode cc pc = .ok (.iaload, 1))
    (kk : W p l e R s m args below meth c H locs cells slots Q (F0 m (pc + 1) ls (.int (gI w cd ky i.toNatClampNeg) :: rest))) : W p l e R s m args below meth c H locs cells slots Q (F0 m pc ls (.int i :: .ref a :: rest)) := by
  have hp := hp_at hP hs hc0
  rw [he] at hp
  exact va_iald hexec hb hE.1 hp 0 0 rfl rfl (vB_in hin) hdg kk
theorem k_bald (hexec : p.tables.exec = Jvm.exec) (hb : c.code = cc) (hE : KE G s) (hP : HP G w H) (hs : gS w a = (cd, ky, st)) (hc0 : cd ≠ 0) {n : Nat} (he : wce G w cd ky st = .inl (G.2.1 2, (n, .inl (w.1 cd ky)))) {i : Int32} (hin : vB i n = true) (hdg : decode cc pc = .ok (.baload, 1))
    (kk : W p l e R s m args below meth c H locs cells slots Q (F0 m (pc + 1) ls (.int (gI w cd ky i.toNatClampNeg) :: rest))) : W p l e R s m args below meth c H locs cells slots Q (F0 m pc ls (.int i :: .ref a :: rest)) := by
  have hp := hp_at hP hs hc0
  rw [he] at hp
  exact va_bald hexec hb hE.1 hp 0 2 rfl rfl (vB_in hin) hdg kk
theorem k_zald (hexec : p.tables.exec = Jvm.exec) (hb : c.code = cc) (hE : KE G s) (hP : HP G w H) (hs : gS w a = (cd, ky, st)) (hc0 : cd ≠ 0) {n : Nat} (he : wce G w cd ky st = .inl (G.2.1 3, (n, .inl (w.1 cd ky)))) {i : Int32} (hin : vB i n = true) (hdg : decode cc pc = .ok (.baload, 1))
    (kk : W p l e R s m args below meth c H locs cells slots Q (F0 m (pc + 1) ls (.int (gI w cd ky i.toNatClampNeg) :: rest))) : W p l e R s m args below meth c H locs cells slots Q (F0 m pc ls (.int i :: .ref a :: rest)) := by
  have hp := hp_at hP hs hc0
  rw [he] at hp
  exact va_zald hexec hb hE.1 hp 0 3 rfl rfl (vB_in hin) hdg kk
theorem k_lald (hexec : p.tables.exec = Jvm.exec) (hb : c.code = cc) (hE : KE G s) (hP : HP G w H) (hs : gS w a = (cd, ky, st)) (hc0 : cd ≠ 0) {n : Nat} (he : wce G w cd ky st = .inl (G.2.1 1, (n, .inr (.inl (w.2.1 cd ky))))) {i : Int32} (hin : vB i n = true) (hdg : decode cc pc = .ok (.laload, 1))
    (kk : W p l e R s m args below meth c H locs cells slots Q (F0 m (pc + 1) ls (.long (gL w cd ky i.toNatClampNeg) :: rest))) : W p l e R s m args below meth c H locs cells slots Q (F0 m pc ls (.int i :: .ref a :: rest)) := by
  have hp := hp_at hP hs hc0
  rw [he] at hp
  exact va_lald hexec hb hE.1 hp 0 1 rfl rfl (vB_in hin) hdg kk
theorem k_aald (hexec : p.tables.exec = Jvm.exec) (hb : c.code = cc) (hE : KE G s) (hP : HP G w H) (hs : gS w a = (cd, ky, st)) (hc0 : cd ≠ 0) {n t0 : Nat} {cA : ClassId} {C : String} {f : Nat → Option Nat} (he : wce G w cd ky st = .inl (cA, (n, .inr (.inr (.inr (.inr f)))))) (ht : (tys G)[t0]? = some (cA, .object C)) {i : Int32} (hin : vB i n = true) (hdg : decode cc pc = .ok (.aaload, 1))
    (kk : W p l e R s m args below meth c H locs cells slots Q (F0 m (pc + 1) ls (va_rf (f i.toNatClampNeg) :: rest))) : W p l e R s m args below meth c H locs cells slots Q (F0 m pc ls (.int i :: .ref a :: rest)) := by
  have hp := hp_at hP hs hc0
  rw [he] at hp
  exact va_aldq hexec hb hE.1 hp 0 t0 rfl ht (vB_in hin) hdg kk
theorem fn_upd (f : Nat → Int32) (i : Nat) (x : Int32) (P : Prop) [Decidable P] (hP : P) : (fun i' => if P ∧ i' = i then x else f i') = upd f i x := by
  funext j; simp [upd, hP]
theorem k_iast (hexec : p.tables.exec = Jvm.exec) (hb : c.code = cc) (hE : KE G s) (hP : HP G w H) (hS : va_S (Ab G) H0 H locs) (hs : gS w a = (cd, ky, st)) (hc0 : cd ≠ 0) {n : Nat} (he : wce G w cd ky st = .inl (G.2.1 0, (n, .inl (w.1 cd ky)))) {i x : Int32} (he1 : wce G (pI w cd ky i.toNatClampNeg x) cd ky st = .inl (G.2.1 0, (n, .inl ((pI w cd ky i.toNatClampNeg x).1 cd ky)))) (hin : vB i n = true) (hdg : decode cc pc = .ok (.iastore, 1))
    (kk : ∀ (w2 : Mm) (H1 : Heap) (locs1 : List Loc), w2 = pI w cd ky i.toNatClampNeg x → HP G w2 H1 → va_S (Ab G) H0 H1 locs1 → W p l e R s m args below meth c H1 locs1 cells slots Q (F0 m (pc + 1) ls rest)) : W p l e R s m args below meth c H locs cells slots Q (F0 m pc ls (.int x :: .int i :: .ref a :: rest)) := by
  have hp := hp_at hP hs hc0
  rw [he] at hp
  refine W.iast hexec hb (hp 0 _ rfl) ((hE.1.2 0 _ rfl).1 n (fun j => .int (w.1 cd ky j))) (fun q => by cases q) (by show ¬ (i < 0 ∨ (arrV _ _ _).slots.size ≤ _); rw [arrV_size]; exact vB_in hin) rfl rfl hdg fun H1 e z oq => ?_
  refine kk _ H1 _ rfl (hP.put hs hc0 loc_pI ?_ z oq) (hS.put z oq ((hP.2.2.1 a _ _ _ hs hc0).1))
  rw [he1]
  show H1[a]? = some (vp_cell _ _)
  rw [e]
  rw [vp_cell_i, vp_cell_i, arrV_store]
  congr 2
  funext q
  by_cases hq : q = i.toNatClampNeg
  · subst hq
    simp [updV, pI]
  · simp [updV, pI, hq]
theorem k_last (hexec : p.tables.exec = Jvm.exec) (hb : c.code = cc) (hE : KE G s) (hP : HP G w H) (hS : va_S (Ab G) H0 H locs) (hs : gS w a = (cd, ky, st)) (hc0 : cd ≠ 0) {n : Nat} (he : wce G w cd ky st = .inl (G.2.1 1, (n, .inr (.inl (w.2.1 cd ky))))) {i : Int32} {x : Int64} (he1 : wce G (pL w cd ky i.toNatClampNeg x) cd ky st = .inl (G.2.1 1, (n, .inr (.inl ((pL w cd ky i.toNatClampNeg x).2.1 cd ky))))) (hin : vB i n = true) (hdg : decode cc pc = .ok (.lastore, 1))
    (kk : ∀ (w2 : Mm) (H1 : Heap) (locs1 : List Loc), w2 = pL w cd ky i.toNatClampNeg x → HP G w2 H1 → va_S (Ab G) H0 H1 locs1 → W p l e R s m args below meth c H1 locs1 cells slots Q (F0 m (pc + 1) ls rest)) : W p l e R s m args below meth c H locs cells slots Q (F0 m pc ls (.long x :: .int i :: .ref a :: rest)) := by
  have hp := hp_at hP hs hc0
  rw [he] at hp
  refine W.last hexec hb (hp 0 _ rfl) ((hE.1.2 1 _ rfl).1 n (fun j => .long (w.2.1 cd ky j))) (fun q => by cases q) (by show ¬ (i < 0 ∨ (arrV _ _ _).slots.size ≤ _); rw [arrV_size]; exact vB_in hin) rfl rfl hdg fun H1 e z oq => ?_
  refine kk _ H1 _ rfl (hP.put hs hc0 loc_pL ?_ z oq) (hS.put z oq ((hP.2.2.1 a _ _ _ hs hc0).1))
  rw [he1]
  show H1[a]? = some (vp_cell _ _)
  rw [e]
  rw [vp_cell_l, vp_cell_l, arrV_store]
  congr 2
  funext q
  by_cases hq : q = i.toNatClampNeg
  · subst hq
    simp [updV, pL]
  · simp [updV, pL, hq]
theorem k_bast (hexec : p.tables.exec = Jvm.exec) (hb : c.code = cc) (hE : KE G s) (hP : HP G w H) (hS : va_S (Ab G) H0 H locs) (hs : gS w a = (cd, ky, st)) (hc0 : cd ≠ 0) {n : Nat} (he : wce G w cd ky st = .inl (G.2.1 2, (n, .inl (w.1 cd ky)))) {i x : Int32} (he1 : wce G (pI w cd ky i.toNatClampNeg (vp_nar .byte x)) cd ky st = .inl (G.2.1 2, (n, .inl ((pI w cd ky i.toNatClampNeg (vp_nar .byte x)).1 cd ky)))) (hin : vB i n = true) (hdg : decode cc pc = .ok (.bastore, 1))
    (kk : ∀ (w2 : Mm) (H1 : Heap) (locs1 : List Loc), w2 = pI w cd ky i.toNatClampNeg (vp_nar .byte x) → HP G w2 H1 → va_S (Ab G) H0 H1 locs1 → W p l e R s m args below meth c H1 locs1 cells slots Q (F0 m (pc + 1) ls rest)) : W p l e R s m args below meth c H locs cells slots Q (F0 m pc ls (.int x :: .int i :: .ref a :: rest)) := by
  have hp := hp_at hP hs hc0
  rw [he] at hp
  refine W.bast hexec hb (hp 0 _ rfl) ((hE.1.2 2 _ rfl).1 n (fun j => .int (w.1 cd ky j))) (fun q => by cases q) (by show ¬ (i < 0 ∨ (arrV _ _ _).slots.size ≤ _); rw [arrV_size]; exact vB_in hin) rfl rfl hdg fun H1 e z oq => ?_
  refine kk _ H1 _ rfl (hP.put hs hc0 loc_pI ?_ z oq) (hS.put z oq ((hP.2.2.1 a _ _ _ hs hc0).1))
  rw [he1]
  show H1[a]? = some (vp_cell _ _)
  rw [e]
  rw [vp_cell_i, vp_cell_i, arrV_store]
  congr 2
  funext q
  by_cases hq : q = i.toNatClampNeg
  · subst hq
    simp [updV, pI, vp_nar]
    try rfl
  · simp [updV, pI, hq]
theorem k_zast (hexec : p.tables.exec = Jvm.exec) (hb : c.code = cc) (hE : KE G s) (hP : HP G w H) (hS : va_S (Ab G) H0 H locs) (hs : gS w a = (cd, ky, st)) (hc0 : cd ≠ 0) {n : Nat} (he : wce G w cd ky st = .inl (G.2.1 3, (n, .inl (w.1 cd ky)))) {i x : Int32} (he1 : wce G (pI w cd ky i.toNatClampNeg (vp_nar .boolean x)) cd ky st = .inl (G.2.1 3, (n, .inl ((pI w cd ky i.toNatClampNeg (vp_nar .boolean x)).1 cd ky)))) (hin : vB i n = true) (hdg : decode cc pc = .ok (.bastore, 1))
    (kk : ∀ (w2 : Mm) (H1 : Heap) (locs1 : List Loc), w2 = pI w cd ky i.toNatClampNeg (vp_nar .boolean x) → HP G w2 H1 → va_S (Ab G) H0 H1 locs1 → W p l e R s m args below meth c H1 locs1 cells slots Q (F0 m (pc + 1) ls rest)) : W p l e R s m args below meth c H locs cells slots Q (F0 m pc ls (.int x :: .int i :: .ref a :: rest)) := by
  have hp := hp_at hP hs hc0
  rw [he] at hp
  refine W.zast hexec hb (hp 0 _ rfl) ((hE.1.2 3 _ rfl).1 n (fun j => .int (w.1 cd ky j))) (fun q => by cases q) (by show ¬ (i < 0 ∨ (arrV _ _ _).slots.size ≤ _); rw [arrV_size]; exact vB_in hin) rfl rfl hdg fun H1 e z oq => ?_
  refine kk _ H1 _ rfl (hP.put hs hc0 loc_pI ?_ z oq) (hS.put z oq ((hP.2.2.1 a _ _ _ hs hc0).1))
  rw [he1]
  show H1[a]? = some (vp_cell _ _)
  rw [e]
  rw [vp_cell_i, vp_cell_i, arrV_store]
  congr 2
  funext q
  by_cases hq : q = i.toNatClampNeg
  · subst hq
    simp [updV, pI, vp_nar]
    try rfl
  · simp [updV, pI, hq]
end ROWS
