def FrS (S : List Nat) (w w' : Mm) : Prop := (∀ c, c ∉ S → ∀ k i, gI w' c k i = gI w c k i ∧ gL w' c k i = gL w c k i ∧ gR w' c k i = gR w c k i) ∧ gZ w ≤ gZ w' ∧ ∀ a, a < gZ w → gS w' a = gS w a
theorem fr_refl {S : List Nat} {w : Mm} : FrS S w w := ⟨fun _ _ _ _ => ⟨rfl, rfl, rfl⟩, Nat.le_refl _, fun _ _ => rfl⟩
theorem fr_trans {S : List Nat} {w w1 w2 : Mm} (h : FrS S w w1) (g : FrS S w1 w2) : FrS S w w2 :=
  ⟨fun c hc k i => ⟨((g.1 c hc k i).1).trans (h.1 c hc k i).1, ((g.1 c hc k i).2.1).trans (h.1 c hc k i).2.1, ((g.1 c hc k i).2.2).trans (h.1 c hc k i).2.2⟩, Nat.le_trans h.2.1 g.2.1, fun a ha => (g.2.2 a (Nat.lt_of_lt_of_le ha h.2.1)).trans (h.2.2 a ha)⟩
theorem fr_mono {S S1 : List Nat} {w w1 : Mm} (h : FrS S1 w w1) (hs : ∀ c, c ∈ S1 → c ∈ S) : FrS S w w1 := ⟨fun c hc => h.1 c (fun q => hc (hs c q)), h.2⟩
theorem fr_pI {S : List Nat} {w : Mm} {c k i : Nat} {v : Int32} (h : c ∈ S) : FrS S w (pI w c k i v) := ⟨fun c' hc k' i' => ⟨by show (if c' = c ∧ k' = k ∧ i' = i then v else w.1 c' k' i') = _; exact if_neg (fun q => hc (by rw [q.1]; exact h)), rfl, rfl⟩, Nat.le_refl _, fun _ _ => rfl⟩
theorem fr_pL {S : List Nat} {w : Mm} {c k i : Nat} {v : Int64} (h : c ∈ S) : FrS S w (pL w c k i v) := ⟨fun c' hc k' i' => ⟨rfl, by show (if c' = c ∧ k' = k ∧ i' = i then v else w.2.1 c' k' i') = _; exact if_neg (fun q => hc (by rw [q.1]; exact h)), rfl⟩, Nat.le_refl _, fun _ _ => rfl⟩
theorem fr_pR {S : List Nat} {w : Mm} {c k i v : Nat} (h : c ∈ S) : FrS S w (pR w c k i v) := ⟨fun c' hc k' i' => ⟨rfl, rfl, by show (if c' = c ∧ k' = k ∧ i' = i then v else w.2.2.1 c' k' i') = _; exact if_neg (fun q => hc (by rw [q.1]; exact h))⟩, Nat.le_refl _, fun _ _ => rfl⟩
theorem fr_pCp {S : List Nat} {w : Mm} {c0 k0 c k n : Nat} (h : c ∈ S) : FrS S w (pCp w c0 k0 c k n) := ⟨fun c' hc k' i' => ⟨by show (if c' = c ∧ k' = k ∧ i' < n then w.1 c0 k0 i' else w.1 c' k' i') = _; exact if_neg (fun q => hc (by rw [q.1]; exact h)), rfl, rfl⟩, Nat.le_refl _, fun _ _ => rfl⟩
theorem fr_nw {S : List Nat} {w : Mm} {c k st : Nat} (h : c ∈ S) : FrS S w (nw w c k st) := ⟨fun c' hc k' i' => ⟨by show (if c' = c ∧ k' = k then 0 else w.1 c' k' i') = _; exact if_neg (fun q => hc (by rw [q.1]; exact h)), by show (if c' = c ∧ k' = k then 0 else w.2.1 c' k' i') = _; exact if_neg (fun q => hc (by rw [q.1]; exact h)), by show (if c' = c ∧ k' = k then 0 else w.2.2.1 c' k' i') = _; exact if_neg (fun q => hc (by rw [q.1]; exact h))⟩, Nat.le_succ _, fun a ha => by show (if a = gZ w then (c, k, st) else gS w a) = _; rw [if_neg (Nat.ne_of_lt ha)]⟩
def FrO {β : Type} (S : List Nat) (m : β → Mm) (e : Option β) (w : Mm) : Prop := ∀ r, e = some r → FrS S w (m r)
theorem fo_none {β : Type} {S : List Nat} {m : β → Mm} {w : Mm} : FrO S m none w := fun _ h => by cases h
theorem fo_some {β : Type} {S : List Nat} {m : β → Mm} {w : Mm} {r : β} (h : FrS S w (m r)) : FrO S m (some r) w := fun _ e => by cases e; exact h
theorem fo_mono {β : Type} {S S1 : List Nat} {m : β → Mm} {w : Mm} {e : Option β} (h : FrO S1 m e w) (hs : ∀ c, c ∈ S1 → c ∈ S) : FrO S m e w := fun r he => fr_mono (h r he) hs
theorem fo_gd {β : Type} {S : List Nat} {m : β → Mm} {w : Mm} {c : Bool} {k : Option β} (h : FrO S m k w) : FrO S m (gd c k) w := fun r he => h r (gd_el he).2
theorem fo_br {β : Type} {S : List Nat} {m : β → Mm} {w : Mm} {c : Prop} [Decidable c] {a b : Option β} (h1 : FrO S m a w) (h2 : FrO S m b w) : FrO S m (br c a b) w := fun r he => by
  by_cases hc : c
  · exact h1 r (br_el he hc)
  · exact h2 r (br_er he hc)
theorem fo_sqv {α β : Type} {S : List Nat} {m : β → Mm} {w : Mm} {e : α} {k : α → Option β} (h : ∀ x, FrO S m (k x) w) : FrO S m (sq e k) w := h e
theorem fo_sqm {β : Type} {S : List Nat} {m : β → Mm} {w e : Mm} {k : Mm → Option β} (h1 : FrS S w e) (h : ∀ x, FrO S m (k x) x) : FrO S m (sq e k) w := fun r he => fr_trans h1 (h e r he)
theorem fo_bd0 {β : Type} {S : List Nat} {m : β → Mm} {w : Mm} {e : Option Mm} {k : Mm → Option β} (h1 : FrO S id e w) (h : ∀ x, FrO S m (k x) x) : FrO S m (bd0 e k) w := fun r he => by
  obtain ⟨x, hx, hk⟩ := bd0_el he
  exact fr_trans (h1 _ hx) (h x r hk)
theorem fo_bd1 {α β : Type} {S : List Nat} {m : β → Mm} {w : Mm} {e : Option (α × Mm)} {k : α → Mm → Option β} (h1 : FrO S Prod.snd e w) (h : ∀ a x, FrO S m (k a x) x) : FrO S m (bd1 e k) w := fun r he => by
  obtain ⟨a, x, hx, hk⟩ := bd1_el he
  exact fr_trans (h1 _ hx) (h a x r hk)
theorem fo_bd2 {α α1 β : Type} {S : List Nat} {m : β → Mm} {w : Mm} {e : Option (α × α1 × Mm)} {k : α → α1 → Mm → Option β} (h1 : FrO S (fun r => r.2.2) e w) (h : ∀ a a1 x, FrO S m (k a a1 x) x) : FrO S m (bd2 e k) w := fun r he => by
  obtain ⟨a, a1, x, hx, hk⟩ := bd2_el he
  exact fr_trans (h1 _ hx) (h a a1 x r hk)
theorem fo_bd3 {α α1 α2 β : Type} {S : List Nat} {m : β → Mm} {w : Mm} {e : Option (α × α1 × α2 × Mm)} {k : α → α1 → α2 → Mm → Option β} (h1 : FrO S (fun r => r.2.2.2) e w) (h : ∀ a a1 a2 x, FrO S m (k a a1 a2 x) x) : FrO S m (bd3 e k) w := fun r he => by
  obtain ⟨a, a1, a2, x, hx, hk⟩ := bd3_el he
  exact fr_trans (h1 _ hx) (h a a1 a2 x r hk)
theorem fo_bn {α β : Type} {S : List Nat} {m : β → Mm} {w : Mm} {e : Option ((Nat ⊕ α) × Mm)} {k : α → Mm → Option β} (h1 : FrO S Prod.snd e w) (h : ∀ a x, FrO S m (k a x) x) : FrO S m (bn e k) w := fun r he => by
  obtain ⟨a, x, hx, hk⟩ := bn_el he
  exact fr_trans (h1 _ hx) (h a x r hk)
theorem fo_bx {α β : Type} {S : List Nat} {w : Mm} {e : Option ((Nat ⊕ α) × Mm)} {k : α → Mm → Option ((Nat ⊕ β) × Mm)} (h1 : FrO S Prod.snd e w) (h : ∀ a x, FrO S Prod.snd (k a x) x) : FrO S Prod.snd (bx e k) w := fun r he => by
  obtain ⟨a, x, hx, hi, hj⟩ := bx_el he
  cases a with
  | inl q => rw [hi q rfl]; exact h1 _ hx
  | inr v => exact fr_trans (h1 _ hx) (h v x r (hj v rfl))
theorem fo_on {β : Type} {S : List Nat} {m : β → Mm} {w : Mm} {o : Option Nat} {n : Option β} {k : Nat → Option β} (h1 : FrO S m n w) (h2 : ∀ a, FrO S m (k a) w) : FrO S m (on o n k) w := fun r he => by
  cases ho : o with
  | none => exact h1 r (on_n he ho)
  | some a => exact h2 a r (on_s he ho)

set_option maxRecDepth 100000 in
theorem fr_X10_add_L3 (z1 : Int32) : ∀ (n : Nat) (u2 : Int32) (w : Mm), FrO [2, 3] id (f_X10_add_L3 z1 n u2 w) w := by
  intro n
  induction n with
  | zero => intro u2 w; exact fo_none
  | succ n ih =>
    intro u2 w
    rw [f_X10_add_L3]
    exact (fo_br (fo_some fr_refl) (fo_br (fo_sqv (fun x1 => (ih x1 w))) (fo_br (fo_sqv (fun x2 => (ih x2 w))) (fo_gd (fo_sqm (fr_pI (by decide)) (fun w4 => (fo_sqm (fr_pI (by decide)) (fun w5 => (fo_sqv (fun x6 => (ih x6 w5)))))))))))
set_option maxRecDepth 100000 in
theorem fr_X10_add (a1 : Int32) (w : Mm) : FrO [2, 3] id (f_X10_add a1 w) w := by
  unfold f_X10_add
  exact (fo_bd0 (fo_mono (fr_X10_add_L3 _ _ _ _) (by decide)) (fun w7 => (fo_some fr_refl)))
set_option maxRecDepth 100000 in
theorem fr_X12_feed (a1 : Int32) (a2 : Int32) (a3 : Int32) (a4 : Int32) (a5 : Int32) (w : Mm) : FrO [2, 3] Prod.snd (f_X12_feed a1 a2 a3 a4 a5 w) w := by
  unfold f_X12_feed
  exact (fo_br (fo_bd0 (fo_mono (fr_X10_add _ _) (by decide)) (fun w1 => (fo_bd0 (fo_mono (fr_X10_add _ _) (by decide)) (fun w2 => (fo_bd0 (fo_mono (fr_X10_add _ _) (by decide)) (fun w3 => (fo_bd0 (fo_mono (fr_X10_add _ _) (by decide)) (fun w4 => (fo_bd0 (fo_mono (fr_X10_add _ _) (by decide)) (fun w5 => (fo_some fr_refl))))))))))) (fo_some fr_refl))
set_option maxRecDepth 100000 in
theorem fr_X12_trim (a1 : Int32) (w : Mm) : FrO [2] Prod.snd (f_X12_trim a1 w) w := by
  unfold f_X12_trim
  exact (fo_br (fo_some fr_refl) (fo_br (fo_sqm (fr_pI (by decide)) (fun w1 => (fo_some fr_refl))) (fo_some fr_refl)))
set_option maxRecDepth 100000 in
theorem fr_X3_begin (a0 : Nat) (a1 : Int32) (w : Mm) : FrO [22] id (f_X3_begin a0 a1 w) w := by
  unfold f_X3_begin
  exact (fo_sqm (fr_pI (by decide)) (fun w1 => (fo_sqm (fr_pI (by decide)) (fun w2 => (fo_sqm (fr_pI (by decide)) (fun w3 => (fo_sqm (fr_pI (by decide)) (fun w4 => (fo_some fr_refl)))))))))
set_option maxRecDepth 100000 in
theorem fr_X9_begin (a0 : Nat) (a1 : Int32) (w : Mm) : FrO [24] id (f_X9_begin a0 a1 w) w := by
  unfold f_X9_begin
  exact (fo_sqm (fr_pI (by decide)) (fun w1 => (fo_sqm (fr_pI (by decide)) (fun w2 => (fo_sqm (fr_pI (by decide)) (fun w3 => (fo_sqm (fr_pI (by decide)) (fun w4 => (fo_some fr_refl)))))))))
set_option maxRecDepth 100000 in
theorem fr_X1_begin_L18 (z0 : Nat) (z1 : Nat) : ∀ (n : Nat) (u2 : Int32) (w : Mm), FrO [22] id (f_X1_begin_L18 z0 z1 n u2 w) w := by
  intro n
  induction n with
  | zero => intro u2 w; exact fo_none
  | succ n ih =>
    intro u2 w
    rw [f_X1_begin_L18]
    exact (fo_br (fo_some fr_refl) (fo_br (fo_some fr_refl) (fo_gd (fo_gd (fo_bd0 (fo_mono (fr_X3_begin _ _ _) (by decide)) (fun w5 => (fo_sqv (fun x6 => (ih x6 w5)))))))))
set_option maxRecDepth 100000 in
theorem fr_X1_begin_L59 (z0 : Nat) (z1 : Nat) : ∀ (n : Nat) (u2 : Int32) (w : Mm), FrO [24] id (f_X1_begin_L59 z0 z1 n u2 w) w := by
  intro n
  induction n with
  | zero => intro u2 w; exact fo_none
  | succ n ih =>
    intro u2 w
    rw [f_X1_begin_L59]
    exact (fo_br (fo_some fr_refl) (fo_br (fo_some fr_refl) (fo_gd (fo_gd (fo_bd0 (fo_mono (fr_X9_begin _ _ _) (by decide)) (fun w10 => (fo_sqv (fun x11 => (ih x11 w10)))))))))
set_option maxRecDepth 100000 in
theorem fr_X1_begin (a0 : Nat) (a1 : Nat) (w : Mm) : FrO [19, 22, 24] id (f_X1_begin a0 a1 w) w := by
  unfold f_X1_begin
  exact (fo_sqm (fr_pI (by decide)) (fun w1 => (fo_sqm (fr_pI (by decide)) (fun w2 => (fo_bd0 (fo_mono (fr_X1_begin_L18 _ _ _ _ _) (by decide)) (fun w7 => (fo_bd0 (fo_mono (fr_X1_begin_L59 _ _ _ _ _) (by decide)) (fun w12 => (fo_sqm (fr_pI (by decide)) (fun w13 => (fo_sqm (fr_pI (by decide)) (fun w14 => (fo_sqm (fr_pI (by decide)) (fun w15 => (fo_sqm (fr_pI (by decide)) (fun w16 => (fo_sqm (fr_pI (by decide)) (fun w17 => (fo_some fr_refl)))))))))))))))))))
set_option maxRecDepth 100000 in
theorem fr_X12_beginSparePlan (w : Mm) : FrO [1, 19, 22, 24] id (f_X12_beginSparePlan w) w := by
  unfold f_X12_beginSparePlan
  exact (fo_gd (fo_sqv (fun p2 => (fo_gd (fo_sqv (fun p4 => (fo_sqm (fr_pR (by decide)) (fun w5 => (fo_sqm (fr_pR (by decide)) (fun w6 => (fo_bd0 (fo_mono (fr_X1_begin _ _ _) (by decide)) (fun w7 => (fo_some fr_refl)))))))))))))
set_option maxRecDepth 100000 in
theorem fr_X4_isOrder (a0 : Nat) (w : Mm) : FrO [] Prod.snd (f_X4_isOrder a0 w) w := by
  unfold f_X4_isOrder
  exact (fo_br (fo_some fr_refl) (fo_br (fo_some fr_refl) (fo_br (fo_some fr_refl) (fo_some fr_refl))))
set_option maxRecDepth 100000 in
theorem fr_X5_listenerNamed_L3 (z1 : Int64) (z3 : Nat) : ∀ (n : Nat) (u4 : Int32) (w : Mm), FrO [] (fun r => r.2.2) (f_X5_listenerNamed_L3 z1 z3 n u4 w) w := by
  intro n
  induction n with
  | zero => intro u4 w; exact fo_none
  | succ n ih =>
    intro u4 w
    rw [f_X5_listenerNamed_L3]
    exact (fo_br (fo_some fr_refl) (fo_br (fo_br (fo_br (fo_sqv (fun x1 => (ih x1 w))) (fo_gd (fo_br (fo_some fr_refl) (fo_sqv (fun x3 => (ih x3 w)))))) (fo_br (fo_sqv (fun x4 => (ih x4 w))) (fo_gd (fo_br (fo_some fr_refl) (fo_sqv (fun x6 => (ih x6 w))))))) (fo_br (fo_br (fo_sqv (fun x7 => (ih x7 w))) (fo_gd (fo_br (fo_some fr_refl) (fo_sqv (fun x9 => (ih x9 w)))))) (fo_br (fo_sqv (fun x10 => (ih x10 w))) (fo_gd (fo_br (fo_some fr_refl) (fo_sqv (fun x12 => (ih x12 w)))))))))
set_option maxRecDepth 100000 in
theorem fr_X5_listenerNamed (a1 : Int64) (a3 : Nat) (w : Mm) : FrO [] Prod.snd (f_X5_listenerNamed a1 a3 w) w := by
  unfold f_X5_listenerNamed
  exact (fo_bd2 (fo_mono (fr_X5_listenerNamed_L3 _ _ _ _ _) (by decide)) (fun t15 y13 w14 => (fo_br (fo_some fr_refl) (fo_some fr_refl))))
set_option maxRecDepth 100000 in
theorem fr_X5_errorOfNewName (a1 : Int64) (a3 : Nat) (a4 : Nat) (w : Mm) : FrO [10] Prod.snd (f_X5_errorOfNewName a1 a3 a4 w) w := by
  unfold f_X5_errorOfNewName
  exact (fo_bd1 (fo_mono (fr_X5_listenerNamed _ _ _) (by decide)) (fun r1 w2 => (fo_br (fo_br (fo_sqv (fun x14 => (fo_br (fo_br (fo_br (fo_some fr_refl) (fo_br (fo_some fr_refl) (fo_br (fo_gd (fo_sqm (fr_pL (by decide)) (fun w24 => (fo_some fr_refl)))) (fo_some fr_refl)))) (fo_sqv (fun x20 => (fo_br (fo_some fr_refl) (fo_br (fo_some fr_refl) (fo_br (fo_gd (fo_sqm (fr_pL (by decide)) (fun w22 => (fo_some fr_refl)))) (fo_some fr_refl))))))) (fo_br (fo_br (fo_some fr_refl) (fo_br (fo_some fr_refl) (fo_br (fo_gd (fo_sqm (fr_pL (by decide)) (fun w19 => (fo_some fr_refl)))) (fo_some fr_refl)))) (fo_sqv (fun x15 => (fo_br (fo_some fr_refl) (fo_br (fo_some fr_refl) (fo_br (fo_gd (fo_sqm (fr_pL (by decide)) (fun w17 => (fo_some fr_refl)))) (fo_some fr_refl)))))))))) (fo_sqv (fun x3 => (fo_br (fo_br (fo_br (fo_some fr_refl) (fo_br (fo_some fr_refl) (fo_br (fo_gd (fo_sqm (fr_pL (by decide)) (fun w13 => (fo_some fr_refl)))) (fo_some fr_refl)))) (fo_sqv (fun x9 => (fo_br (fo_some fr_refl) (fo_br (fo_some fr_refl) (fo_br (fo_gd (fo_sqm (fr_pL (by decide)) (fun w11 => (fo_some fr_refl)))) (fo_some fr_refl))))))) (fo_br (fo_br (fo_some fr_refl) (fo_br (fo_some fr_refl) (fo_br (fo_gd (fo_sqm (fr_pL (by decide)) (fun w8 => (fo_some fr_refl)))) (fo_some fr_refl)))) (fo_sqv (fun x4 => (fo_br (fo_some fr_refl) (fo_br (fo_some fr_refl) (fo_br (fo_gd (fo_sqm (fr_pL (by decide)) (fun w6 => (fo_some fr_refl)))) (fo_some fr_refl))))))))))) (fo_some fr_refl))))
set_option maxRecDepth 100000 in
theorem fr_X8_addHedge (a0 : Nat) (a1 : Int32) (w : Mm) : FrO [25, 26] id (f_X8_addHedge a0 a1 w) w := by
  unfold f_X8_addHedge
  exact (fo_br (fo_some fr_refl) (fo_br (fo_some fr_refl) (fo_gd (fo_sqm (fr_pI (by decide)) (fun w2 => (fo_sqm (fr_pI (by decide)) (fun w3 => (fo_some fr_refl))))))))
set_option maxRecDepth 100000 in
theorem fr_X8_addRose (a0 : Nat) (a1 : Int32) (w : Mm) : FrO [25, 27] id (f_X8_addRose a0 a1 w) w := by
  unfold f_X8_addRose
  exact (fo_br (fo_some fr_refl) (fo_br (fo_some fr_refl) (fo_gd (fo_sqm (fr_pI (by decide)) (fun w2 => (fo_sqm (fr_pI (by decide)) (fun w3 => (fo_some fr_refl))))))))
set_option maxRecDepth 100000 in
theorem fr_X5_errorOfNumber (a1 : Int32) (a2 : Nat) (a3 : Nat) (w : Mm) : FrO [25, 26, 27] Prod.snd (f_X5_errorOfNumber a1 a2 a3 w) w := by
  unfold f_X5_errorOfNumber
  exact (fo_br (fo_br (fo_some fr_refl) (fo_br (fo_br (fo_bd0 (fo_mono (fr_X8_addHedge _ _ _) (by decide)) (fun w2 => (fo_some fr_refl))) (fo_bd0 (fo_mono (fr_X8_addRose _ _ _) (by decide)) (fun w1 => (fo_some fr_refl)))) (fo_some fr_refl))) (fo_br (fo_br (fo_some fr_refl) (fo_br (fo_br (fo_bd0 (fo_mono (fr_X8_addHedge _ _ _) (by decide)) (fun w4 => (fo_some fr_refl))) (fo_bd0 (fo_mono (fr_X8_addRose _ _ _) (by decide)) (fun w3 => (fo_some fr_refl)))) (fo_some fr_refl))) (fo_some fr_refl)))
set_option maxRecDepth 100000 in
theorem fr_X11_has (a1 : Int32) (w : Mm) : FrO [] Prod.snd (f_X11_has a1 w) w := by
  unfold f_X11_has
  exact (fo_br (fo_some fr_refl) (fo_br (fo_some fr_refl) (fo_br (fo_some fr_refl) (fo_some fr_refl))))
set_option maxRecDepth 100000 in
theorem fr_X11_key (a1 : Int32) (w : Mm) : FrO [] Prod.snd (f_X11_key a1 w) w := by
  unfold f_X11_key
  exact (fo_bd1 (fo_mono (fr_X11_has _ _) (by decide)) (fun r1 w2 => (fo_br (fo_some fr_refl) (fo_gd (fo_some fr_refl)))))
set_option maxRecDepth 100000 in
theorem fr_X11_kind (a1 : Int32) (w : Mm) : FrO [] Prod.snd (f_X11_kind a1 w) w := by
  unfold f_X11_kind
  exact (fo_bd1 (fo_mono (fr_X11_has _ _) (by decide)) (fun r1 w2 => (fo_br (fo_some fr_refl) (fo_gd (fo_some fr_refl)))))
set_option maxRecDepth 100000 in
theorem fr_X11_mean (a1 : Int32) (a2 : Int32) (w : Mm) : FrO [8] id (f_X11_mean a1 a2 w) w := by
  unfold f_X11_mean
  exact (fo_bd1 (fo_mono (fr_X11_has _ _) (by decide)) (fun r1 w2 => (fo_br (fo_some fr_refl) (fo_gd (fo_sqm (fr_pI (by decide)) (fun w4 => (fo_some fr_refl)))))))
set_option maxRecDepth 100000 in
theorem fr_X5_errorOfOldName (a2 : Int32) (a3 : Nat) (w : Mm) : FrO [8] Prod.snd (f_X5_errorOfOldName a2 a3 w) w := by
  unfold f_X5_errorOfOldName
  exact (fo_bd1 (fo_mono (fr_X11_key _ _) (by decide)) (fun r1 w2 => (fo_bd1 (fo_mono (fr_X5_listenerNamed _ _ _) (by decide)) (fun r3 w4 => (fo_bd1 (fo_mono (fr_X11_kind _ _) (by decide)) (fun r5 w6 => (fo_br (fo_br (fo_bd1 (fo_mono (fr_X11_kind _ _) (by decide)) (fun r11 w12 => (fo_br (fo_br (fo_br (fo_some fr_refl) (fo_br (fo_br (fo_bd0 (fo_mono (fr_X11_mean _ _ _) (by decide)) (fun w18 => (fo_some fr_refl))) (fo_some fr_refl)) (fo_bd0 (fo_mono (fr_X11_mean _ _ _) (by decide)) (fun w17 => (fo_some fr_refl))))) (fo_br (fo_some fr_refl) (fo_br (fo_br (fo_bd0 (fo_mono (fr_X11_mean _ _ _) (by decide)) (fun w20 => (fo_some fr_refl))) (fo_some fr_refl)) (fo_bd0 (fo_mono (fr_X11_mean _ _ _) (by decide)) (fun w19 => (fo_some fr_refl)))))) (fo_br (fo_br (fo_some fr_refl) (fo_br (fo_br (fo_bd0 (fo_mono (fr_X11_mean _ _ _) (by decide)) (fun w14 => (fo_some fr_refl))) (fo_some fr_refl)) (fo_bd0 (fo_mono (fr_X11_mean _ _ _) (by decide)) (fun w13 => (fo_some fr_refl))))) (fo_br (fo_some fr_refl) (fo_br (fo_br (fo_bd0 (fo_mono (fr_X11_mean _ _ _) (by decide)) (fun w16 => (fo_some fr_refl))) (fo_some fr_refl)) (fo_bd0 (fo_mono (fr_X11_mean _ _ _) (by decide)) (fun w15 => (fo_some fr_refl))))))))) (fo_br (fo_br (fo_some fr_refl) (fo_br (fo_br (fo_bd0 (fo_mono (fr_X11_mean _ _ _) (by decide)) (fun w8 => (fo_some fr_refl))) (fo_some fr_refl)) (fo_bd0 (fo_mono (fr_X11_mean _ _ _) (by decide)) (fun w7 => (fo_some fr_refl))))) (fo_br (fo_some fr_refl) (fo_br (fo_br (fo_bd0 (fo_mono (fr_X11_mean _ _ _) (by decide)) (fun w10 => (fo_some fr_refl))) (fo_some fr_refl)) (fo_bd0 (fo_mono (fr_X11_mean _ _ _) (by decide)) (fun w9 => (fo_some fr_refl))))))) (fo_br (fo_br (fo_bd1 (fo_mono (fr_X11_kind _ _) (by decide)) (fun r25 w26 => (fo_br (fo_br (fo_br (fo_some fr_refl) (fo_br (fo_br (fo_bd0 (fo_mono (fr_X11_mean _ _ _) (by decide)) (fun w32 => (fo_some fr_refl))) (fo_some fr_refl)) (fo_bd0 (fo_mono (fr_X11_mean _ _ _) (by decide)) (fun w31 => (fo_some fr_refl))))) (fo_br (fo_some fr_refl) (fo_br (fo_br (fo_bd0 (fo_mono (fr_X11_mean _ _ _) (by decide)) (fun w34 => (fo_some fr_refl))) (fo_some fr_refl)) (fo_bd0 (fo_mono (fr_X11_mean _ _ _) (by decide)) (fun w33 => (fo_some fr_refl)))))) (fo_br (fo_br (fo_some fr_refl) (fo_br (fo_br (fo_bd0 (fo_mono (fr_X11_mean _ _ _) (by decide)) (fun w28 => (fo_some fr_refl))) (fo_some fr_refl)) (fo_bd0 (fo_mono (fr_X11_mean _ _ _) (by decide)) (fun w27 => (fo_some fr_refl))))) (fo_br (fo_some fr_refl) (fo_br (fo_br (fo_bd0 (fo_mono (fr_X11_mean _ _ _) (by decide)) (fun w30 => (fo_some fr_refl))) (fo_some fr_refl)) (fo_bd0 (fo_mono (fr_X11_mean _ _ _) (by decide)) (fun w29 => (fo_some fr_refl))))))))) (fo_br (fo_br (fo_some fr_refl) (fo_br (fo_br (fo_bd0 (fo_mono (fr_X11_mean _ _ _) (by decide)) (fun w22 => (fo_some fr_refl))) (fo_some fr_refl)) (fo_bd0 (fo_mono (fr_X11_mean _ _ _) (by decide)) (fun w21 => (fo_some fr_refl))))) (fo_br (fo_some fr_refl) (fo_br (fo_br (fo_bd0 (fo_mono (fr_X11_mean _ _ _) (by decide)) (fun w24 => (fo_some fr_refl))) (fo_some fr_refl)) (fo_bd0 (fo_mono (fr_X11_mean _ _ _) (by decide)) (fun w23 => (fo_some fr_refl))))))) (fo_br (fo_br (fo_bd1 (fo_mono (fr_X11_kind _ _) (by decide)) (fun r53 w54 => (fo_br (fo_br (fo_br (fo_some fr_refl) (fo_br (fo_br (fo_bd0 (fo_mono (fr_X11_mean _ _ _) (by decide)) (fun w60 => (fo_some fr_refl))) (fo_some fr_refl)) (fo_bd0 (fo_mono (fr_X11_mean _ _ _) (by decide)) (fun w59 => (fo_some fr_refl))))) (fo_br (fo_some fr_refl) (fo_br (fo_br (fo_bd0 (fo_mono (fr_X11_mean _ _ _) (by decide)) (fun w62 => (fo_some fr_refl))) (fo_some fr_refl)) (fo_bd0 (fo_mono (fr_X11_mean _ _ _) (by decide)) (fun w61 => (fo_some fr_refl)))))) (fo_br (fo_br (fo_some fr_refl) (fo_br (fo_br (fo_bd0 (fo_mono (fr_X11_mean _ _ _) (by decide)) (fun w56 => (fo_some fr_refl))) (fo_some fr_refl)) (fo_bd0 (fo_mono (fr_X11_mean _ _ _) (by decide)) (fun w55 => (fo_some fr_refl))))) (fo_br (fo_some fr_refl) (fo_br (fo_br (fo_bd0 (fo_mono (fr_X11_mean _ _ _) (by decide)) (fun w58 => (fo_some fr_refl))) (fo_some fr_refl)) (fo_bd0 (fo_mono (fr_X11_mean _ _ _) (by decide)) (fun w57 => (fo_some fr_refl))))))))) (fo_br (fo_br (fo_some fr_refl) (fo_br (fo_br (fo_bd0 (fo_mono (fr_X11_mean _ _ _) (by decide)) (fun w50 => (fo_some fr_refl))) (fo_some fr_refl)) (fo_bd0 (fo_mono (fr_X11_mean _ _ _) (by decide)) (fun w49 => (fo_some fr_refl))))) (fo_br (fo_some fr_refl) (fo_br (fo_br (fo_bd0 (fo_mono (fr_X11_mean _ _ _) (by decide)) (fun w52 => (fo_some fr_refl))) (fo_some fr_refl)) (fo_bd0 (fo_mono (fr_X11_mean _ _ _) (by decide)) (fun w51 => (fo_some fr_refl))))))) (fo_br (fo_bd1 (fo_mono (fr_X11_kind _ _) (by decide)) (fun r39 w40 => (fo_br (fo_br (fo_br (fo_some fr_refl) (fo_br (fo_br (fo_bd0 (fo_mono (fr_X11_mean _ _ _) (by decide)) (fun w46 => (fo_some fr_refl))) (fo_some fr_refl)) (fo_bd0 (fo_mono (fr_X11_mean _ _ _) (by decide)) (fun w45 => (fo_some fr_refl))))) (fo_br (fo_some fr_refl) (fo_br (fo_br (fo_bd0 (fo_mono (fr_X11_mean _ _ _) (by decide)) (fun w48 => (fo_some fr_refl))) (fo_some fr_refl)) (fo_bd0 (fo_mono (fr_X11_mean _ _ _) (by decide)) (fun w47 => (fo_some fr_refl)))))) (fo_br (fo_br (fo_some fr_refl) (fo_br (fo_br (fo_bd0 (fo_mono (fr_X11_mean _ _ _) (by decide)) (fun w42 => (fo_some fr_refl))) (fo_some fr_refl)) (fo_bd0 (fo_mono (fr_X11_mean _ _ _) (by decide)) (fun w41 => (fo_some fr_refl))))) (fo_br (fo_some fr_refl) (fo_br (fo_br (fo_bd0 (fo_mono (fr_X11_mean _ _ _) (by decide)) (fun w44 => (fo_some fr_refl))) (fo_some fr_refl)) (fo_bd0 (fo_mono (fr_X11_mean _ _ _) (by decide)) (fun w43 => (fo_some fr_refl))))))))) (fo_br (fo_br (fo_some fr_refl) (fo_br (fo_br (fo_bd0 (fo_mono (fr_X11_mean _ _ _) (by decide)) (fun w36 => (fo_some fr_refl))) (fo_some fr_refl)) (fo_bd0 (fo_mono (fr_X11_mean _ _ _) (by decide)) (fun w35 => (fo_some fr_refl))))) (fo_br (fo_some fr_refl) (fo_br (fo_br (fo_bd0 (fo_mono (fr_X11_mean _ _ _) (by decide)) (fun w38 => (fo_some fr_refl))) (fo_some fr_refl)) (fo_bd0 (fo_mono (fr_X11_mean _ _ _) (by decide)) (fun w37 => (fo_some fr_refl))))))))))))))))
set_option maxRecDepth 100000 in
theorem fr_X11_meaning (a1 : Int32) (w : Mm) : FrO [] Prod.snd (f_X11_meaning a1 w) w := by
  unfold f_X11_meaning
  exact (fo_bd1 (fo_mono (fr_X11_has _ _) (by decide)) (fun r1 w2 => (fo_br (fo_some fr_refl) (fo_gd (fo_some fr_refl)))))
set_option maxRecDepth 100000 in
theorem fr_X5_errorOf (a2 : Int32) (a3 : Nat) (w : Mm) : FrO [8, 9, 10, 25, 26, 27] Prod.snd (f_X5_errorOf a2 a3 w) w := by
  unfold f_X5_errorOf
  exact (fo_bd1 (fo_mono (fr_X11_kind _ _) (by decide)) (fun r1 w2 => (fo_bd1 (fo_mono (fr_X11_kind _ _) (by decide)) (fun r3 w4 => (fo_gd (fo_bd1 (fo_mono (fr_X4_isOrder _ _) (by decide)) (fun r6 w7 => (fo_br (fo_br (fo_bd1 (fo_mono (fr_X11_meaning _ _) (by decide)) (fun r18 w19 => (fo_bd1 (fo_mono (fr_X5_errorOfNumber _ _ _ _) (by decide)) (fun r20 w21 => (fo_some fr_refl))))) (fo_br (fo_br (fo_bd1 (fo_mono (fr_X11_key _ _) (by decide)) (fun r8 w9 => (fo_bd1 (fo_mono (fr_X5_errorOfNewName _ _ _ _) (by decide)) (fun r10 w11 => (fo_some fr_refl))))) (fo_br (fo_bd1 (fo_mono (fr_X11_key _ _) (by decide)) (fun r14 w15 => (fo_bd1 (fo_mono (fr_X5_errorOfNewName _ _ _ _) (by decide)) (fun r16 w17 => (fo_some fr_refl))))) (fo_bd1 (fo_mono (fr_X5_errorOfOldName _ _ _) (by decide)) (fun r12 w13 => (fo_some fr_refl))))) (fo_some fr_refl))) (fo_sqm (fr_pI (by decide)) (fun w22 => (fo_br (fo_some fr_refl) (fo_some fr_refl))))))))))))
set_option maxRecDepth 100000 in
theorem fr_X5_check_L7 (z2 : Nat) : ∀ (n : Nat) (u3 : Int32) (w : Mm), FrO [8, 9, 10, 25, 26, 27] (fun r => r.2.2.2) (f_X5_check_L7 z2 n u3 w) w := by
  intro n
  induction n with
  | zero => intro u3 w; exact fo_none
  | succ n ih =>
    intro u3 w
    rw [f_X5_check_L7]
    exact (fo_br (fo_some fr_refl) (fo_bd1 (fo_mono (fr_X11_kind _ _) (by decide)) (fun r2 w3 => (fo_br (fo_some fr_refl) (fo_bd1 (fo_mono (fr_X5_errorOf _ _ _) (by decide)) (fun r4 w5 => (fo_br (fo_sqv (fun x6 => (ih x6 w5))) (fo_some fr_refl))))))))
set_option maxRecDepth 100000 in
theorem fr_X5_check (a2 : Nat) (w : Mm) : FrO [8, 9, 10, 25, 26, 27] Prod.snd (f_X5_check a2 w) w := by
  unfold f_X5_check
  exact (fo_sqm (fr_pI (by decide)) (fun w1 => (fo_bd3 (fo_mono (fr_X5_check_L7 _ _ _ _) (by decide)) (fun t10 y7 y8 w9 => (fo_br (fo_sqm (fr_pI (by decide)) (fun w11 => (fo_some fr_refl))) (fo_some fr_refl))))))
set_option maxRecDepth 100000 in
theorem fr_X7_take (a1 : Nat) (w : Mm) : FrO [31] Prod.snd (f_X7_take a1 w) w := by
  unfold f_X7_take
  exact (fo_br (fo_br (fo_some fr_refl) (fo_br (fo_sqm (fr_pI (by decide)) (fun w1 => (fo_gd (fo_sqm (fr_pR (by decide)) (fun w3 => (fo_some fr_refl)))))) (fo_some fr_refl))) (fo_some fr_refl))
set_option maxRecDepth 100000 in
theorem fr_X8_add (a0 : Nat) (a1 : Nat) (a2 : Int32) (a3 : Int32) (w : Mm) : FrO [25, 28, 29, 30] Prod.snd (f_X8_add a0 a1 a2 a3 w) w := by
  unfold f_X8_add
  exact (fo_br (fo_some fr_refl) (fo_br (fo_gd (fo_gd (fo_sqm (fr_pR (by decide)) (fun w2 => (fo_gd (fo_sqm (fr_pI (by decide)) (fun w4 => (fo_gd (fo_sqm (fr_pI (by decide)) (fun w6 => (fo_sqm (fr_pI (by decide)) (fun w7 => (fo_some fr_refl))))))))))))) (fo_some fr_refl)))
set_option maxRecDepth 100000 in
theorem fr_X4_isComparison (a0 : Nat) (w : Mm) : FrO [] Prod.snd (f_X4_isComparison a0 w) w := by
  unfold f_X4_isComparison
  exact (fo_br (fo_some fr_refl) (fo_br (fo_some fr_refl) (fo_br (fo_some fr_refl) (fo_br (fo_some fr_refl) (fo_br (fo_some fr_refl) (fo_some fr_refl))))))
set_option maxRecDepth 100000 in
theorem fr_X4_addsUp (a0 : Nat) (w : Mm) : FrO [] Prod.snd (f_X4_addsUp a0 w) w := by
  unfold f_X4_addsUp
  exact (fo_br (fo_some fr_refl) (fo_br (fo_some fr_refl) (fo_some fr_refl)))
set_option maxRecDepth 100000 in
theorem fr_X4_multiplies (a0 : Nat) (w : Mm) : FrO [] Prod.snd (f_X4_multiplies a0 w) w := by
  unfold f_X4_multiplies
  exact (fo_br (fo_some fr_refl) (fo_br (fo_some fr_refl) (fo_some fr_refl)))
set_option maxRecDepth 100000 in
theorem fr_X7_test_L11 (rec : Nat → Int32 → Int32 → Mm → Option (Int32 × Mm)) (hrec : ∀ (t : Nat) (a b : Int32) (w : Mm), FrO [25, 28, 29, 30, 31] Prod.snd (rec t a b w) w)  (z1 : Int32) : ∀ (n : Nat) (u4 : Int32) (u3 : Int32) (u2 : Int32) (w : Mm), FrO [25, 28, 29, 30, 31] (fun r => r.2.2) (f_X7_test_L11 rec z1 n u4 u3 u2 w) w := by
  intro n
  induction n with
  | zero => intro u4 u3 u2 w; exact fo_none
  | succ n ih =>
    intro u4 u3 u2 w
    rw [f_X7_test_L11]
    exact (fo_br (fo_some fr_refl) (fo_br (fo_some fr_refl) (fo_br (fo_br (fo_bd1 (fo_mono (fr_X7_take _ _) (by decide)) (fun r22 w23 => (fo_br (fo_sqv (fun x24 => (ih x24 0 u2 w23))) (fo_bd1 (fo_mono (hrec _ _ _ _) (fun _ h => h)) (fun r25 w26 => (fo_br (fo_sqv (fun x27 => (ih x27 0 u2 w26))) (fo_gd (fo_sqv (fun p29 => (fo_bd1 (fo_mono (fr_X8_add _ _ _ _ _) (by decide)) (fun r30 w31 => (fo_br (fo_sqv (fun x32 => (ih x32 0 u2 w31))) (fo_sqv (fun x33 => (ih x33 1 u2 w31))))))))))))))) (fo_br (fo_bd1 (fo_mono (fr_X7_take _ _) (by decide)) (fun r3 w4 => (fo_br (fo_sqv (fun x5 => (ih x5 0 1 w4))) (fo_bd1 (fo_mono (hrec _ _ _ _) (fun _ h => h)) (fun r6 w7 => (fo_br (fo_sqv (fun x8 => (ih x8 0 1 w7))) (fo_sqv (fun x9 => (ih x9 1 1 w7))))))))) (fo_gd (fo_sqv (fun p11 => (fo_bd1 (fo_mono (fr_X8_add _ _ _ _ _) (by decide)) (fun r12 w13 => (fo_br (fo_sqv (fun x14 => (ih x14 0 1 w13))) (fo_bd1 (fo_mono (fr_X7_take _ _) (by decide)) (fun r15 w16 => (fo_br (fo_sqv (fun x17 => (ih x17 0 1 w16))) (fo_bd1 (fo_mono (hrec _ _ _ _) (fun _ h => h)) (fun r18 w19 => (fo_br (fo_sqv (fun x20 => (ih x20 0 1 w19))) (fo_sqv (fun x21 => (ih x21 1 1 w19))))))))))))))))) (fo_br (fo_br (fo_bd1 (fo_mono (fr_X7_take _ _) (by decide)) (fun r53 w54 => (fo_br (fo_sqv (fun x55 => (ih x55 0 u2 w54))) (fo_bd1 (fo_mono (hrec _ _ _ _) (fun _ h => h)) (fun r56 w57 => (fo_br (fo_sqv (fun x58 => (ih x58 0 u2 w57))) (fo_gd (fo_sqv (fun p60 => (fo_bd1 (fo_mono (fr_X8_add _ _ _ _ _) (by decide)) (fun r61 w62 => (fo_br (fo_sqv (fun x63 => (ih x63 0 u2 w62))) (fo_sqv (fun x64 => (ih x64 1 u2 w62))))))))))))))) (fo_br (fo_bd1 (fo_mono (fr_X7_take _ _) (by decide)) (fun r34 w35 => (fo_br (fo_sqv (fun x36 => (ih x36 0 1 w35))) (fo_bd1 (fo_mono (hrec _ _ _ _) (fun _ h => h)) (fun r37 w38 => (fo_br (fo_sqv (fun x39 => (ih x39 0 1 w38))) (fo_sqv (fun x40 => (ih x40 1 1 w38))))))))) (fo_gd (fo_sqv (fun p42 => (fo_bd1 (fo_mono (fr_X8_add _ _ _ _ _) (by decide)) (fun r43 w44 => (fo_br (fo_sqv (fun x45 => (ih x45 0 1 w44))) (fo_bd1 (fo_mono (fr_X7_take _ _) (by decide)) (fun r46 w47 => (fo_br (fo_sqv (fun x48 => (ih x48 0 1 w47))) (fo_bd1 (fo_mono (hrec _ _ _ _) (fun _ h => h)) (fun r49 w50 => (fo_br (fo_sqv (fun x51 => (ih x51 0 1 w50))) (fo_sqv (fun x52 => (ih x52 1 1 w50))))))))))))))))) (fo_some fr_refl)))))
set_option maxRecDepth 100000 in
theorem fr_X7_test (rec : Nat → Int32 → Int32 → Mm → Option (Int32 × Mm)) (hrec : ∀ (t : Nat) (a b : Int32) (w : Mm), FrO [25, 28, 29, 30, 31] Prod.snd (rec t a b w) w)  (a1 : Int32) (w : Mm) : FrO [25, 28, 29, 30, 31] Prod.snd (f_X7_test rec a1 w) w := by
  unfold f_X7_test
  exact (fo_bd1 (fo_mono (hrec _ _ _ _) (fun _ h => h)) (fun r1 w2 => (fo_bd2 (fo_mono (fr_X7_test_L11 _ hrec _ _ _ _ _ _) (by decide)) (fun y65 y66 w67 => (fo_br (fo_some fr_refl) (fo_br (fo_some fr_refl) (fo_gd (fo_sqv (fun p69 => (fo_bd1 (fo_mono (fr_X8_add _ _ _ _ _) (by decide)) (fun r70 w71 => (fo_br (fo_some fr_refl) (fo_some fr_refl)))))))))))))
set_option maxRecDepth 100000 in
theorem fr_X7_single (rec : Nat → Int32 → Int32 → Mm → Option (Int32 × Mm)) (hrec : ∀ (t : Nat) (a b : Int32) (w : Mm), FrO [25, 28, 29, 30, 31] Prod.snd (rec t a b w) w)  (a1 : Int32) (w : Mm) : FrO [25, 28, 29, 30, 31] Prod.snd (f_X7_single rec a1 w) w := by
  unfold f_X7_single
  exact (fo_sqv (fun x1 => (fo_gd (fo_br (fo_br (fo_some fr_refl) (fo_bd1 (fo_mono (fr_X7_take _ _) (by decide)) (fun r3 w4 => (fo_br (fo_some fr_refl) (fo_bd1 (fo_mono (hrec _ _ _ _) (fun _ h => h)) (fun r5 w6 => (fo_br (fo_some fr_refl) (fo_gd (fo_sqv (fun p8 => (fo_bd1 (fo_mono (fr_X8_add _ _ _ _ _) (by decide)) (fun r9 w10 => (fo_br (fo_some fr_refl) (fo_some fr_refl)))))))))))))) (fo_br (fo_br (fo_some fr_refl) (fo_bd1 (fo_mono (fr_X7_take _ _) (by decide)) (fun r11 w12 => (fo_br (fo_some fr_refl) (fo_bd1 (fo_mono (hrec _ _ _ _) (fun _ h => h)) (fun r13 w14 => (fo_br (fo_some fr_refl) (fo_bd1 (fo_mono (fr_X7_take _ _) (by decide)) (fun r15 w16 => (fo_br (fo_some fr_refl) (fo_some fr_refl))))))))))) (fo_br (fo_bd1 (fo_mono (fr_X7_take _ _) (by decide)) (fun r17 w18 => (fo_br (fo_some fr_refl) (fo_bd1 (fo_mono (fr_X7_take _ _) (by decide)) (fun r19 w20 => (fo_br (fo_some fr_refl) (fo_bd1 (fo_mono (fr_X7_take _ _) (by decide)) (fun r21 w22 => (fo_br (fo_some fr_refl) (fo_bd1 (fo_mono (fr_X7_take _ _) (by decide)) (fun r23 w24 => (fo_br (fo_some fr_refl) (fo_gd (fo_sqv (fun p26 => (fo_bd1 (fo_mono (fr_X8_add _ _ _ _ _) (by decide)) (fun r27 w28 => (fo_br (fo_some fr_refl) (fo_some fr_refl))))))))))))))))))) (fo_bd1 (fo_mono (hrec _ _ _ _) (fun _ h => h)) (fun r29 w30 => (fo_br (fo_some fr_refl) (fo_gd (fo_bd1 (fo_mono (fr_X4_isComparison _ _) (by decide)) (fun r32 w33 => (fo_br (fo_some fr_refl) (fo_bd1 (fo_mono (fr_X7_take _ _) (by decide)) (fun r34 w35 => (fo_br (fo_some fr_refl) (fo_bd1 (fo_mono (hrec _ _ _ _) (fun _ h => h)) (fun r36 w37 => (fo_br (fo_some fr_refl) (fo_gd (fo_sqv (fun p39 => (fo_bd1 (fo_mono (fr_X8_add _ _ _ _ _) (by decide)) (fun r40 w41 => (fo_br (fo_some fr_refl) (fo_some fr_refl))))))))))))))))))))))))))
set_option maxRecDepth 100000 in
theorem fr_X7_sum_L13 (rec : Nat → Int32 → Int32 → Mm → Option (Int32 × Mm)) (hrec : ∀ (t : Nat) (a b : Int32) (w : Mm), FrO [25, 28, 29, 30, 31] Prod.snd (rec t a b w) w)  (z1 : Int32) : ∀ (n : Nat) (u4 : Int32) (u3 : Int32) (u2 : Nat) (w : Mm), FrO [25, 28, 29, 30, 31] (fun r => r.2.2) (f_X7_sum_L13 rec z1 n u4 u3 u2 w) w := by
  intro n
  induction n with
  | zero => intro u4 u3 u2 w; exact fo_none
  | succ n ih =>
    intro u4 u3 u2 w
    rw [f_X7_sum_L13]
    exact (fo_br (fo_some fr_refl) (fo_br (fo_some fr_refl) (fo_gd (fo_bd1 (fo_mono (fr_X4_addsUp _ _) (by decide)) (fun r4 w5 => (fo_br (fo_gd (fo_bd1 (fo_mono (fr_X4_multiplies _ _) (by decide)) (fun r41 w42 => (fo_br (fo_some fr_refl) (fo_gd (fo_bd1 (fo_mono (fr_X4_multiplies _ _) (by decide)) (fun r44 w45 => (fo_br (fo_br (fo_bd1 (fo_mono (fr_X7_take _ _) (by decide)) (fun r46 w47 => (fo_br (fo_sqv (fun x48 => (ih x48 0 (gR w42 31 0 3) w47))) (fo_bd1 (fo_mono (hrec _ _ _ _) (fun _ h => h)) (fun r49 w50 => (fo_br (fo_sqv (fun x51 => (ih x51 0 (gR w42 31 0 3) w50))) (fo_sqv (fun x52 => (ih x52 1 (gR w42 31 0 3) w50))))))))) (fo_gd (fo_sqv (fun p54 => (fo_bd1 (fo_mono (fr_X8_add _ _ _ _ _) (by decide)) (fun r55 w56 => (fo_br (fo_sqv (fun x57 => (ih x57 0 (gR w42 31 0 3) w56))) (fo_bd1 (fo_mono (fr_X7_take _ _) (by decide)) (fun r58 w59 => (fo_br (fo_sqv (fun x60 => (ih x60 0 (gR w42 31 0 3) w59))) (fo_bd1 (fo_mono (hrec _ _ _ _) (fun _ h => h)) (fun r61 w62 => (fo_br (fo_sqv (fun x63 => (ih x63 0 (gR w42 31 0 3) w62))) (fo_sqv (fun x64 => (ih x64 1 (gR w42 31 0 3) w62)))))))))))))))) (fo_bd1 (fo_mono (fr_X7_take _ _) (by decide)) (fun r65 w66 => (fo_br (fo_sqv (fun x67 => (ih x67 0 u2 w66))) (fo_bd1 (fo_mono (hrec _ _ _ _) (fun _ h => h)) (fun r68 w69 => (fo_br (fo_sqv (fun x70 => (ih x70 0 u2 w69))) (fo_gd (fo_sqv (fun p72 => (fo_bd1 (fo_mono (fr_X8_add _ _ _ _ _) (by decide)) (fun r73 w74 => (fo_br (fo_sqv (fun x75 => (ih x75 0 u2 w74))) (fo_sqv (fun x76 => (ih x76 1 u2 w74))))))))))))))))))))))) (fo_gd (fo_bd1 (fo_mono (fr_X4_multiplies _ _) (by decide)) (fun r7 w8 => (fo_br (fo_br (fo_bd1 (fo_mono (fr_X7_take _ _) (by decide)) (fun r9 w10 => (fo_br (fo_sqv (fun x11 => (ih x11 0 (gR w5 31 0 3) w10))) (fo_bd1 (fo_mono (hrec _ _ _ _) (fun _ h => h)) (fun r12 w13 => (fo_br (fo_sqv (fun x14 => (ih x14 0 (gR w5 31 0 3) w13))) (fo_sqv (fun x15 => (ih x15 1 (gR w5 31 0 3) w13))))))))) (fo_gd (fo_sqv (fun p17 => (fo_bd1 (fo_mono (fr_X8_add _ _ _ _ _) (by decide)) (fun r18 w19 => (fo_br (fo_sqv (fun x20 => (ih x20 0 (gR w5 31 0 3) w19))) (fo_bd1 (fo_mono (fr_X7_take _ _) (by decide)) (fun r21 w22 => (fo_br (fo_sqv (fun x23 => (ih x23 0 (gR w5 31 0 3) w22))) (fo_bd1 (fo_mono (hrec _ _ _ _) (fun _ h => h)) (fun r24 w25 => (fo_br (fo_sqv (fun x26 => (ih x26 0 (gR w5 31 0 3) w25))) (fo_sqv (fun x27 => (ih x27 1 (gR w5 31 0 3) w25)))))))))))))))) (fo_bd1 (fo_mono (fr_X7_take _ _) (by decide)) (fun r28 w29 => (fo_br (fo_sqv (fun x30 => (ih x30 0 u2 w29))) (fo_bd1 (fo_mono (hrec _ _ _ _) (fun _ h => h)) (fun r31 w32 => (fo_br (fo_sqv (fun x33 => (ih x33 0 u2 w32))) (fo_gd (fo_sqv (fun p35 => (fo_bd1 (fo_mono (fr_X8_add _ _ _ _ _) (by decide)) (fun r36 w37 => (fo_br (fo_sqv (fun x38 => (ih x38 0 u2 w37))) (fo_sqv (fun x39 => (ih x39 1 u2 w37)))))))))))))))))))))))))
set_option maxRecDepth 100000 in
theorem fr_X7_sum (rec : Nat → Int32 → Int32 → Mm → Option (Int32 × Mm)) (hrec : ∀ (t : Nat) (a b : Int32) (w : Mm), FrO [25, 28, 29, 30, 31] Prod.snd (rec t a b w) w)  (a1 : Int32) (w : Mm) : FrO [25, 28, 29, 30, 31] Prod.snd (f_X7_sum rec a1 w) w := by
  unfold f_X7_sum
  exact (fo_bd1 (fo_mono (hrec _ _ _ _) (fun _ h => h)) (fun r1 w2 => (fo_bd2 (fo_mono (fr_X7_sum_L13 _ hrec _ _ _ _ _ _) (by decide)) (fun y77 y78 w79 => (fo_br (fo_some fr_refl) (fo_br (fo_some fr_refl) (fo_gd (fo_sqv (fun p81 => (fo_bd1 (fo_mono (fr_X8_add _ _ _ _ _) (by decide)) (fun r82 w83 => (fo_br (fo_some fr_refl) (fo_some fr_refl)))))))))))))
set_option maxRecDepth 100000 in
theorem fr_X7_value (rec : Nat → Int32 → Int32 → Mm → Option (Int32 × Mm)) (hrec : ∀ (t : Nat) (a b : Int32) (w : Mm), FrO [25, 28, 29, 30, 31] Prod.snd (rec t a b w) w)  (a1 : Int32) (w : Mm) : FrO [25, 28, 29, 30, 31] Prod.snd (f_X7_value rec a1 w) w := by
  unfold f_X7_value
  exact (fo_sqv (fun x1 => (fo_gd (fo_br (fo_bd1 (fo_mono (fr_X7_take _ _) (by decide)) (fun r3 w4 => (fo_br (fo_some fr_refl) (fo_gd (fo_sqv (fun p6 => (fo_bd1 (fo_mono (fr_X8_add _ _ _ _ _) (by decide)) (fun r7 w8 => (fo_br (fo_some fr_refl) (fo_some fr_refl)))))))))) (fo_br (fo_bd1 (fo_mono (fr_X7_take _ _) (by decide)) (fun r9 w10 => (fo_br (fo_some fr_refl) (fo_bd1 (fo_mono (fr_X7_take _ _) (by decide)) (fun r11 w12 => (fo_br (fo_some fr_refl) (fo_bd1 (fo_mono (fr_X7_take _ _) (by decide)) (fun r13 w14 => (fo_br (fo_some fr_refl) (fo_gd (fo_sqv (fun p16 => (fo_bd1 (fo_mono (fr_X8_add _ _ _ _ _) (by decide)) (fun r17 w18 => (fo_br (fo_some fr_refl) (fo_some fr_refl)))))))))))))))) (fo_br (fo_br (fo_some fr_refl) (fo_bd1 (fo_mono (fr_X7_take _ _) (by decide)) (fun r19 w20 => (fo_br (fo_some fr_refl) (fo_bd1 (fo_mono (hrec _ _ _ _) (fun _ h => h)) (fun r21 w22 => (fo_br (fo_some fr_refl) (fo_gd (fo_sqv (fun p24 => (fo_bd1 (fo_mono (fr_X8_add _ _ _ _ _) (by decide)) (fun r25 w26 => (fo_br (fo_some fr_refl) (fo_some fr_refl)))))))))))))) (fo_br (fo_br (fo_some fr_refl) (fo_bd1 (fo_mono (fr_X7_take _ _) (by decide)) (fun r27 w28 => (fo_br (fo_some fr_refl) (fo_bd1 (fo_mono (hrec _ _ _ _) (fun _ h => h)) (fun r29 w30 => (fo_br (fo_some fr_refl) (fo_bd1 (fo_mono (fr_X7_take _ _) (by decide)) (fun r31 w32 => (fo_br (fo_some fr_refl) (fo_some fr_refl))))))))))) (fo_br (fo_bd1 (fo_mono (fr_X7_take _ _) (by decide)) (fun r33 w34 => (fo_br (fo_some fr_refl) (fo_br (fo_some fr_refl) (fo_bd1 (fo_mono (fr_X7_take _ _) (by decide)) (fun r35 w36 => (fo_br (fo_some fr_refl) (fo_bd1 (fo_mono (hrec _ _ _ _) (fun _ h => h)) (fun r37 w38 => (fo_br (fo_some fr_refl) (fo_bd1 (fo_mono (fr_X7_take _ _) (by decide)) (fun r39 w40 => (fo_br (fo_some fr_refl) (fo_bd1 (fo_mono (hrec _ _ _ _) (fun _ h => h)) (fun r41 w42 => (fo_br (fo_some fr_refl) (fo_bd1 (fo_mono (fr_X7_take _ _) (by decide)) (fun r43 w44 => (fo_br (fo_some fr_refl) (fo_gd (fo_sqv (fun p46 => (fo_bd1 (fo_mono (fr_X8_add _ _ _ _ _) (by decide)) (fun r47 w48 => (fo_br (fo_some fr_refl) (fo_some fr_refl)))))))))))))))))))))))))) (fo_some fr_refl)))))))))
theorem fr_grpC : ∀ (n t : Nat) (a b : Int32) (w : Mm), FrO [25, 28, 29, 30, 31] Prod.snd (grpC n t a b w) w := by
  intro n
  induction n with
  | zero => intro t a b w; exact fo_none
  | succ n ih =>
    intro t a b w
    rw [grpC]
    by_cases c0 : t = 0
    · rw [if_pos c0]; exact fr_X7_test _ ih _ _
    · rw [if_neg c0]
      by_cases c1 : t = 1
      · rw [if_pos c1]; exact fr_X7_single _ ih _ _
      · rw [if_neg c1]
        by_cases c2 : t = 2
        · rw [if_pos c2]; exact fr_X7_sum _ ih _ _
        · rw [if_neg c2]
          exact fr_X7_value _ ih _ _

theorem frg_X7_test (a : Int32) (w : Mm) : FrO [25, 28, 29, 30, 31] Prod.snd (g_X7_test a w) w := fr_grpC 60 0 a 0 w
theorem frg_X7_single (a : Int32) (w : Mm) : FrO [25, 28, 29, 30, 31] Prod.snd (g_X7_single a w) w := fr_grpC 60 1 a 0 w
theorem frg_X7_sum (a : Int32) (w : Mm) : FrO [25, 28, 29, 30, 31] Prod.snd (g_X7_sum a w) w := fr_grpC 60 2 a 0 w
theorem frg_X7_value (a : Int32) (w : Mm) : FrO [25, 28, 29, 30, 31] Prod.snd (g_X7_value a w) w := fr_grpC 60 3 a 0 w
set_option maxRecDepth 100000 in
theorem fr_X7_order (w : Mm) : FrO [25, 28, 29, 30, 31] Prod.snd (f_X7_order w) w := by
  unfold f_X7_order
  exact (fo_br (fo_bd1 (fo_mono (fr_X7_take _ _) (by decide)) (fun r9 w10 => (fo_br (fo_some fr_refl) (fo_bd1 (fo_mono (fr_X7_take _ _) (by decide)) (fun r11 w12 => (fo_br (fo_some fr_refl) (fo_bd1 (fo_mono (fr_X7_take _ _) (by decide)) (fun r13 w14 => (fo_br (fo_some fr_refl) (fo_bd1 (fo_mono (frg_X7_sum _ _) (by decide)) (fun r15 w16 => (fo_br (fo_some fr_refl) (fo_some fr_refl))))))))))))) (fo_bd1 (fo_mono (fr_X7_take _ _) (by decide)) (fun r1 w2 => (fo_br (fo_some fr_refl) (fo_bd1 (fo_mono (fr_X7_take _ _) (by decide)) (fun r3 w4 => (fo_br (fo_some fr_refl) (fo_bd1 (fo_mono (fr_X7_take _ _) (by decide)) (fun r5 w6 => (fo_br (fo_some fr_refl) (fo_bd1 (fo_mono (fr_X7_take _ _) (by decide)) (fun r7 w8 => (fo_br (fo_some fr_refl) (fo_some fr_refl))))))))))))))
set_option maxRecDepth 100000 in
theorem fr_X7_line (w : Mm) : FrO [25, 28, 29, 30, 31] Prod.snd (f_X7_line w) w := by
  unfold f_X7_line
  exact (fo_sqv (fun x1 => (fo_gd (fo_br (fo_bd1 (fo_mono (fr_X7_take _ _) (by decide)) (fun r3 w4 => (fo_br (fo_some fr_refl) (fo_bd1 (fo_mono (fr_X7_take _ _) (by decide)) (fun r5 w6 => (fo_br (fo_some fr_refl) (fo_bd1 (fo_mono (fr_X7_take _ _) (by decide)) (fun r7 w8 => (fo_br (fo_some fr_refl) (fo_bd1 (fo_mono (fr_X7_take _ _) (by decide)) (fun r9 w10 => (fo_br (fo_some fr_refl) (fo_some fr_refl))))))))))))) (fo_br (fo_bd1 (fo_mono (fr_X7_take _ _) (by decide)) (fun r11 w12 => (fo_br (fo_some fr_refl) (fo_bd1 (fo_mono (fr_X7_take _ _) (by decide)) (fun r13 w14 => (fo_br (fo_some fr_refl) (fo_bd1 (fo_mono (fr_X7_take _ _) (by decide)) (fun r15 w16 => (fo_br (fo_some fr_refl) (fo_bd1 (fo_mono (fr_X7_take _ _) (by decide)) (fun r17 w18 => (fo_br (fo_some fr_refl) (fo_some fr_refl))))))))))))) (fo_br (fo_bd1 (fo_mono (fr_X7_order _) (by decide)) (fun r19 w20 => (fo_br (fo_some fr_refl) (fo_bd1 (fo_mono (fr_X7_take _ _) (by decide)) (fun r21 w22 => (fo_br (fo_gd (fo_sqv (fun p24 => (fo_bd1 (fo_mono (fr_X8_add _ _ _ _ _) (by decide)) (fun r25 w26 => (fo_br (fo_some fr_refl) (fo_gd (fo_sqv (fun p28 => (fo_br (fo_bd1 (fo_mono (fr_X8_add _ _ _ _ _) (by decide)) (fun r31 w32 => (fo_br (fo_some fr_refl) (fo_some fr_refl)))) (fo_bd1 (fo_mono (fr_X8_add _ _ _ _ _) (by decide)) (fun r29 w30 => (fo_br (fo_some fr_refl) (fo_some fr_refl)))))))))))))) (fo_bd1 (fo_mono (frg_X7_test _ _) (by decide)) (fun r33 w34 => (fo_br (fo_some fr_refl) (fo_gd (fo_sqv (fun p36 => (fo_br (fo_bd1 (fo_mono (fr_X8_add _ _ _ _ _) (by decide)) (fun r39 w40 => (fo_br (fo_some fr_refl) (fo_some fr_refl)))) (fo_bd1 (fo_mono (fr_X8_add _ _ _ _ _) (by decide)) (fun r37 w38 => (fo_br (fo_some fr_refl) (fo_some fr_refl))))))))))))))))) (fo_some fr_refl)))))))
set_option maxRecDepth 100000 in
theorem fr_X7_readsInto_L27  : ∀ (n : Nat) (u3 : Int32) (u2 : Int32) (w : Mm), FrO [25, 28, 29, 30, 31] Prod.snd (f_X7_readsInto_L27  n u3 u2 w) w := by
  intro n
  induction n with
  | zero => intro u3 u2 w; exact fo_none
  | succ n ih =>
    intro u3 u2 w
    rw [f_X7_readsInto_L27]
    exact (fo_br (fo_some fr_refl) (fo_br (fo_some fr_refl) (fo_br (fo_some fr_refl) (fo_bd1 (fo_mono (fr_X7_line _) (by decide)) (fun r5 w6 => (fo_br (fo_sqv (fun x7 => (ih x7 0 w6))) (fo_bd1 (fo_mono (fr_X7_take _ _) (by decide)) (fun r8 w9 => (fo_br (fo_sqv (fun x10 => (ih x10 0 w9))) (fo_sqv (fun x11 => (ih x11 1 w9))))))))))))
set_option maxRecDepth 100000 in
theorem fr_X7_readsInto (a1 : Nat) (w : Mm) : FrO [25, 28, 29, 30, 31] Prod.snd (f_X7_readsInto a1 w) w := by
  unfold f_X7_readsInto
  exact (fo_sqm (fr_pR (by decide)) (fun w1 => (fo_sqm (fr_pI (by decide)) (fun w2 => (fo_gd (fo_sqm (fr_pR (by decide)) (fun w4 => (fo_bd1 (fo_mono (fr_X7_readsInto_L27 _ _ _ _) (by decide)) (fun y12 w13 => (fo_br (fo_some fr_refl) (fo_br (fo_some fr_refl) (fo_some fr_refl))))))))))))
set_option maxRecDepth 100000 in
theorem fr_X8_clear (a0 : Nat) (w : Mm) : FrO [25] id (f_X8_clear a0 w) w := by
  unfold f_X8_clear
  exact (fo_sqm (fr_pI (by decide)) (fun w1 => (fo_sqm (fr_pI (by decide)) (fun w2 => (fo_sqm (fr_pI (by decide)) (fun w3 => (fo_some fr_refl)))))))
set_option maxRecDepth 100000 in
theorem fr_X8_link_L2 (z0 : Nat) : ∀ (n : Nat) (u2 : Int32) (w : Mm), FrO [29, 30] id (f_X8_link_L2 z0 n u2 w) w := by
  intro n
  induction n with
  | zero => intro u2 w; exact fo_none
  | succ n ih =>
    intro u2 w
    rw [f_X8_link_L2]
    exact (fo_br (fo_some fr_refl) (fo_br (fo_some fr_refl) (fo_gd (fo_bd1 (fo_mono (fr_X11_meaning _ _) (by decide)) (fun r2 w3 => (fo_gd (fo_sqm (fr_pI (by decide)) (fun w5 => (fo_gd (fo_bd1 (fo_mono (fr_X11_meaning _ _) (by decide)) (fun r7 w8 => (fo_gd (fo_sqm (fr_pI (by decide)) (fun w10 => (fo_sqv (fun x11 => (ih x11 w10)))))))))))))))))
set_option maxRecDepth 100000 in
theorem fr_X8_link (a0 : Nat) (w : Mm) : FrO [29, 30] id (f_X8_link a0 w) w := by
  unfold f_X8_link
  exact (fo_bd0 (fo_mono (fr_X8_link_L2 _ _ _ _) (by decide)) (fun w12 => (fo_some fr_refl)))
set_option maxRecDepth 100000 in
theorem fr_X10_at (a1 : Int32) (w : Mm) : FrO [] Prod.snd (f_X10_at a1 w) w := by
  unfold f_X10_at
  exact (fo_br (fo_some fr_refl) (fo_br (fo_some fr_refl) (fo_br (fo_gd (fo_some fr_refl)) (fo_some fr_refl))))
set_option maxRecDepth 100000 in
theorem fr_X11_isDigit (a0 : Int32) (w : Mm) : FrO [] Prod.snd (f_X11_isDigit a0 w) w := by
  unfold f_X11_isDigit
  exact (fo_br (fo_some fr_refl) (fo_br (fo_some fr_refl) (fo_some fr_refl)))
set_option maxRecDepth 100000 in
theorem fr_X11_isLetter (a0 : Int32) (w : Mm) : FrO [] Prod.snd (f_X11_isLetter a0 w) w := by
  unfold f_X11_isLetter
  exact (fo_br (fo_some fr_refl) (fo_br (fo_some fr_refl) (fo_some fr_refl)))
set_option maxRecDepth 100000 in
theorem fr_X11_number_L7  : ∀ (n : Nat) (u2 : Int32) (w : Mm), FrO [4] Prod.snd (f_X11_number_L7  n u2 w) w := by
  intro n
  induction n with
  | zero => intro u2 w; exact fo_none
  | succ n ih =>
    intro u2 w
    rw [f_X11_number_L7]
    exact (fo_br (fo_some fr_refl) (fo_bd1 (fo_mono (fr_X10_at _ _) (by decide)) (fun r2 w3 => (fo_bd1 (fo_mono (fr_X11_isDigit _ _) (by decide)) (fun r4 w5 => (fo_br (fo_some fr_refl) (fo_bd1 (fo_mono (fr_X10_at _ _) (by decide)) (fun r6 w7 => (fo_sqm (fr_pI (by decide)) (fun w8 => (fo_sqv (fun x9 => (fo_sqm (fr_pI (by decide)) (fun w10 => (ih x9 w10)))))))))))))))
set_option maxRecDepth 100000 in
theorem fr_X11_number (w : Mm) : FrO [4] Prod.snd (f_X11_number w) w := by
  unfold f_X11_number
  exact (fo_sqm (fr_pI (by decide)) (fun w1 => (fo_bd1 (fo_mono (fr_X11_number_L7 _ _ _) (by decide)) (fun y11 w12 => (fo_br (fo_some fr_refl) (fo_some fr_refl))))))
set_option maxRecDepth 100000 in
theorem fr_X11_withEqual (w : Mm) : FrO [4] Prod.snd (f_X11_withEqual w) w := by
  unfold f_X11_withEqual
  exact (fo_bd1 (fo_mono (fr_X10_at _ _) (by decide)) (fun r1 w2 => (fo_br (fo_sqm (fr_pI (by decide)) (fun w3 => (fo_some fr_refl))) (fo_some fr_refl))))
set_option maxRecDepth 100000 in
theorem fr_X11_symbol (a1 : Int32) (w : Mm) : FrO [4] Prod.snd (f_X11_symbol a1 w) w := by
  unfold f_X11_symbol
  exact (fo_br (fo_some fr_refl) (fo_br (fo_some fr_refl) (fo_br (fo_some fr_refl) (fo_br (fo_some fr_refl) (fo_br (fo_some fr_refl) (fo_br (fo_some fr_refl) (fo_br (fo_some fr_refl) (fo_br (fo_some fr_refl) (fo_br (fo_bd1 (fo_mono (fr_X11_withEqual _) (by decide)) (fun r1 w2 => (fo_br (fo_some fr_refl) (fo_some fr_refl)))) (fo_br (fo_some fr_refl) (fo_br (fo_bd1 (fo_mono (fr_X11_withEqual _) (by decide)) (fun r3 w4 => (fo_br (fo_some fr_refl) (fo_some fr_refl)))) (fo_br (fo_some fr_refl) (fo_br (fo_some fr_refl) (fo_some fr_refl))))))))))))))
set_option maxRecDepth 100000 in
theorem fr_X4_longerKey (a0 : Int64) (a2 : Int32) (w : Mm) : FrO [] Prod.snd (f_X4_longerKey a0 a2 w) w := by
  unfold f_X4_longerKey
  exact (fo_br (fo_sqv (fun x1 => (fo_some fr_refl))) (fo_sqv (fun x2 => (fo_some fr_refl))))
set_option maxRecDepth 100000 in
theorem fr_X4_ofWord_L2 (z0 : Int64) : ∀ (n : Nat) (u2 : Int32) (w : Mm), FrO [] (fun r => r.2.2) (f_X4_ofWord_L2 z0 n u2 w) w := by
  intro n
  induction n with
  | zero => intro u2 w; exact fo_none
  | succ n ih =>
    intro u2 w
    rw [f_X4_ofWord_L2]
    exact (fo_br (fo_some fr_refl) (fo_gd (fo_gd (fo_br (fo_some fr_refl) (fo_sqv (fun x1 => (ih x1 w)))))))
set_option maxRecDepth 100000 in
theorem fr_X4_ofWord (a0 : Int64) (w : Mm) : FrO [] Prod.snd (f_X4_ofWord a0 w) w := by
  unfold f_X4_ofWord
  exact (fo_bd2 (fo_mono (fr_X4_ofWord_L2 _ _ _ _) (by decide)) (fun t4 y2 w3 => (fo_br (fo_gd (fo_some fr_refl)) (fo_some fr_refl))))
set_option maxRecDepth 100000 in
theorem fr_X11_isInWord (a0 : Int32) (w : Mm) : FrO [] Prod.snd (f_X11_isInWord a0 w) w := by
  unfold f_X11_isInWord
  exact (fo_bd1 (fo_mono (fr_X11_isLetter _ _) (by decide)) (fun r1 w2 => (fo_br (fo_bd1 (fo_mono (fr_X11_isDigit _ _) (by decide)) (fun r3 w4 => (fo_br (fo_some fr_refl) (fo_some fr_refl)))) (fo_some fr_refl))))
set_option maxRecDepth 100000 in
theorem fr_X11_word_L7  : ∀ (n : Nat) (u2 : Int32) (w : Mm), FrO [4] Prod.snd (f_X11_word_L7  n u2 w) w := by
  intro n
  induction n with
  | zero => intro u2 w; exact fo_none
  | succ n ih =>
    intro u2 w
    rw [f_X11_word_L7]
    exact (fo_br (fo_some fr_refl) (fo_bd1 (fo_mono (fr_X10_at _ _) (by decide)) (fun r2 w3 => (fo_bd1 (fo_mono (fr_X11_isInWord _ _) (by decide)) (fun r4 w5 => (fo_br (fo_some fr_refl) (fo_bd1 (fo_mono (fr_X10_at _ _) (by decide)) (fun r6 w7 => (fo_bd1 (fo_mono (fr_X4_longerKey _ _ _) (by decide)) (fun r8 w9 => (fo_sqm (fr_pL (by decide)) (fun w10 => (fo_sqv (fun x11 => (fo_sqm (fr_pI (by decide)) (fun w12 => (ih x11 w12)))))))))))))))))
set_option maxRecDepth 100000 in
theorem fr_X11_word (w : Mm) : FrO [4] Prod.snd (f_X11_word w) w := by
  unfold f_X11_word
  exact (fo_sqm (fr_pL (by decide)) (fun w1 => (fo_bd1 (fo_mono (fr_X11_word_L7 _ _ _) (by decide)) (fun y13 w14 => (fo_br (fo_bd1 (fo_mono (fr_X4_ofWord _ _) (by decide)) (fun r15 w16 => (fo_some fr_refl))) (fo_some fr_refl))))))
set_option maxRecDepth 100000 in
theorem fr_X11_next (w : Mm) : FrO [4] Prod.snd (f_X11_next w) w := by
  unfold f_X11_next
  exact (fo_bd1 (fo_mono (fr_X10_at _ _) (by decide)) (fun r1 w2 => (fo_br (fo_some fr_refl) (fo_bd1 (fo_mono (fr_X11_isLetter _ _) (by decide)) (fun r3 w4 => (fo_br (fo_bd1 (fo_mono (fr_X11_isDigit _ _) (by decide)) (fun r5 w6 => (fo_br (fo_sqm (fr_pI (by decide)) (fun w7 => (fo_bd1 (fo_mono (fr_X11_symbol _ _) (by decide)) (fun r8 w9 => (fo_some fr_refl))))) (fo_bd1 (fo_mono (fr_X11_number _) (by decide)) (fun r10 w11 => (fo_some fr_refl)))))) (fo_bd1 (fo_mono (fr_X11_word _) (by decide)) (fun r12 w13 => (fo_some fr_refl)))))))))
set_option maxRecDepth 100000 in
theorem fr_X11_skipBlanks_L0  : ∀ (n : Nat) (w : Mm), FrO [4] id (f_X11_skipBlanks_L0  n w) w := by
  intro n
  induction n with
  | zero => intro w; exact fo_none
  | succ n ih =>
    intro w
    rw [f_X11_skipBlanks_L0]
    exact (fo_br (fo_some fr_refl) (fo_bd1 (fo_mono (fr_X10_at _ _) (by decide)) (fun r1 w2 => (fo_br (fo_sqm (fr_pI (by decide)) (fun w3 => (ih w3))) (fo_bd1 (fo_mono (fr_X10_at _ _) (by decide)) (fun r4 w5 => (fo_br (fo_sqm (fr_pI (by decide)) (fun w6 => (ih w6))) (fo_some fr_refl))))))))
set_option maxRecDepth 100000 in
theorem fr_X11_skipBlanks (w : Mm) : FrO [4] id (f_X11_skipBlanks w) w := by
  unfold f_X11_skipBlanks
  exact (fo_bd0 (fo_mono (fr_X11_skipBlanks_L0 _ _) (by decide)) (fun w7 => (fo_some fr_refl)))
set_option maxRecDepth 100000 in
theorem fr_X11_scan_L7  : ∀ (n : Nat) (u2 : Int32) (w : Mm), FrO [4, 5, 6, 7, 8] Prod.snd (f_X11_scan_L7  n u2 w) w := by
  intro n
  induction n with
  | zero => intro u2 w; exact fo_none
  | succ n ih =>
    intro u2 w
    rw [f_X11_scan_L7]
    exact (fo_br (fo_some fr_refl) (fo_bd0 (fo_mono (fr_X11_skipBlanks _) (by decide)) (fun w2 => (fo_gd (fo_sqm (fr_pI (by decide)) (fun w4 => (fo_bd1 (fo_mono (fr_X11_next _) (by decide)) (fun r5 w6 => (fo_br (fo_br (fo_gd (fo_gd (fo_sqm (fr_pR (by decide)) (fun w16 => (fo_gd (fo_sqm (fr_pL (by decide)) (fun w18 => (fo_gd (fo_sqm (fr_pI (by decide)) (fun w20 => (fo_sqm (fr_pI (by decide)) (fun w21 => (fo_br (fo_some fr_refl) (fo_br (fo_some fr_refl) (fo_sqv (fun x22 => (ih x22 w21))))))))))))))))) (fo_gd (fo_gd (fo_sqm (fr_pR (by decide)) (fun w24 => (fo_gd (fo_sqm (fr_pL (by decide)) (fun w26 => (fo_gd (fo_sqm (fr_pI (by decide)) (fun w28 => (fo_sqm (fr_pI (by decide)) (fun w29 => (fo_br (fo_some fr_refl) (fo_br (fo_some fr_refl) (fo_sqv (fun x30 => (ih x30 w29)))))))))))))))))) (fo_gd (fo_gd (fo_sqm (fr_pR (by decide)) (fun w8 => (fo_gd (fo_sqm (fr_pL (by decide)) (fun w10 => (fo_gd (fo_sqm (fr_pI (by decide)) (fun w12 => (fo_sqm (fr_pI (by decide)) (fun w13 => (fo_br (fo_some fr_refl) (fo_br (fo_some fr_refl) (fo_sqv (fun x14 => (ih x14 w13))))))))))))))))))))))))))
set_option maxRecDepth 100000 in
theorem fr_X11_scan (w : Mm) : FrO [4, 5, 6, 7, 8] id (f_X11_scan w) w := by
  unfold f_X11_scan
  exact (fo_sqm (fr_pI (by decide)) (fun w1 => (fo_bd1 (fo_mono (fr_X11_scan_L7 _ _ _) (by decide)) (fun t32 w31 => (fo_br (fo_some fr_refl) (fo_some fr_refl))))))
set_option maxRecDepth 100000 in
theorem fr_X11_start (a1 : Int32) (w : Mm) : FrO [] Prod.snd (f_X11_start a1 w) w := by
  unfold f_X11_start
  exact (fo_bd1 (fo_mono (fr_X11_has _ _) (by decide)) (fun r1 w2 => (fo_br (fo_some fr_refl) (fo_gd (fo_some fr_refl)))))
set_option maxRecDepth 100000 in
theorem fr_X12_teach (w : Mm) : FrO [1, 2, 4, 5, 6, 7, 8, 9, 10, 19, 22, 24, 25, 26, 27, 28, 29, 30, 31] Prod.snd (f_X12_teach w) w := by
  unfold f_X12_teach
  exact (fo_bd0 (fo_mono (fr_X11_scan _) (by decide)) (fun w1 => (fo_sqm (fr_pI (by decide)) (fun w2 => (fo_gd (fo_sqv (fun p4 => (fo_bd0 (fo_mono (fr_X8_clear _ _) (by decide)) (fun w5 => (fo_gd (fo_sqv (fun p7 => (fo_bd1 (fo_mono (fr_X7_readsInto _ _) (by decide)) (fun r8 w9 => (fo_br (fo_bd1 (fo_mono (fr_X11_start _ _) (by decide)) (fun r22 w23 => (fo_sqm (fr_pI (by decide)) (fun w24 => (fo_some fr_refl))))) (fo_gd (fo_sqv (fun p11 => (fo_bd1 (fo_mono (fr_X5_check _ _) (by decide)) (fun r12 w13 => (fo_br (fo_sqm (fr_pI (by decide)) (fun w14 => (fo_gd (fo_sqv (fun p16 => (fo_bd0 (fo_mono (fr_X8_link _ _) (by decide)) (fun w17 => (fo_bd0 (fo_mono (fr_X12_beginSparePlan _) (by decide)) (fun w18 => (fo_some fr_refl)))))))))) (fo_bd1 (fo_mono (fr_X11_start _ _) (by decide)) (fun r19 w20 => (fo_sqm (fr_pI (by decide)) (fun w21 => (fo_some fr_refl))))))))))))))))))))))))))
set_option maxRecDepth 100000 in
theorem fr_X12_errorAt (w : Mm) : FrO [] Prod.snd (f_X12_errorAt w) w := by
  unfold f_X12_errorAt
  exact (fo_some fr_refl)
set_option maxRecDepth 100000 in
theorem fr_X12_hedges (w : Mm) : FrO [] Prod.snd (f_X12_hedges w) w := by
  unfold f_X12_hedges
  exact (fo_some fr_refl)
set_option maxRecDepth 100000 in
theorem fr_X12_roses (w : Mm) : FrO [] Prod.snd (f_X12_roses w) w := by
  unfold f_X12_roses
  exact (fo_some fr_refl)
set_option maxRecDepth 100000 in
theorem fr_X12_day (w : Mm) : FrO [] Prod.snd (f_X12_day w) w := by
  unfold f_X12_day
  exact (fo_some fr_refl)
set_option maxRecDepth 100000 in
theorem fr_X12_ordersCarriedOut (w : Mm) : FrO [] Prod.snd (f_X12_ordersCarriedOut w) w := by
  unfold f_X12_ordersCarriedOut
  exact (fo_some fr_refl)
set_option maxRecDepth 100000 in
theorem fr_X12_whispers (w : Mm) : FrO [] Prod.snd (f_X12_whispers w) w := by
  unfold f_X12_whispers
  exact (fo_some fr_refl)
set_option maxRecDepth 100000 in
theorem fr_X12_cycles (w : Mm) : FrO [] Prod.snd (f_X12_cycles w) w := by
  unfold f_X12_cycles
  exact (fo_some fr_refl)
set_option maxRecDepth 100000 in
theorem fr_X12_departures (w : Mm) : FrO [] Prod.snd (f_X12_departures w) w := by
  unfold f_X12_departures
  exact (fo_some fr_refl)
set_option maxRecDepth 100000 in
theorem fr_X1_hedge (a0 : Nat) (a1 : Int32) (w : Mm) : FrO [] Prod.snd (f_X1_hedge a0 a1 w) w := by
  unfold f_X1_hedge
  exact (fo_br (fo_some fr_refl) (fo_br (fo_some fr_refl) (fo_br (fo_gd (fo_some fr_refl)) (fo_some fr_refl))))
set_option maxRecDepth 100000 in
theorem fr_X12_hedgeNumbered (a1 : Int32) (w : Mm) : FrO [] Prod.snd (f_X12_hedgeNumbered a1 w) w := by
  unfold f_X12_hedgeNumbered
  exact (fo_bd1 (fo_mono (fr_X1_hedge _ _ _) (by decide)) (fun r1 w2 => (fo_on (fo_some fr_refl) (fun k3 => (fo_gd (fo_some fr_refl))))))
set_option maxRecDepth 100000 in
theorem fr_X12_hushOf (a1 : Int32) (w : Mm) : FrO [] Prod.snd (f_X12_hushOf a1 w) w := by
  unfold f_X12_hushOf
  exact (fo_bx (fo_mono (fr_X12_hedgeNumbered _ _) (by decide)) (fun r1 w2 => (fo_on fo_none (fun k4 => (fo_gd (fo_some fr_refl))))))
set_option maxRecDepth 100000 in
theorem fr_X12_heardBy (a1 : Int32) (w : Mm) : FrO [] Prod.snd (f_X12_heardBy a1 w) w := by
  unfold f_X12_heardBy
  exact (fo_bx (fo_mono (fr_X12_hedgeNumbered _ _) (by decide)) (fun r1 w2 => (fo_on fo_none (fun k4 => (fo_gd (fo_some fr_refl))))))
set_option maxRecDepth 100000 in
theorem fr_X12_latestOf (a1 : Int32) (w : Mm) : FrO [] Prod.snd (f_X12_latestOf a1 w) w := by
  unfold f_X12_latestOf
  exact (fo_bx (fo_mono (fr_X12_hedgeNumbered _ _) (by decide)) (fun r1 w2 => (fo_on fo_none (fun k4 => (fo_gd (fo_some fr_refl))))))
set_option maxRecDepth 100000 in
theorem fr_X12_listenersOf (a1 : Int32) (w : Mm) : FrO [] Prod.snd (f_X12_listenersOf a1 w) w := by
  unfold f_X12_listenersOf
  exact (fo_bx (fo_mono (fr_X12_hedgeNumbered _ _) (by decide)) (fun r1 w2 => (fo_on fo_none (fun k4 => (fo_gd (fo_some fr_refl))))))
set_option maxRecDepth 100000 in
theorem fr_X3_placeOf_L2 (z0 : Nat) (z1 : Int32) : ∀ (n : Nat) (u2 : Int32) (w : Mm), FrO [] (fun r => r.2.2) (f_X3_placeOf_L2 z0 z1 n u2 w) w := by
  intro n
  induction n with
  | zero => intro u2 w; exact fo_none
  | succ n ih =>
    intro u2 w
    rw [f_X3_placeOf_L2]
    exact (fo_br (fo_some fr_refl) (fo_br (fo_some fr_refl) (fo_gd (fo_br (fo_some fr_refl) (fo_sqv (fun x2 => (ih x2 w)))))))
set_option maxRecDepth 100000 in
theorem fr_X3_placeOf (a0 : Nat) (a1 : Int32) (w : Mm) : FrO [] Prod.snd (f_X3_placeOf a0 a1 w) w := by
  unfold f_X3_placeOf
  exact (fo_bd2 (fo_mono (fr_X3_placeOf_L2 _ _ _ _ _) (by decide)) (fun t5 y3 w4 => (fo_br (fo_some fr_refl) (fo_some fr_refl))))
set_option maxRecDepth 100000 in
theorem fr_X12_hedgeInRow (a1 : Int32) (a2 : Int32) (w : Mm) : FrO [] Prod.snd (f_X12_hedgeInRow a1 a2 w) w := by
  unfold f_X12_hedgeInRow
  exact (fo_bx (fo_mono (fr_X12_hedgeNumbered _ _) (by decide)) (fun r1 w2 => (fo_bx (fo_mono (fr_X12_hedgeNumbered _ _) (by decide)) (fun r4 w5 => (fo_on fo_none (fun k7 => (fo_gd (fo_bd1 (fo_mono (fr_X3_placeOf _ _ _) (by decide)) (fun r9 w10 => (fo_some fr_refl))))))))))
set_option maxRecDepth 100000 in
theorem fr_X1_rose (a0 : Nat) (a1 : Int32) (w : Mm) : FrO [] Prod.snd (f_X1_rose a0 a1 w) w := by
  unfold f_X1_rose
  exact (fo_br (fo_some fr_refl) (fo_br (fo_some fr_refl) (fo_br (fo_gd (fo_some fr_refl)) (fo_some fr_refl))))
set_option maxRecDepth 100000 in
theorem fr_X12_roseNumbered (a1 : Int32) (w : Mm) : FrO [] Prod.snd (f_X12_roseNumbered a1 w) w := by
  unfold f_X12_roseNumbered
  exact (fo_bd1 (fo_mono (fr_X1_rose _ _ _) (by decide)) (fun r1 w2 => (fo_on (fo_some fr_refl) (fun k3 => (fo_gd (fo_some fr_refl))))))
set_option maxRecDepth 100000 in
theorem fr_X12_roseInRow (a1 : Int32) (a2 : Int32) (w : Mm) : FrO [] Prod.snd (f_X12_roseInRow a1 a2 w) w := by
  unfold f_X12_roseInRow
  exact (fo_bx (fo_mono (fr_X12_roseNumbered _ _) (by decide)) (fun r1 w2 => (fo_bx (fo_mono (fr_X12_hedgeNumbered _ _) (by decide)) (fun r4 w5 => (fo_on fo_none (fun k7 => (fo_gd (fo_bd1 (fo_mono (fr_X3_placeOf _ _ _) (by decide)) (fun r9 w10 => (fo_some fr_refl))))))))))
set_option maxRecDepth 100000 in
theorem fr_X12_patienceOf (a1 : Int32) (w : Mm) : FrO [] Prod.snd (f_X12_patienceOf a1 w) w := by
  unfold f_X12_patienceOf
  exact (fo_bx (fo_mono (fr_X12_roseNumbered _ _) (by decide)) (fun r1 w2 => (fo_on fo_none (fun k4 => (fo_gd (fo_some fr_refl))))))
set_option maxRecDepth 100000 in
theorem fr_X12_petalsOf (a1 : Int32) (w : Mm) : FrO [] Prod.snd (f_X12_petalsOf a1 w) w := by
  unfold f_X12_petalsOf
  exact (fo_bx (fo_mono (fr_X12_roseNumbered _ _) (by decide)) (fun r1 w2 => (fo_on fo_none (fun k4 => (fo_gd (fo_some fr_refl))))))
set_option maxRecDepth 100000 in
theorem fr_X12_countOf (a1 : Int32) (w : Mm) : FrO [] Prod.snd (f_X12_countOf a1 w) w := by
  unfold f_X12_countOf
  exact (fo_bx (fo_mono (fr_X12_roseNumbered _ _) (by decide)) (fun r1 w2 => (fo_on fo_none (fun k4 => (fo_gd (fo_some fr_refl))))))
set_option maxRecDepth 100000 in
theorem fr_X1_isInRow (a0 : Nat) (a1 : Int32) (a2 : Int32) (w : Mm) : FrO [] Prod.snd (f_X1_isInRow a0 a1 a2 w) w := by
  unfold f_X1_isInRow
  exact (fo_bd1 (fo_mono (fr_X1_hedge _ _ _) (by decide)) (fun r1 w2 => (fo_on (fo_some fr_refl) (fun k3 => (fo_gd (fo_bd1 (fo_mono (fr_X3_placeOf _ _ _) (by decide)) (fun r5 w6 => (fo_br (fo_some fr_refl) (fo_some fr_refl)))))))))
set_option maxRecDepth 100000 in
theorem fr_X1_rowsWith_L4 (z0 : Nat) (z1 : Int32) : ∀ (n : Nat) (u3 : Int32) (u2 : Int32) (w : Mm), FrO [] Prod.snd (f_X1_rowsWith_L4 z0 z1 n u3 u2 w) w := by
  intro n
  induction n with
  | zero => intro u3 u2 w; exact fo_none
  | succ n ih =>
    intro u3 u2 w
    rw [f_X1_rowsWith_L4]
    exact (fo_br (fo_some fr_refl) (fo_bd1 (fo_mono (fr_X1_isInRow _ _ _ _) (by decide)) (fun r1 w2 => (fo_br (fo_sqv (fun x3 => (ih x3 u2 w2))) (fo_sqv (fun x4 => (fo_sqv (fun x5 => (ih x5 x4 w2)))))))))
set_option maxRecDepth 100000 in
theorem fr_X1_rowsWith (a0 : Nat) (a1 : Int32) (w : Mm) : FrO [] Prod.snd (f_X1_rowsWith a0 a1 w) w := by
  unfold f_X1_rowsWith
  exact (fo_bd1 (fo_mono (fr_X1_rowsWith_L4 _ _ _ _ _ _) (by decide)) (fun y6 w7 => (fo_some fr_refl)))
set_option maxRecDepth 100000 in
theorem fr_X12_hedgesOf (a1 : Int32) (w : Mm) : FrO [] Prod.snd (f_X12_hedgesOf a1 w) w := by
  unfold f_X12_hedgesOf
  exact (fo_bx (fo_mono (fr_X12_roseNumbered _ _) (by decide)) (fun r1 w2 => (fo_bd1 (fo_mono (fr_X1_rowsWith _ _ _) (by decide)) (fun r4 w5 => (fo_some fr_refl)))))
set_option maxRecDepth 100000 in
theorem fr_X1_petalsAt (a0 : Nat) (a1 : Int32) (w : Mm) : FrO [] Prod.snd (f_X1_petalsAt a0 a1 w) w := by
  unfold f_X1_petalsAt
  exact (fo_bd1 (fo_mono (fr_X1_rose _ _ _) (by decide)) (fun r1 w2 => (fo_on (fo_some fr_refl) (fun k3 => (fo_gd (fo_some fr_refl))))))
set_option maxRecDepth 100000 in
theorem fr_X1_fullestRose_L6 (z0 : Nat) : ∀ (n : Nat) (u3 : Int32) (u2 : Int32) (u1 : Int32) (w : Mm), FrO [] Prod.snd (f_X1_fullestRose_L6 z0 n u3 u2 u1 w) w := by
  intro n
  induction n with
  | zero => intro u3 u2 u1 w; exact fo_none
  | succ n ih =>
    intro u3 u2 u1 w
    rw [f_X1_fullestRose_L6]
    exact (fo_br (fo_some fr_refl) (fo_bd1 (fo_mono (fr_X1_petalsAt _ _ _) (by decide)) (fun r1 w2 => (fo_br (fo_sqv (fun x3 => (ih x3 u2 u1 w2))) (fo_bd1 (fo_mono (fr_X1_petalsAt _ _ _) (by decide)) (fun r4 w5 => (fo_sqv (fun x6 => (ih x6 r4 u3 w5)))))))))
set_option maxRecDepth 100000 in
theorem fr_X1_fullestRose (a0 : Nat) (w : Mm) : FrO [] Prod.snd (f_X1_fullestRose a0 w) w := by
  unfold f_X1_fullestRose
  exact (fo_bd1 (fo_mono (fr_X1_fullestRose_L6 _ _ _ _ _ _) (by decide)) (fun y7 w8 => (fo_some fr_refl)))
set_option maxRecDepth 100000 in
theorem fr_X12_fullest (w : Mm) : FrO [] Prod.snd (f_X12_fullest w) w := by
  unfold f_X12_fullest
  exact (fo_bd1 (fo_mono (fr_X1_fullestRose _ _) (by decide)) (fun r1 w2 => (fo_some fr_refl)))
set_option maxRecDepth 100000 in
theorem fr_X3_add (a0 : Nat) (a1 : Int32) (w : Mm) : FrO [22, 23] id (f_X3_add a0 a1 w) w := by
  unfold f_X3_add
  exact (fo_br (fo_some fr_refl) (fo_br (fo_some fr_refl) (fo_gd (fo_sqm (fr_pI (by decide)) (fun w2 => (fo_sqm (fr_pI (by decide)) (fun w3 => (fo_some fr_refl))))))))
set_option maxRecDepth 100000 in
theorem fr_X1_startListening (a0 : Nat) (a1 : Int32) (a2 : Int32) (w : Mm) : FrO [22, 23, 24] Prod.snd (f_X1_startListening a0 a1 a2 w) w := by
  unfold f_X1_startListening
  exact (fo_bd1 (fo_mono (fr_X1_hedge _ _ _) (by decide)) (fun r1 w2 => (fo_on (fo_some fr_refl) (fun k3 => (fo_gd (fo_br (fo_some fr_refl) (fo_bd1 (fo_mono (fr_X3_placeOf _ _ _) (by decide)) (fun r5 w6 => (fo_br (fo_bd0 (fo_mono (fr_X3_add _ _ _) (by decide)) (fun w7 => (fo_bd1 (fo_mono (fr_X1_rose _ _ _) (by decide)) (fun r8 w9 => (fo_on (fo_some fr_refl) (fun k10 => (fo_gd (fo_sqm (fr_pI (by decide)) (fun w12 => (fo_some fr_refl)))))))))) (fo_some fr_refl))))))))))
set_option maxRecDepth 100000 in
theorem fr_X12_placeAfterListening (a1 : Int32) (a2 : Int32) (w : Mm) : FrO [22, 23, 24] Prod.snd (f_X12_placeAfterListening a1 a2 w) w := by
  unfold f_X12_placeAfterListening
  exact (fo_bx (fo_mono (fr_X12_hedgeNumbered _ _) (by decide)) (fun r1 w2 => (fo_bd1 (fo_mono (fr_X1_startListening _ _ _ _) (by decide)) (fun r4 w5 => (fo_br (fo_some fr_refl) (fo_on fo_none (fun k6 => (fo_gd (fo_some fr_refl)))))))))
set_option maxRecDepth 100000 in
theorem fr_X12_hedgeListens (a1 : Int32) (a2 : Int32) (w : Mm) : FrO [22, 23, 24] Prod.snd (f_X12_hedgeListens a1 a2 w) w := by
  unfold f_X12_hedgeListens
  exact (fo_bx (fo_mono (fr_X12_hedgeNumbered _ _) (by decide)) (fun r1 w2 => (fo_bx (fo_mono (fr_X12_placeAfterListening _ _ _) (by decide)) (fun r4 w5 => (fo_some fr_refl)))))
set_option maxRecDepth 100000 in
theorem fr_X12_roseListens (a1 : Int32) (a2 : Int32) (w : Mm) : FrO [22, 23, 24] Prod.snd (f_X12_roseListens a1 a2 w) w := by
  unfold f_X12_roseListens
  exact (fo_bx (fo_mono (fr_X12_roseNumbered _ _) (by decide)) (fun r1 w2 => (fo_bx (fo_mono (fr_X12_placeAfterListening _ _ _) (by decide)) (fun r4 w5 => (fo_some fr_refl)))))
set_option maxRecDepth 100000 in
theorem fr_X3_removeAt_L15 (z0 : Nat) : ∀ (n : Nat) (u2 : Int32) (w : Mm), FrO [23] id (f_X3_removeAt_L15 z0 n u2 w) w := by
  intro n
  induction n with
  | zero => intro u2 w; exact fo_none
  | succ n ih =>
    intro u2 w
    rw [f_X3_removeAt_L15]
    exact (fo_br (fo_some fr_refl) (fo_br (fo_some fr_refl) (fo_gd (fo_gd (fo_sqm (fr_pI (by decide)) (fun w3 => (fo_sqv (fun x4 => (ih x4 w3)))))))))
set_option maxRecDepth 100000 in
theorem fr_X3_removeAt (a0 : Nat) (a1 : Int32) (w : Mm) : FrO [22, 23] id (f_X3_removeAt a0 a1 w) w := by
  unfold f_X3_removeAt
  exact (fo_br (fo_some fr_refl) (fo_br (fo_bd0 (fo_mono (fr_X3_removeAt_L15 _ _ _ _) (by decide)) (fun w5 => (fo_sqm (fr_pI (by decide)) (fun w6 => (fo_some fr_refl))))) (fo_some fr_refl)))
set_option maxRecDepth 100000 in
theorem fr_X1_stopListening (a0 : Nat) (a1 : Int32) (a2 : Int32) (w : Mm) : FrO [22, 23] Prod.snd (f_X1_stopListening a0 a1 a2 w) w := by
  unfold f_X1_stopListening
  exact (fo_bd1 (fo_mono (fr_X1_hedge _ _ _) (by decide)) (fun r1 w2 => (fo_on (fo_some fr_refl) (fun k3 => (fo_gd (fo_bd1 (fo_mono (fr_X3_placeOf _ _ _) (by decide)) (fun r5 w6 => (fo_br (fo_bd1 (fo_mono (fr_X3_placeOf _ _ _) (by decide)) (fun r7 w8 => (fo_bd0 (fo_mono (fr_X3_removeAt _ _ _) (by decide)) (fun w9 => (fo_some fr_refl))))) (fo_some fr_refl)))))))))
set_option maxRecDepth 100000 in
theorem fr_X12_listenersAfterLeaving (a1 : Int32) (a2 : Int32) (w : Mm) : FrO [22, 23] Prod.snd (f_X12_listenersAfterLeaving a1 a2 w) w := by
  unfold f_X12_listenersAfterLeaving
  exact (fo_bx (fo_mono (fr_X12_hedgeNumbered _ _) (by decide)) (fun r1 w2 => (fo_bd1 (fo_mono (fr_X1_stopListening _ _ _ _) (by decide)) (fun r4 w5 => (fo_br (fo_some fr_refl) (fo_on fo_none (fun k6 => (fo_gd (fo_some fr_refl)))))))))
set_option maxRecDepth 100000 in
theorem fr_X12_hedgeLeaves (a1 : Int32) (a2 : Int32) (w : Mm) : FrO [22, 23] Prod.snd (f_X12_hedgeLeaves a1 a2 w) w := by
  unfold f_X12_hedgeLeaves
  exact (fo_bx (fo_mono (fr_X12_hedgeNumbered _ _) (by decide)) (fun r1 w2 => (fo_bx (fo_mono (fr_X12_listenersAfterLeaving _ _ _) (by decide)) (fun r4 w5 => (fo_some fr_refl)))))
set_option maxRecDepth 100000 in
theorem fr_X12_roseLeaves (a1 : Int32) (a2 : Int32) (w : Mm) : FrO [22, 23] Prod.snd (f_X12_roseLeaves a1 a2 w) w := by
  unfold f_X12_roseLeaves
  exact (fo_bx (fo_mono (fr_X12_roseNumbered _ _) (by decide)) (fun r1 w2 => (fo_bx (fo_mono (fr_X12_listenersAfterLeaving _ _ _) (by decide)) (fun r4 w5 => (fo_some fr_refl)))))
set_option maxRecDepth 100000 in
theorem fr_X12_needLoudness (a0 : Int32) (w : Mm) : FrO [] Prod.snd (f_X12_needLoudness a0 w) w := by
  unfold f_X12_needLoudness
  exact (fo_br (fo_some fr_refl) (fo_br (fo_some fr_refl) (fo_some fr_refl)))
set_option maxRecDepth 100000 in
theorem fr_X1_roseHears (a0 : Nat) (a1 : Int32) (a2 : Int32) (a3 : Int32) (w : Mm) : FrO [19, 22, 23, 24] id (f_X1_roseHears a0 a1 a2 a3 w) w := by
  unfold f_X1_roseHears
  exact (fo_bd1 (fo_mono (fr_X1_rose _ _ _) (by decide)) (fun r1 w2 => (fo_on (fo_some fr_refl) (fun k3 => (fo_gd (fo_sqm (fr_pI (by decide)) (fun w5 => (fo_sqm (fr_pI (by decide)) (fun w6 => (fo_br (fo_bd1 (fo_mono (fr_X1_stopListening _ _ _ _) (by decide)) (fun r7 w8 => (fo_sqm (fr_pI (by decide)) (fun w9 => (fo_sqm (fr_pI (by decide)) (fun w10 => (fo_sqm (fr_pI (by decide)) (fun w11 => (fo_some fr_refl))))))))) (fo_some fr_refl)))))))))))
set_option maxRecDepth 100000 in
theorem fr_X3_listenerAt (a0 : Nat) (a1 : Int32) (w : Mm) : FrO [] Prod.snd (f_X3_listenerAt a0 a1 w) w := by
  unfold f_X3_listenerAt
  exact (fo_br (fo_some fr_refl) (fo_br (fo_gd (fo_some fr_refl)) (fo_some fr_refl)))
set_option maxRecDepth 100000 in
theorem fr_X6_whisper (a1 : Int32) (a2 : Int32) (a3 : Int32) (w : Mm) : FrO [11, 12, 13, 14] id (f_X6_whisper a1 a2 a3 w) w := by
  unfold f_X6_whisper
  exact (fo_br (fo_some fr_refl) (fo_br (fo_some fr_refl) (fo_gd (fo_sqm (fr_pI (by decide)) (fun w2 => (fo_gd (fo_sqm (fr_pI (by decide)) (fun w4 => (fo_gd (fo_sqm (fr_pI (by decide)) (fun w6 => (fo_sqm (fr_pI (by decide)) (fun w7 => (fo_some fr_refl))))))))))))))
set_option maxRecDepth 100000 in
theorem fr_X6_hedgeHears_L89 (z4 : Nat) (z2 : Int32) (z3 : Int32) : ∀ (n : Nat) (u5 : Int32) (w : Mm), FrO [11, 12, 13, 14] id (f_X6_hedgeHears_L89 z4 z2 z3 n u5 w) w := by
  intro n
  induction n with
  | zero => intro u5 w; exact fo_none
  | succ n ih =>
    intro u5 w
    rw [f_X6_hedgeHears_L89]
    exact (fo_br (fo_some fr_refl) (fo_bd1 (fo_mono (fr_X3_listenerAt _ _ _) (by decide)) (fun r10 w11 => (fo_bd0 (fo_mono (fr_X6_whisper _ _ _ _) (by decide)) (fun w12 => (fo_sqv (fun x13 => (ih x13 w12))))))))
set_option maxRecDepth 100000 in
theorem fr_X6_hedgeHears (a1 : Nat) (a2 : Int32) (a3 : Int32) (w : Mm) : FrO [11, 12, 13, 14, 15, 16, 19, 22] id (f_X6_hedgeHears a1 a2 a3 w) w := by
  unfold f_X6_hedgeHears
  exact (fo_bd1 (fo_mono (fr_X1_hedge _ _ _) (by decide)) (fun r1 w2 => (fo_on (fo_some fr_refl) (fun k3 => (fo_gd (fo_br (fo_some fr_refl) (fo_br (fo_gd (fo_br (fo_gd (fo_sqm (fr_pI (by decide)) (fun w7 => (fo_sqm (fr_pI (by decide)) (fun w8 => (fo_sqm (fr_pI (by decide)) (fun w9 => (fo_br (fo_bd0 (fo_mono (fr_X6_hedgeHears_L89 _ _ _ _ _ _) (by decide)) (fun w14 => (fo_some fr_refl))) (fo_some fr_refl))))))))) (fo_gd (fo_sqm (fr_pI (by decide)) (fun w16 => (fo_sqm (fr_pI (by decide)) (fun w17 => (fo_some fr_refl)))))))) (fo_some fr_refl))))))))
set_option maxRecDepth 100000 in
theorem fr_X6_carry_L3 (z1 : Nat) (z2 : Int32) (z3 : Int32) : ∀ (n : Nat) (u4 : Int32) (w : Mm), FrO [15, 16] id (f_X6_carry_L3 z1 z2 z3 n u4 w) w := by
  intro n
  induction n with
  | zero => intro u4 w; exact fo_none
  | succ n ih =>
    intro u4 w
    rw [f_X6_carry_L3]
    exact (fo_br (fo_some fr_refl) (fo_gd (fo_sqm (fr_pI (by decide)) (fun w2 => (fo_gd (fo_sqm (fr_pI (by decide)) (fun w4 => (fo_sqv (fun x5 => (ih x5 w4))))))))))
set_option maxRecDepth 100000 in
theorem fr_X6_carry_L47 (z1 : Nat) : ∀ (n : Nat) (u4 : Int32) (w : Mm), FrO [11, 12, 13, 14, 15, 16, 19, 22, 23, 24] id (f_X6_carry_L47 z1 n u4 w) w := by
  intro n
  induction n with
  | zero => intro u4 w; exact fo_none
  | succ n ih =>
    intro u4 w
    rw [f_X6_carry_L47]
    exact (fo_br (fo_some fr_refl) (fo_br (fo_some fr_refl) (fo_gd (fo_br (fo_gd (fo_gd (fo_gd (fo_bd0 (fo_mono (fr_X1_roseHears _ _ _ _ _) (by decide)) (fun w13 => (fo_sqv (fun x14 => (ih x14 w13)))))))) (fo_gd (fo_gd (fo_bd0 (fo_mono (fr_X6_hedgeHears _ _ _ _) (by decide)) (fun w17 => (fo_sqv (fun x18 => (ih x18 w17)))))))))))
set_option maxRecDepth 100000 in
theorem fr_X6_carry (a1 : Nat) (a2 : Int32) (a3 : Int32) (w : Mm) : FrO [11, 12, 13, 14, 15, 16, 19, 22, 23, 24] Prod.snd (f_X6_carry a1 a2 a3 w) w := by
  unfold f_X6_carry
  exact (fo_bd0 (fo_mono (fr_X6_carry_L3 _ _ _ _ _ _) (by decide)) (fun w6 => (fo_sqm (fr_pI (by decide)) (fun w7 => (fo_bd0 (fo_mono (fr_X6_hedgeHears _ _ _ _) (by decide)) (fun w8 => (fo_bd0 (fo_mono (fr_X6_carry_L47 _ _ _ _) (by decide)) (fun w19 => (fo_sqm (fr_pI (by decide)) (fun w20 => (fo_some fr_refl)))))))))))
set_option maxRecDepth 100000 in
theorem fr_X12_tell (a1 : Int32) (a2 : Int32) (w : Mm) : FrO [11, 12, 13, 14, 15, 16, 19, 22, 23, 24] Prod.snd (f_X12_tell a1 a2 w) w := by
  unfold f_X12_tell
  exact (fo_bx (fo_mono (fr_X12_hedgeNumbered _ _) (by decide)) (fun r1 w2 => (fo_bx (fo_mono (fr_X12_needLoudness _ _) (by decide)) (fun r4 w5 => (fo_bd1 (fo_mono (fr_X6_carry _ _ _ _) (by decide)) (fun r7 w8 => (fo_some fr_refl)))))))
set_option maxRecDepth 100000 in
theorem fr_X12_needDays (a0 : Int32) (w : Mm) : FrO [] Prod.snd (f_X12_needDays a0 w) w := by
  unfold f_X12_needDays
  exact (fo_br (fo_some fr_refl) (fo_br (fo_some fr_refl) (fo_some fr_refl)))
set_option maxRecDepth 100000 in
theorem fr_X1_endDay_L2 (z0 : Nat) : ∀ (n : Nat) (u1 : Int32) (w : Mm), FrO [24] id (f_X1_endDay_L2 z0 n u1 w) w := by
  intro n
  induction n with
  | zero => intro u1 w; exact fo_none
  | succ n ih =>
    intro u1 w
    rw [f_X1_endDay_L2]
    exact (fo_br (fo_some fr_refl) (fo_gd (fo_br (fo_sqv (fun x2 => (ih x2 w))) (fo_gd (fo_sqm (fr_pI (by decide)) (fun w4 => (fo_sqv (fun x5 => (ih x5 w4)))))))))
set_option maxRecDepth 100000 in
theorem fr_X1_endDay (a0 : Nat) (w : Mm) : FrO [19, 24] id (f_X1_endDay a0 w) w := by
  unfold f_X1_endDay
  exact (fo_bd0 (fo_mono (fr_X1_endDay_L2 _ _ _ _) (by decide)) (fun w6 => (fo_sqm (fr_pI (by decide)) (fun w7 => (fo_some fr_refl)))))
set_option maxRecDepth 100000 in
theorem fr_X1_heardAt (a0 : Nat) (a1 : Int32) (w : Mm) : FrO [] Prod.snd (f_X1_heardAt a0 a1 w) w := by
  unfold f_X1_heardAt
  exact (fo_bd1 (fo_mono (fr_X1_hedge _ _ _) (by decide)) (fun r1 w2 => (fo_on (fo_some fr_refl) (fun k3 => (fo_gd (fo_some fr_refl))))))
set_option maxRecDepth 100000 in
theorem fr_X1_latestAt (a0 : Nat) (a1 : Int32) (w : Mm) : FrO [] Prod.snd (f_X1_latestAt a0 a1 w) w := by
  unfold f_X1_latestAt
  exact (fo_bd1 (fo_mono (fr_X1_hedge _ _ _) (by decide)) (fun r1 w2 => (fo_on (fo_some fr_refl) (fun k3 => (fo_gd (fo_some fr_refl))))))
set_option maxRecDepth 100000 in
theorem fr_X2_oneIf (a0 : Int32) (w : Mm) : FrO [] Prod.snd (f_X2_oneIf a0 w) w := by
  unfold f_X2_oneIf
  exact (fo_br (fo_some fr_refl) (fo_some fr_refl))
set_option maxRecDepth 100000 in
theorem fr_X2_joined (a0 : Nat) (a1 : Int32) (a2 : Int32) (w : Mm) : FrO [] Prod.snd (f_X2_joined a0 a1 a2 w) w := by
  unfold f_X2_joined
  exact (fo_gd (fo_br (fo_some fr_refl) (fo_br (fo_some fr_refl) (fo_br (fo_some fr_refl) (fo_br (fo_some fr_refl) (fo_br (fo_some fr_refl) (fo_br (fo_br (fo_some fr_refl) (fo_gd (fo_some fr_refl))) (fo_br (fo_br (fo_bd1 (fo_mono (fr_X2_oneIf _ _) (by decide)) (fun r2 w3 => (fo_some fr_refl))) (fo_bd1 (fo_mono (fr_X2_oneIf _ _) (by decide)) (fun r4 w5 => (fo_some fr_refl)))) (fo_br (fo_br (fo_bd1 (fo_mono (fr_X2_oneIf _ _) (by decide)) (fun r6 w7 => (fo_some fr_refl))) (fo_bd1 (fo_mono (fr_X2_oneIf _ _) (by decide)) (fun r8 w9 => (fo_some fr_refl)))) (fo_br (fo_br (fo_bd1 (fo_mono (fr_X2_oneIf _ _) (by decide)) (fun r12 w13 => (fo_some fr_refl))) (fo_bd1 (fo_mono (fr_X2_oneIf _ _) (by decide)) (fun r10 w11 => (fo_some fr_refl)))) (fo_br (fo_br (fo_bd1 (fo_mono (fr_X2_oneIf _ _) (by decide)) (fun r14 w15 => (fo_some fr_refl))) (fo_bd1 (fo_mono (fr_X2_oneIf _ _) (by decide)) (fun r16 w17 => (fo_some fr_refl)))) (fo_br (fo_br (fo_bd1 (fo_mono (fr_X2_oneIf _ _) (by decide)) (fun r18 w19 => (fo_some fr_refl))) (fo_bd1 (fo_mono (fr_X2_oneIf _ _) (by decide)) (fun r20 w21 => (fo_some fr_refl)))) (fo_br (fo_some fr_refl) (fo_br (fo_some fr_refl) (fo_some fr_refl)))))))))))))))
set_option maxRecDepth 100000 in
theorem fr_X2_pop (w : Mm) : FrO [17] Prod.snd (f_X2_pop w) w := by
  unfold f_X2_pop
  exact (fo_br (fo_some fr_refl) (fo_br (fo_sqm (fr_pI (by decide)) (fun w1 => (fo_gd (fo_some fr_refl)))) (fo_some fr_refl)))
set_option maxRecDepth 100000 in
theorem fr_X2_push (a1 : Int32) (w : Mm) : FrO [17, 18] id (f_X2_push a1 w) w := by
  unfold f_X2_push
  exact (fo_br (fo_some fr_refl) (fo_br (fo_some fr_refl) (fo_gd (fo_sqm (fr_pI (by decide)) (fun w2 => (fo_sqm (fr_pI (by decide)) (fun w3 => (fo_some fr_refl))))))))
set_option maxRecDepth 100000 in
theorem fr_X2_join (a1 : Nat) (w : Mm) : FrO [17, 18] id (f_X2_join a1 w) w := by
  unfold f_X2_join
  exact (fo_bd1 (fo_mono (fr_X2_pop _) (by decide)) (fun r1 w2 => (fo_bd1 (fo_mono (fr_X2_pop _) (by decide)) (fun r3 w4 => (fo_bd1 (fo_mono (fr_X2_joined _ _ _ _) (by decide)) (fun r5 w6 => (fo_bd0 (fo_mono (fr_X2_push _ _) (by decide)) (fun w7 => (fo_some fr_refl)))))))))
set_option maxRecDepth 100000 in
theorem fr_X2_order (a1 : Nat) (a2 : Nat) (a3 : Int32) (a4 : Int32) (w : Mm) : FrO [11, 12, 13, 14, 15, 16, 17, 19, 22, 23, 24] id (f_X2_order a1 a2 a3 a4 w) w := by
  unfold f_X2_order
  exact (fo_bd1 (fo_mono (fr_X2_pop _) (by decide)) (fun r1 w2 => (fo_br (fo_br (fo_bd1 (fo_mono (fr_X2_pop _) (by decide)) (fun r12 w13 => (fo_sqv (fun x14 => (fo_br (fo_some fr_refl) (fo_br (fo_bd1 (fo_mono (fr_X1_startListening _ _ _ _) (by decide)) (fun r21 w22 => (fo_br (fo_some fr_refl) (fo_sqm (fr_pI (by decide)) (fun w23 => (fo_some fr_refl)))))) (fo_br (fo_bd1 (fo_mono (fr_X1_stopListening _ _ _ _) (by decide)) (fun r18 w19 => (fo_br (fo_some fr_refl) (fo_sqm (fr_pI (by decide)) (fun w20 => (fo_some fr_refl)))))) (fo_bd1 (fo_mono (fr_X6_carry _ _ _ _) (by decide)) (fun r15 w16 => (fo_br (fo_some fr_refl) (fo_sqm (fr_pI (by decide)) (fun w17 => (fo_some fr_refl))))))))))))) (fo_br (fo_some fr_refl) (fo_br (fo_bd1 (fo_mono (fr_X1_startListening _ _ _ _) (by decide)) (fun r9 w10 => (fo_br (fo_some fr_refl) (fo_sqm (fr_pI (by decide)) (fun w11 => (fo_some fr_refl)))))) (fo_br (fo_bd1 (fo_mono (fr_X1_stopListening _ _ _ _) (by decide)) (fun r6 w7 => (fo_br (fo_some fr_refl) (fo_sqm (fr_pI (by decide)) (fun w8 => (fo_some fr_refl)))))) (fo_bd1 (fo_mono (fr_X6_carry _ _ _ _) (by decide)) (fun r3 w4 => (fo_br (fo_some fr_refl) (fo_sqm (fr_pI (by decide)) (fun w5 => (fo_some fr_refl)))))))))) (fo_br (fo_bd1 (fo_mono (fr_X2_pop _) (by decide)) (fun r33 w34 => (fo_sqv (fun x35 => (fo_br (fo_some fr_refl) (fo_br (fo_bd1 (fo_mono (fr_X1_startListening _ _ _ _) (by decide)) (fun r42 w43 => (fo_br (fo_some fr_refl) (fo_sqm (fr_pI (by decide)) (fun w44 => (fo_some fr_refl)))))) (fo_br (fo_bd1 (fo_mono (fr_X1_stopListening _ _ _ _) (by decide)) (fun r39 w40 => (fo_br (fo_some fr_refl) (fo_sqm (fr_pI (by decide)) (fun w41 => (fo_some fr_refl)))))) (fo_bd1 (fo_mono (fr_X6_carry _ _ _ _) (by decide)) (fun r36 w37 => (fo_br (fo_some fr_refl) (fo_sqm (fr_pI (by decide)) (fun w38 => (fo_some fr_refl))))))))))))) (fo_br (fo_some fr_refl) (fo_br (fo_bd1 (fo_mono (fr_X1_startListening _ _ _ _) (by decide)) (fun r30 w31 => (fo_br (fo_some fr_refl) (fo_sqm (fr_pI (by decide)) (fun w32 => (fo_some fr_refl)))))) (fo_br (fo_bd1 (fo_mono (fr_X1_stopListening _ _ _ _) (by decide)) (fun r27 w28 => (fo_br (fo_some fr_refl) (fo_sqm (fr_pI (by decide)) (fun w29 => (fo_some fr_refl)))))) (fo_bd1 (fo_mono (fr_X6_carry _ _ _ _) (by decide)) (fun r24 w25 => (fo_br (fo_some fr_refl) (fo_sqm (fr_pI (by decide)) (fun w26 => (fo_some fr_refl)))))))))))))
set_option maxRecDepth 100000 in
theorem fr_X2_step (a1 : Nat) (a2 : Nat) (a3 : Int32) (a4 : Int32) (w : Mm) : FrO [11, 12, 13, 14, 15, 16, 17, 18, 19, 22, 23, 24] id (f_X2_step a1 a2 a3 a4 w) w := by
  unfold f_X2_step
  exact (fo_gd (fo_br (fo_bd0 (fo_mono (fr_X2_order _ _ _ _ _) (by decide)) (fun w2 => (fo_some fr_refl))) (fo_br (fo_bd1 (fo_mono (fr_X2_pop _) (by decide)) (fun r3 w4 => (fo_br (fo_bd1 (fo_mono (fr_X2_oneIf _ _) (by decide)) (fun r8 w9 => (fo_bd0 (fo_mono (fr_X2_push _ _) (by decide)) (fun w10 => (fo_some fr_refl))))) (fo_bd1 (fo_mono (fr_X2_oneIf _ _) (by decide)) (fun r5 w6 => (fo_bd0 (fo_mono (fr_X2_push _ _) (by decide)) (fun w7 => (fo_some fr_refl)))))))) (fo_br (fo_bd1 (fo_mono (fr_X1_isInRow _ _ _ _) (by decide)) (fun r11 w12 => (fo_bd1 (fo_mono (fr_X2_oneIf _ _) (by decide)) (fun r13 w14 => (fo_bd0 (fo_mono (fr_X2_push _ _) (by decide)) (fun w15 => (fo_some fr_refl))))))) (fo_br (fo_bd0 (fo_mono (fr_X2_push _ _) (by decide)) (fun w16 => (fo_some fr_refl))) (fo_br (fo_bd0 (fo_mono (fr_X2_push _ _) (by decide)) (fun w17 => (fo_some fr_refl))) (fo_br (fo_bd0 (fo_mono (fr_X2_push _ _) (by decide)) (fun w18 => (fo_some fr_refl))) (fo_br (fo_bd0 (fo_mono (fr_X2_push _ _) (by decide)) (fun w19 => (fo_some fr_refl))) (fo_br (fo_bd1 (fo_mono (fr_X1_heardAt _ _ _) (by decide)) (fun r20 w21 => (fo_bd0 (fo_mono (fr_X2_push _ _) (by decide)) (fun w22 => (fo_some fr_refl))))) (fo_br (fo_bd1 (fo_mono (fr_X1_latestAt _ _ _) (by decide)) (fun r23 w24 => (fo_bd0 (fo_mono (fr_X2_push _ _) (by decide)) (fun w25 => (fo_some fr_refl))))) (fo_br (fo_bd1 (fo_mono (fr_X1_petalsAt _ _ _) (by decide)) (fun r26 w27 => (fo_bd0 (fo_mono (fr_X2_push _ _) (by decide)) (fun w28 => (fo_some fr_refl))))) (fo_br (fo_bd0 (fo_mono (fr_X2_push _ _) (by decide)) (fun w29 => (fo_some fr_refl))) (fo_br (fo_bd1 (fo_mono (fr_X2_pop _) (by decide)) (fun r30 w31 => (fo_bd0 (fo_mono (fr_X2_push _ _) (by decide)) (fun w32 => (fo_some fr_refl))))) (fo_bd0 (fo_mono (fr_X2_join _ _) (by decide)) (fun w33 => (fo_some fr_refl))))))))))))))))
set_option maxRecDepth 100000 in
theorem fr_X2_letDayPass_L7 (z1 : Nat) (z2 : Nat) : ∀ (n : Nat) (u3 : Int32) (w : Mm), FrO [11, 12, 13, 14, 15, 16, 17, 18, 19, 22, 23, 24] id (f_X2_letDayPass_L7 z1 z2 n u3 w) w := by
  intro n
  induction n with
  | zero => intro u3 w; exact fo_none
  | succ n ih =>
    intro u3 w
    rw [f_X2_letDayPass_L7]
    exact (fo_br (fo_some fr_refl) (fo_br (fo_some fr_refl) (fo_gd (fo_gd (fo_gd (fo_bd0 (fo_mono (fr_X2_step _ _ _ _ _) (by decide)) (fun w5 => (fo_sqv (fun x6 => (ih x6 w5))))))))))
set_option maxRecDepth 100000 in
theorem fr_X2_letDayPass (a1 : Nat) (a2 : Nat) (w : Mm) : FrO [11, 12, 13, 14, 15, 16, 17, 18, 19, 22, 23, 24] id (f_X2_letDayPass a1 a2 w) w := by
  unfold f_X2_letDayPass
  exact (fo_sqm (fr_pI (by decide)) (fun w1 => (fo_bd0 (fo_mono (fr_X2_letDayPass_L7 _ _ _ _ _) (by decide)) (fun w7 => (fo_bd0 (fo_mono (fr_X1_endDay _ _) (by decide)) (fun w8 => (fo_some fr_refl)))))))
set_option maxRecDepth 100000 in
theorem fr_X12_passDays_L14 (z2 : Int32) (z1 : Int32) : ∀ (n : Nat) (u3 : Int32) (w : Mm), FrO [11, 12, 13, 14, 15, 16, 17, 18, 19, 22, 23, 24] id (f_X12_passDays_L14 z2 z1 n u3 w) w := by
  intro n
  induction n with
  | zero => intro u3 w; exact fo_none
  | succ n ih =>
    intro u3 w
    rw [f_X12_passDays_L14]
    exact (fo_br (fo_some fr_refl) (fo_gd (fo_sqv (fun p6 => (fo_bd0 (fo_mono (fr_X2_letDayPass _ _ _) (by decide)) (fun w7 => (fo_sqv (fun x8 => (ih x8 w7)))))))))
set_option maxRecDepth 100000 in
theorem fr_X12_passDays (a1 : Int32) (w : Mm) : FrO [11, 12, 13, 14, 15, 16, 17, 18, 19, 22, 23, 24] Prod.snd (f_X12_passDays a1 w) w := by
  unfold f_X12_passDays
  exact (fo_bx (fo_mono (fr_X12_needDays _ _) (by decide)) (fun r1 w2 => (fo_sqv (fun x4 => (fo_bd0 (fo_mono (fr_X12_passDays_L14 _ _ _ _ _) (by decide)) (fun w9 => (fo_some fr_refl)))))))
set_option maxRecDepth 100000 in
theorem fr_X3_copy_L34 (z0 : Nat) (z1 : Nat) : ∀ (n : Nat) (u2 : Int32) (w : Mm), FrO [23] id (f_X3_copy_L34 z0 z1 n u2 w) w := by
  intro n
  induction n with
  | zero => intro u2 w; exact fo_none
  | succ n ih =>
    intro u2 w
    rw [f_X3_copy_L34]
    exact (fo_br (fo_some fr_refl) (fo_br (fo_some fr_refl) (fo_gd (fo_gd (fo_sqm (fr_pI (by decide)) (fun w7 => (fo_sqv (fun x8 => (ih x8 w7)))))))))
set_option maxRecDepth 100000 in
theorem fr_X3_copy (a0 : Nat) (a1 : Nat) (w : Mm) : FrO [22, 23] id (f_X3_copy a0 a1 w) w := by
  unfold f_X3_copy
  exact (fo_sqm (fr_pI (by decide)) (fun w1 => (fo_sqm (fr_pI (by decide)) (fun w2 => (fo_sqm (fr_pI (by decide)) (fun w3 => (fo_sqm (fr_pI (by decide)) (fun w4 => (fo_bd0 (fo_mono (fr_X3_copy_L34 _ _ _ _ _) (by decide)) (fun w9 => (fo_some fr_refl)))))))))))
set_option maxRecDepth 100000 in
theorem fr_X9_copy (a0 : Nat) (a1 : Nat) (w : Mm) : FrO [24] id (f_X9_copy a0 a1 w) w := by
  unfold f_X9_copy
  exact (fo_sqm (fr_pI (by decide)) (fun w1 => (fo_sqm (fr_pI (by decide)) (fun w2 => (fo_sqm (fr_pI (by decide)) (fun w3 => (fo_sqm (fr_pI (by decide)) (fun w4 => (fo_some fr_refl)))))))))
set_option maxRecDepth 100000 in
theorem fr_X1_copy_L18 (z0 : Nat) (z1 : Nat) : ∀ (n : Nat) (u2 : Int32) (w : Mm), FrO [22, 23] id (f_X1_copy_L18 z0 z1 n u2 w) w := by
  intro n
  induction n with
  | zero => intro u2 w; exact fo_none
  | succ n ih =>
    intro u2 w
    rw [f_X1_copy_L18]
    exact (fo_br (fo_some fr_refl) (fo_br (fo_some fr_refl) (fo_gd (fo_gd (fo_bd0 (fo_mono (fr_X3_copy _ _ _) (by decide)) (fun w5 => (fo_sqv (fun x6 => (ih x6 w5)))))))))
set_option maxRecDepth 100000 in
theorem fr_X1_copy_L59 (z0 : Nat) (z1 : Nat) : ∀ (n : Nat) (u2 : Int32) (w : Mm), FrO [24] id (f_X1_copy_L59 z0 z1 n u2 w) w := by
  intro n
  induction n with
  | zero => intro u2 w; exact fo_none
  | succ n ih =>
    intro u2 w
    rw [f_X1_copy_L59]
    exact (fo_br (fo_some fr_refl) (fo_br (fo_some fr_refl) (fo_gd (fo_gd (fo_bd0 (fo_mono (fr_X9_copy _ _ _) (by decide)) (fun w10 => (fo_sqv (fun x11 => (ih x11 w10)))))))))
set_option maxRecDepth 100000 in
theorem fr_X1_copy (a0 : Nat) (a1 : Nat) (w : Mm) : FrO [19, 22, 23, 24] id (f_X1_copy a0 a1 w) w := by
  unfold f_X1_copy
  exact (fo_sqm (fr_pI (by decide)) (fun w1 => (fo_sqm (fr_pI (by decide)) (fun w2 => (fo_bd0 (fo_mono (fr_X1_copy_L18 _ _ _ _ _) (by decide)) (fun w7 => (fo_bd0 (fo_mono (fr_X1_copy_L59 _ _ _ _ _) (by decide)) (fun w12 => (fo_sqm (fr_pI (by decide)) (fun w13 => (fo_sqm (fr_pI (by decide)) (fun w14 => (fo_sqm (fr_pI (by decide)) (fun w15 => (fo_sqm (fr_pI (by decide)) (fun w16 => (fo_sqm (fr_pI (by decide)) (fun w17 => (fo_some fr_refl)))))))))))))))))))
set_option maxRecDepth 100000 in
theorem fr_X12_tryTelling (a1 : Int32) (a2 : Int32) (w : Mm) : FrO [11, 12, 13, 14, 15, 16, 19, 22, 23, 24] id (f_X12_tryTelling a1 a2 w) w := by
  unfold f_X12_tryTelling
  exact (fo_bd0 (fo_mono (fr_X1_copy _ _ _) (by decide)) (fun w1 => (fo_bd1 (fo_mono (fr_X6_carry _ _ _ _) (by decide)) (fun r2 w3 => (fo_some fr_refl)))))
set_option maxRecDepth 100000 in
theorem fr_X6_hedgesReached_L4  : ∀ (n : Nat) (u2 : Int32) (u1 : Int32) (w : Mm), FrO [] Prod.snd (f_X6_hedgesReached_L4  n u2 u1 w) w := by
  intro n
  induction n with
  | zero => intro u2 u1 w; exact fo_none
  | succ n ih =>
    intro u2 u1 w
    rw [f_X6_hedgesReached_L4]
    exact (fo_br (fo_some fr_refl) (fo_gd (fo_br (fo_sqv (fun x2 => (ih x2 u1 w))) (fo_sqv (fun x3 => (fo_sqv (fun x4 => (ih x4 x3 w))))))))
set_option maxRecDepth 100000 in
theorem fr_X6_hedgesReached (w : Mm) : FrO [] Prod.snd (f_X6_hedgesReached w) w := by
  unfold f_X6_hedgesReached
  exact (fo_bd1 (fo_mono (fr_X6_hedgesReached_L4 _ _ _ _) (by decide)) (fun y5 w6 => (fo_some fr_refl)))
set_option maxRecDepth 100000 in
theorem fr_X12_reach (a1 : Int32) (a2 : Int32) (w : Mm) : FrO [11, 12, 13, 14, 15, 16, 19, 22, 23, 24] Prod.snd (f_X12_reach a1 a2 w) w := by
  unfold f_X12_reach
  exact (fo_bx (fo_mono (fr_X12_hedgeNumbered _ _) (by decide)) (fun r1 w2 => (fo_bx (fo_mono (fr_X12_needLoudness _ _) (by decide)) (fun r4 w5 => (fo_bd0 (fo_mono (fr_X12_tryTelling _ _ _) (by decide)) (fun w7 => (fo_bd1 (fo_mono (fr_X6_hedgesReached _) (by decide)) (fun r8 w9 => (fo_some fr_refl)))))))))
set_option maxRecDepth 100000 in
theorem fr_X6_firstLoudnessAt (a1 : Int32) (w : Mm) : FrO [] Prod.snd (f_X6_firstLoudnessAt a1 w) w := by
  unfold f_X6_firstLoudnessAt
  exact (fo_br (fo_some fr_refl) (fo_br (fo_gd (fo_some fr_refl)) (fo_some fr_refl)))
set_option maxRecDepth 100000 in
theorem fr_X12_loudnessAt (a1 : Int32) (a2 : Int32) (w : Mm) : FrO [11, 12, 13, 14, 15, 16, 19, 22, 23, 24] Prod.snd (f_X12_loudnessAt a1 a2 w) w := by
  unfold f_X12_loudnessAt
  exact (fo_bx (fo_mono (fr_X12_hedgeNumbered _ _) (by decide)) (fun r1 w2 => (fo_bx (fo_mono (fr_X12_hedgeNumbered _ _) (by decide)) (fun r4 w5 => (fo_bd0 (fo_mono (fr_X12_tryTelling _ _ _) (by decide)) (fun w7 => (fo_bd1 (fo_mono (fr_X6_firstLoudnessAt _ _) (by decide)) (fun r8 w9 => (fo_some fr_refl)))))))))
set_option maxRecDepth 100000 in
theorem fr_X6_cameAgainTo (a1 : Int32) (w : Mm) : FrO [] Prod.snd (f_X6_cameAgainTo a1 w) w := by
  unfold f_X6_cameAgainTo
  exact (fo_br (fo_some fr_refl) (fo_br (fo_some fr_refl) (fo_gd (fo_br (fo_some fr_refl) (fo_some fr_refl)))))
set_option maxRecDepth 100000 in
theorem fr_X12_comesBack (a1 : Int32) (w : Mm) : FrO [11, 12, 13, 14, 15, 16, 19, 22, 23, 24] Prod.snd (f_X12_comesBack a1 w) w := by
  unfold f_X12_comesBack
  exact (fo_bx (fo_mono (fr_X12_hedgeNumbered _ _) (by decide)) (fun r1 w2 => (fo_bd0 (fo_mono (fr_X12_tryTelling _ _ _) (by decide)) (fun w4 => (fo_bd1 (fo_mono (fr_X6_cameAgainTo _ _) (by decide)) (fun r5 w6 => (fo_gd (fo_some fr_refl))))))))
set_option maxRecDepth 100000 in
theorem fr_X12_petalsAfter_L23 (z1 : Int32) (z2 : Int32) : ∀ (n : Nat) (u3 : Int32) (w : Mm), FrO [11, 12, 13, 14, 15, 16, 17, 18, 19, 22, 23, 24] id (f_X12_petalsAfter_L23 z1 z2 n u3 w) w := by
  intro n
  induction n with
  | zero => intro u3 w; exact fo_none
  | succ n ih =>
    intro u3 w
    rw [f_X12_petalsAfter_L23]
    exact (fo_br (fo_some fr_refl) (fo_gd (fo_sqv (fun p9 => (fo_bd0 (fo_mono (fr_X2_letDayPass _ _ _) (by decide)) (fun w10 => (fo_sqv (fun x11 => (ih x11 w10)))))))))
set_option maxRecDepth 100000 in
theorem fr_X12_petalsAfter (a1 : Int32) (a2 : Int32) (w : Mm) : FrO [11, 12, 13, 14, 15, 16, 17, 18, 19, 22, 23, 24] Prod.snd (f_X12_petalsAfter a1 a2 w) w := by
  unfold f_X12_petalsAfter
  exact (fo_bx (fo_mono (fr_X12_roseNumbered _ _) (by decide)) (fun r1 w2 => (fo_bx (fo_mono (fr_X12_needDays _ _) (by decide)) (fun r4 w5 => (fo_bd0 (fo_mono (fr_X1_copy _ _ _) (by decide)) (fun w7 => (fo_bd0 (fo_mono (fr_X12_petalsAfter_L23 _ _ _ _ _) (by decide)) (fun w12 => (fo_bd1 (fo_mono (fr_X1_petalsAt _ _ _) (by decide)) (fun r13 w14 => (fo_some fr_refl)))))))))))
set_option maxRecDepth 100000 in
theorem fr_X1_departuresAt (a0 : Nat) (a1 : Int32) (w : Mm) : FrO [] Prod.snd (f_X1_departuresAt a0 a1 w) w := by
  unfold f_X1_departuresAt
  exact (fo_bd1 (fo_mono (fr_X1_rose _ _ _) (by decide)) (fun r1 w2 => (fo_on (fo_some fr_refl) (fun k3 => (fo_gd (fo_some fr_refl))))))
set_option maxRecDepth 100000 in
theorem fr_X12_daysUntilLeft_L22 (z2 : Int32) (z1 : Int32) : ∀ (n : Nat) (u3 : Int32) (w : Mm), FrO [11, 12, 13, 14, 15, 16, 17, 18, 19, 22, 23, 24] (fun r => r.2.2) (f_X12_daysUntilLeft_L22 z2 z1 n u3 w) w := by
  intro n
  induction n with
  | zero => intro u3 w; exact fo_none
  | succ n ih =>
    intro u3 w
    rw [f_X12_daysUntilLeft_L22]
    exact (fo_br (fo_some fr_refl) (fo_gd (fo_sqv (fun p9 => (fo_bd0 (fo_mono (fr_X2_letDayPass _ _ _) (by decide)) (fun w10 => (fo_bd1 (fo_mono (fr_X1_departuresAt _ _ _) (by decide)) (fun r11 w12 => (fo_br (fo_sqv (fun x13 => (ih x13 w12))) (fo_some fr_refl))))))))))
set_option maxRecDepth 100000 in
theorem fr_X12_daysUntilLeft (a1 : Int32) (w : Mm) : FrO [11, 12, 13, 14, 15, 16, 17, 18, 19, 22, 23, 24] Prod.snd (f_X12_daysUntilLeft a1 w) w := by
  unfold f_X12_daysUntilLeft
  exact (fo_bx (fo_mono (fr_X12_roseNumbered _ _) (by decide)) (fun r1 w2 => (fo_on fo_none (fun k4 => (fo_gd (fo_sqv (fun x6 => (fo_bd0 (fo_mono (fr_X1_copy _ _ _) (by decide)) (fun w7 => (fo_bd2 (fo_mono (fr_X12_daysUntilLeft_L22 _ _ _ _ _) (by decide)) (fun t16 y14 w15 => (fo_br (fo_some fr_refl) (fo_some fr_refl)))))))))))))
set_option maxRecDepth 100000 in
theorem fr_X1_petalsInAll_L4 (z0 : Nat) : ∀ (n : Nat) (u3 : Int32) (u1 : Int64) (w : Mm), FrO [] Prod.snd (f_X1_petalsInAll_L4 z0 n u3 u1 w) w := by
  intro n
  induction n with
  | zero => intro u3 u1 w; exact fo_none
  | succ n ih =>
    intro u3 u1 w
    rw [f_X1_petalsInAll_L4]
    exact (fo_br (fo_some fr_refl) (fo_bd1 (fo_mono (fr_X1_petalsAt _ _ _) (by decide)) (fun r1 w2 => (fo_sqv (fun x3 => (fo_sqv (fun x4 => (ih x4 x3 w2))))))))
set_option maxRecDepth 100000 in
theorem fr_X1_petalsInAll (a0 : Nat) (w : Mm) : FrO [] Prod.snd (f_X1_petalsInAll a0 w) w := by
  unfold f_X1_petalsInAll
  exact (fo_bd1 (fo_mono (fr_X1_petalsInAll_L4 _ _ _ _ _) (by decide)) (fun y5 w6 => (fo_some fr_refl)))
set_option maxRecDepth 100000 in
theorem fr_X12_bestToTell_L13 (z1 : Int32) : ∀ (n : Nat) (u5 : Int32) (u3 : Int64) (u2 : Int32) (w : Mm), FrO [11, 12, 13, 14, 15, 16, 19, 22, 23, 24] Prod.snd (f_X12_bestToTell_L13 z1 n u5 u3 u2 w) w := by
  intro n
  induction n with
  | zero => intro u5 u3 u2 w; exact fo_none
  | succ n ih =>
    intro u5 u3 u2 w
    rw [f_X12_bestToTell_L13]
    exact (fo_br (fo_some fr_refl) (fo_bd0 (fo_mono (fr_X12_tryTelling _ _ _) (by decide)) (fun w4 => (fo_bd1 (fo_mono (fr_X1_petalsInAll _ _) (by decide)) (fun r5 w6 => (fo_br (fo_sqv (fun x7 => (ih x7 u3 u2 w6))) (fo_sqv (fun x8 => (ih x8 r5 u5 w6)))))))))
set_option maxRecDepth 100000 in
theorem fr_X12_bestToTell (a1 : Int32) (w : Mm) : FrO [11, 12, 13, 14, 15, 16, 19, 22, 23, 24] Prod.snd (f_X12_bestToTell a1 w) w := by
  unfold f_X12_bestToTell
  exact (fo_bx (fo_mono (fr_X12_needLoudness _ _) (by decide)) (fun r1 w2 => (fo_bd1 (fo_mono (fr_X12_bestToTell_L13 _ _ _ _ _ _) (by decide)) (fun y9 w10 => (fo_some fr_refl)))))
set_option maxRecDepth 100000 in
theorem fr_X12_meanPetals (w : Mm) : FrO [] Prod.snd (f_X12_meanPetals w) w := by
  unfold f_X12_meanPetals
  exact (fo_br (fo_some fr_refl) (fo_bd1 (fo_mono (fr_X1_petalsInAll _ _) (by decide)) (fun r1 w2 => (fo_gd (fo_some fr_refl)))))
set_option maxRecDepth 100000 in
theorem fr_X12_digested (a0 : Int64) (a2 : Int32) (w : Mm) : FrO [] Prod.snd (f_X12_digested a0 a2 w) w := by
  unfold f_X12_digested
  exact (fo_some fr_refl)
set_option maxRecDepth 100000 in
theorem fr_X12_digestedHedge_L38 (z3 : Int32) : ∀ (n : Nat) (u6 : Int32) (u4 : Int64) (w : Mm), FrO [] Prod.snd (f_X12_digestedHedge_L38 z3 n u6 u4 w) w := by
  intro n
  induction n with
  | zero => intro u6 u4 w; exact fo_none
  | succ n ih =>
    intro u6 u4 w
    rw [f_X12_digestedHedge_L38]
    exact (fo_br (fo_some fr_refl) (fo_bn (fo_mono (fr_X12_hedgeInRow _ _ _) (by decide)) (fun r16 w17 => (fo_bd1 (fo_mono (fr_X12_digested _ _ _) (by decide)) (fun r19 w20 => (fo_sqv (fun x21 => (ih x21 r19 w20))))))))
set_option maxRecDepth 100000 in
theorem fr_X12_digestedHedge_L73 (z3 : Int32) : ∀ (n : Nat) (u6 : Int32) (u4 : Int64) (w : Mm), FrO [] Prod.snd (f_X12_digestedHedge_L73 z3 n u6 u4 w) w := by
  intro n
  induction n with
  | zero => intro u6 u4 w; exact fo_none
  | succ n ih =>
    intro u6 u4 w
    rw [f_X12_digestedHedge_L73]
    exact (fo_br (fo_some fr_refl) (fo_bn (fo_mono (fr_X12_roseInRow _ _ _) (by decide)) (fun r24 w25 => (fo_bd1 (fo_mono (fr_X12_digested _ _ _) (by decide)) (fun r27 w28 => (fo_sqv (fun x29 => (ih x29 r27 w28))))))))
set_option maxRecDepth 100000 in
theorem fr_X12_digestedHedge (a1 : Int64) (a3 : Int32) (w : Mm) : FrO [] Prod.snd (f_X12_digestedHedge a1 a3 w) w := by
  unfold f_X12_digestedHedge
  exact (fo_bn (fo_mono (fr_X12_heardBy _ _) (by decide)) (fun r1 w2 => (fo_bd1 (fo_mono (fr_X12_digested _ _ _) (by decide)) (fun r4 w5 => (fo_bn (fo_mono (fr_X12_latestOf _ _) (by decide)) (fun r6 w7 => (fo_bd1 (fo_mono (fr_X12_digested _ _ _) (by decide)) (fun r9 w10 => (fo_bn (fo_mono (fr_X12_listenersOf _ _) (by decide)) (fun r11 w12 => (fo_bd1 (fo_mono (fr_X12_digested _ _ _) (by decide)) (fun r14 w15 => (fo_bd1 (fo_mono (fr_X12_digestedHedge_L38 _ _ _ _ _) (by decide)) (fun y22 w23 => (fo_bd1 (fo_mono (fr_X12_digestedHedge_L73 _ _ _ _ _) (by decide)) (fun y30 w31 => (fo_some fr_refl)))))))))))))))))
set_option maxRecDepth 100000 in
theorem fr_X12_digest_L113  : ∀ (n : Nat) (u3 : Int32) (u1 : Int64) (w : Mm), FrO [] Prod.snd (f_X12_digest_L113  n u3 u1 w) w := by
  intro n
  induction n with
  | zero => intro u3 u1 w; exact fo_none
  | succ n ih =>
    intro u3 u1 w
    rw [f_X12_digest_L113]
    exact (fo_br (fo_some fr_refl) (fo_bd1 (fo_mono (fr_X12_digestedHedge _ _ _) (by decide)) (fun r24 w25 => (fo_sqv (fun x26 => (ih x26 r24 w25))))))
set_option maxRecDepth 100000 in
theorem fr_X12_digest_L139  : ∀ (n : Nat) (u3 : Int32) (u1 : Int64) (w : Mm), FrO [] Prod.snd (f_X12_digest_L139  n u3 u1 w) w := by
  intro n
  induction n with
  | zero => intro u3 u1 w; exact fo_none
  | succ n ih =>
    intro u3 u1 w
    rw [f_X12_digest_L139]
    exact (fo_br (fo_some fr_refl) (fo_bn (fo_mono (fr_X12_petalsOf _ _) (by decide)) (fun r29 w30 => (fo_bd1 (fo_mono (fr_X12_digested _ _ _) (by decide)) (fun r32 w33 => (fo_bn (fo_mono (fr_X12_countOf _ _) (by decide)) (fun r34 w35 => (fo_bd1 (fo_mono (fr_X12_digested _ _ _) (by decide)) (fun r37 w38 => (fo_bn (fo_mono (fr_X12_hedgesOf _ _) (by decide)) (fun r39 w40 => (fo_bd1 (fo_mono (fr_X12_digested _ _ _) (by decide)) (fun r42 w43 => (fo_sqv (fun x44 => (ih x44 r42 w43))))))))))))))))
set_option maxRecDepth 100000 in
theorem fr_X12_digest (w : Mm) : FrO [11, 12, 13, 14, 15, 16, 19, 22, 23, 24] Prod.snd (f_X12_digest w) w := by
  unfold f_X12_digest
  exact (fo_bd1 (fo_mono (fr_X12_digested _ _ _) (by decide)) (fun r1 w2 => (fo_bd1 (fo_mono (fr_X12_digested _ _ _) (by decide)) (fun r3 w4 => (fo_bd1 (fo_mono (fr_X12_digested _ _ _) (by decide)) (fun r5 w6 => (fo_bd1 (fo_mono (fr_X12_digested _ _ _) (by decide)) (fun r7 w8 => (fo_bd1 (fo_mono (fr_X12_digested _ _ _) (by decide)) (fun r9 w10 => (fo_bd1 (fo_mono (fr_X12_digested _ _ _) (by decide)) (fun r11 w12 => (fo_bd1 (fo_mono (fr_X12_digested _ _ _) (by decide)) (fun r13 w14 => (fo_bd1 (fo_mono (fr_X1_fullestRose _ _) (by decide)) (fun r15 w16 => (fo_bd1 (fo_mono (fr_X12_digested _ _ _) (by decide)) (fun r17 w18 => (fo_bn (fo_mono (fr_X12_bestToTell _ _) (by decide)) (fun r19 w20 => (fo_bd1 (fo_mono (fr_X12_digested _ _ _) (by decide)) (fun r22 w23 => (fo_bd1 (fo_mono (fr_X12_digest_L113 _ _ _ _) (by decide)) (fun y27 w28 => (fo_bd1 (fo_mono (fr_X12_digest_L139 _ _ _ _) (by decide)) (fun y45 w46 => (fo_some fr_refl)))))))))))))))))))))))))))
set_option maxRecDepth 100000 in
theorem fr_X15_thrown (w : Mm) : FrO [] Prod.snd (f_X15_thrown w) w := by
  unfold f_X15_thrown
  exact (fo_some fr_refl)
set_option maxRecDepth 100000 in
theorem fr_X15_no (a1 : Int32) (w : Mm) : FrO [32] Prod.snd (f_X15_no a1 w) w := by
  unfold f_X15_no
  exact (fo_sqm (fr_pI (by decide)) (fun w1 => (fo_some fr_refl)))
set_option maxRecDepth 100000 in
theorem fr_X15_isNot (a1 : Int32) (w : Mm) : FrO [32] Prod.snd (f_X15_isNot a1 w) w := by
  unfold f_X15_isNot
  exact (fo_sqm (fr_pI (by decide)) (fun w1 => (fo_some fr_refl)))
set_option maxRecDepth 100000 in
theorem fr_X15_ok (a1 : Int32) (w : Mm) : FrO [32] Prod.snd (f_X15_ok a1 w) w := by
  unfold f_X15_ok
  exact (fo_sqm (fr_pI (by decide)) (fun w1 => (fo_some fr_refl)))
set_option maxRecDepth 100000 in
theorem fr_X15_isIn (a0 : Int32) (a1 : Int32) (a2 : Int32) (w : Mm) : FrO [] Prod.snd (f_X15_isIn a0 a1 a2 w) w := by
  unfold f_X15_isIn
  exact (fo_br (fo_some fr_refl) (fo_br (fo_some fr_refl) (fo_some fr_refl)))
set_option maxRecDepth 100000 in
theorem fr_X15_isHedge (a1 : Int32) (w : Mm) : FrO [] Prod.snd (f_X15_isHedge a1 w) w := by
  unfold f_X15_isHedge
  exact (fo_gd (fo_sqv (fun p2 => (fo_gd (fo_bd1 (fo_mono (fr_X15_isIn _ _ _ _) (by decide)) (fun r4 w5 => (fo_gd (fo_some fr_refl))))))))
set_option maxRecDepth 100000 in
theorem fr_X15_isRose (a1 : Int32) (w : Mm) : FrO [] Prod.snd (f_X15_isRose a1 w) w := by
  unfold f_X15_isRose
  exact (fo_gd (fo_sqv (fun p2 => (fo_gd (fo_bd1 (fo_mono (fr_X15_isIn _ _ _ _) (by decide)) (fun r4 w5 => (fo_gd (fo_some fr_refl))))))))
set_option maxRecDepth 100000 in
theorem fr_X14_become (b : Nat) (a0 : Nat) (a1 : Nat) (w : Mm) : FrO [55, 56, 57, 58, 59, 60, 61, 62] Prod.snd (f_X14_become b a0 a1 w) w := by
  unfold f_X14_become
  exact (fo_gd (fo_sqm (fr_pI (by decide)) (fun w2 => (fo_gd (fo_sqm (fr_pI (by decide)) (fun w4 => (fo_gd (fo_sqm (fr_pI (by decide)) (fun w6 => (fo_gd (fo_sqm (fr_pI (by decide)) (fun w8 => (fo_gd (fo_gd (fo_sqm (fr_pCp (by decide)) (fun w11 => (fo_gd (fo_gd (fo_sqm (fr_pCp (by decide)) (fun w14 => (fo_gd (fo_gd (fo_sqm (fr_pCp (by decide)) (fun w17 => (fo_gd (fo_gd (fo_sqm (fr_pCp (by decide)) (fun w20 => (fo_gd (fo_gd (fo_sqm (fr_pCp (by decide)) (fun w23 => (fo_gd (fo_gd (fo_sqm (fr_pCp (by decide)) (fun w26 => (fo_gd (fo_gd (fo_sqm (fr_pCp (by decide)) (fun w29 => (fo_some fr_refl)))))))))))))))))))))))))))))))))))))))))
set_option maxRecDepth 100000 in
theorem fr_X15_ahead (b : Nat) (w : Mm) : FrO [55, 56, 57, 58, 59, 60, 61, 62] Prod.snd (f_X15_ahead b w) w := by
  unfold f_X15_ahead
  exact (fo_bd1 (fo_mono (fr_X14_become _ _ _ _) (by decide)) (fun r1 w2 => (fo_some fr_refl)))
set_option maxRecDepth 100000 in
theorem fr_X15_both (a0 : Int32) (a1 : Int32) (a2 : Int32) (w : Mm) : FrO [] Prod.snd (f_X15_both a0 a1 a2 w) w := by
  unfold f_X15_both
  exact (fo_br (fo_some fr_refl) (fo_br (fo_some fr_refl) (fo_br (fo_some fr_refl) (fo_br (fo_some fr_refl) (fo_br (fo_some fr_refl) (fo_br (fo_some fr_refl) (fo_br (fo_br (fo_some fr_refl) (fo_gd (fo_some fr_refl))) (fo_br (fo_br (fo_some fr_refl) (fo_some fr_refl)) (fo_br (fo_br (fo_some fr_refl) (fo_some fr_refl)) (fo_br (fo_br (fo_some fr_refl) (fo_some fr_refl)) (fo_br (fo_br (fo_some fr_refl) (fo_some fr_refl)) (fo_br (fo_br (fo_some fr_refl) (fo_some fr_refl)) (fo_some fr_refl)))))))))))))
set_option maxRecDepth 100000 in
theorem fr_X15_isLetter (a0 : Int32) (w : Mm) : FrO [] Prod.snd (f_X15_isLetter a0 w) w := by
  unfold f_X15_isLetter
  exact (fo_br (fo_some fr_refl) (fo_br (fo_some fr_refl) (fo_some fr_refl)))
set_option maxRecDepth 100000 in
theorem fr_X15_isDigit (a0 : Int32) (w : Mm) : FrO [] Prod.snd (f_X15_isDigit a0 w) w := by
  unfold f_X15_isDigit
  exact (fo_br (fo_some fr_refl) (fo_br (fo_some fr_refl) (fo_some fr_refl)))
set_option maxRecDepth 100000 in
theorem fr_X15_byteOf (a1 : Int32) (w : Mm) : FrO [] Prod.snd (f_X15_byteOf a1 w) w := by
  unfold f_X15_byteOf
  exact (fo_br (fo_some fr_refl) (fo_gd (fo_some fr_refl)))
set_option maxRecDepth 100000 in
theorem fr_J0_isLatin1_aae02 (a0 : Nat) (w : Mm) : FrO [] Prod.snd (f_J0_isLatin1_aae02 a0 w) w := by
  unfold f_J0_isLatin1_aae02
  exact (fo_br (fo_some fr_refl) (fo_br (fo_some fr_refl) (fo_some fr_refl)))
set_option maxRecDepth 100000 in
theorem fr_J3_checkIndex_8e157 (a0 : Int32) (a1 : Int32) (w : Mm) : FrO [] Prod.snd (f_J3_checkIndex_8e157 a0 a1 w) w := by
  unfold f_J3_checkIndex_8e157
  exact (fo_br fo_none (fo_br (fo_some fr_refl) fo_none))
set_option maxRecDepth 100000 in
theorem fr_J0_checkIndex_df160 (a0 : Int32) (a1 : Int32) (w : Mm) : FrO [] id (f_J0_checkIndex_df160 a0 a1 w) w := by
  unfold f_J0_checkIndex_df160
  exact (fo_bd1 (fo_mono (fr_J3_checkIndex_8e157 _ _ _) (by decide)) (fun r2 w3 => (fo_some fr_refl)))
set_option maxRecDepth 100000 in
theorem fr_J1_charAt_3b067 (a0 : Nat) (a1 : Int32) (w : Mm) : FrO [] Prod.snd (f_J1_charAt_3b067 a0 a1 w) w := by
  unfold f_J1_charAt_3b067
  exact (fo_bd0 (fo_mono (fr_J0_checkIndex_df160 _ _ _) (by decide)) (fun w1 => (fo_gd (fo_gd (fo_some fr_refl)))))
set_option maxRecDepth 100000 in
theorem fr_J0_charAt_5068e (a0 : Nat) (a1 : Int32) (w : Mm) : FrO [] Prod.snd (f_J0_charAt_5068e a0 a1 w) w := by
  unfold f_J0_charAt_5068e
  exact (fo_bd1 (fo_mono (fr_J0_isLatin1_aae02 _ _) (by decide)) (fun r1 w2 => (fo_br fo_none (fo_bd1 (fo_mono (fr_J1_charAt_3b067 _ _ _) (by decide)) (fun r3 w4 => (fo_gd (fo_some fr_refl)))))))
set_option maxRecDepth 100000 in
theorem fr_J0_coder_7d493 (a0 : Nat) (w : Mm) : FrO [] Prod.snd (f_J0_coder_7d493 a0 w) w := by
  unfold f_J0_coder_7d493
  exact (fo_br (fo_some fr_refl) (fo_some fr_refl))
set_option maxRecDepth 100000 in
theorem fr_J0_length_8abf5 (a0 : Nat) (w : Mm) : FrO [] Prod.snd (f_J0_length_8abf5 a0 w) w := by
  unfold f_J0_length_8abf5
  exact (fo_bd1 (fo_mono (fr_J0_coder_7d493 _ _) (by decide)) (fun r1 w2 => (fo_some fr_refl)))
set_option maxRecDepth 100000 in
theorem fr_X15_word_L32 (z1 : Int32) (z2 : Int32) (z3 : Int32) : ∀ (n : Nat) (u5 : Int32) (u4 : Int32) (w : Mm), FrO [] Prod.snd (f_X15_word_L32 z1 z2 z3 n u5 u4 w) w := by
  intro n
  induction n with
  | zero => intro u5 u4 w; exact fo_none
  | succ n ih =>
    intro u5 u4 w
    rw [f_X15_word_L32]
    exact (fo_br (fo_some fr_refl) (fo_br (fo_some fr_refl) (fo_gd (fo_bd1 (fo_mono (fr_J0_charAt_5068e _ _ _) (by decide)) (fun r5 w6 => (fo_gd (fo_br (fo_sqv (fun x9 => (ih x9 1 w6))) (fo_sqv (fun x8 => (ih x8 0 w6))))))))))
set_option maxRecDepth 100000 in
theorem fr_X15_word_L2 (z1 : Int32) (z2 : Int32) : ∀ (n : Nat) (u3 : Int32) (w : Mm), FrO [] (fun r => r.2.2) (f_X15_word_L2 z1 z2 n u3 w) w := by
  intro n
  induction n with
  | zero => intro u3 w; exact fo_none
  | succ n ih =>
    intro u3 w
    rw [f_X15_word_L2]
    exact (fo_br (fo_some fr_refl) (fo_gd (fo_bd1 (fo_mono (fr_J0_length_8abf5 _ _) (by decide)) (fun r2 w3 => (fo_br (fo_bd1 (fo_mono (fr_X15_word_L32 _ _ _ _ _ _ _) (by decide)) (fun y13 w14 => (fo_br (fo_sqv (fun x15 => (ih x15 w14))) (fo_some fr_refl)))) (fo_bd1 (fo_mono (fr_X15_word_L32 _ _ _ _ _ _ _) (by decide)) (fun y10 w11 => (fo_br (fo_sqv (fun x12 => (ih x12 w11))) (fo_some fr_refl)))))))))
set_option maxRecDepth 100000 in
theorem fr_X15_word (a1 : Int32) (a2 : Int32) (w : Mm) : FrO [] Prod.snd (f_X15_word a1 a2 w) w := by
  unfold f_X15_word
  exact (fo_bd2 (fo_mono (fr_X15_word_L2 _ _ _ _ _) (by decide)) (fun t18 y16 w17 => (fo_br (fo_some fr_refl) (fo_some fr_refl))))
set_option maxRecDepth 100000 in
theorem fr_J1_canEncode_9a6ad (a0 : Int32) (w : Mm) : FrO [] Prod.snd (f_J1_canEncode_9a6ad a0 w) w := by
  unfold f_J1_canEncode_9a6ad
  exact (fo_br (fo_some fr_refl) (fo_br (fo_some fr_refl) (fo_some fr_refl)))
set_option maxRecDepth 100000 in
theorem fr_J1_indexOfChar_4cfef_L7 (z4 : Int32) (z0 : Nat) (z3 : Int32) : ∀ (n : Nat) (u5 : Int32) (w : Mm), FrO [] (fun r => r.2.2) (f_J1_indexOfChar_4cfef_L7 z4 z0 z3 n u5 w) w := by
  intro n
  induction n with
  | zero => intro u5 w; exact fo_none
  | succ n ih =>
    intro u5 w
    rw [f_J1_indexOfChar_4cfef_L7]
    exact (fo_br (fo_some fr_refl) (fo_gd (fo_br (fo_some fr_refl) (fo_sqv (fun x2 => (ih x2 w))))))
set_option maxRecDepth 100000 in
theorem fr_J1_indexOfChar_4cfef (a0 : Nat) (a1 : Int32) (a2 : Int32) (a3 : Int32) (w : Mm) : FrO [] Prod.snd (f_J1_indexOfChar_4cfef a0 a1 a2 a3 w) w := by
  unfold f_J1_indexOfChar_4cfef
  exact (fo_bd2 (fo_mono (fr_J1_indexOfChar_4cfef_L7 _ _ _ _ _ _) (by decide)) (fun t5 y3 w4 => (fo_br (fo_some fr_refl) (fo_some fr_refl))))
set_option maxRecDepth 100000 in
theorem fr_J1_indexOf_4cfef (a0 : Nat) (a1 : Int32) (a2 : Int32) (a3 : Int32) (w : Mm) : FrO [] Prod.snd (f_J1_indexOf_4cfef a0 a1 a2 a3 w) w := by
  unfold f_J1_indexOf_4cfef
  exact (fo_bd1 (fo_mono (fr_J1_canEncode_9a6ad _ _) (by decide)) (fun r1 w2 => (fo_br (fo_some fr_refl) (fo_sqv (fun x3 => (fo_sqv (fun x4 => (fo_br (fo_bd1 (fo_mono (fr_J1_indexOfChar_4cfef _ _ _ _ _) (by decide)) (fun r5 w6 => (fo_some fr_refl))) (fo_some fr_refl)))))))))
set_option maxRecDepth 100000 in
theorem fr_J0_indexOf_7cf53 (a0 : Nat) (a1 : Int32) (a2 : Int32) (w : Mm) : FrO [] Prod.snd (f_J0_indexOf_7cf53 a0 a1 a2 w) w := by
  unfold f_J0_indexOf_7cf53
  exact (fo_bd1 (fo_mono (fr_J0_isLatin1_aae02 _ _) (by decide)) (fun r1 w2 => (fo_br (fo_bd1 (fo_mono (fr_J0_length_8abf5 _ _) (by decide)) (fun r3 w4 => fo_none)) (fo_bd1 (fo_mono (fr_J0_length_8abf5 _ _) (by decide)) (fun r5 w6 => (fo_bd1 (fo_mono (fr_J1_indexOf_4cfef _ _ _ _ _) (by decide)) (fun r7 w8 => (fo_some fr_refl))))))))
set_option maxRecDepth 100000 in
theorem fr_J0_indexOf_0f7a4 (a0 : Nat) (a1 : Int32) (w : Mm) : FrO [] Prod.snd (f_J0_indexOf_0f7a4 a0 a1 w) w := by
  unfold f_J0_indexOf_0f7a4
  exact (fo_bd1 (fo_mono (fr_J0_indexOf_7cf53 _ _ _ _) (by decide)) (fun r1 w2 => (fo_some fr_refl)))
set_option maxRecDepth 100000 in
theorem fr_X15_kindAt_L34 (z3 : Int32) (z1 : Int32) (z2 : Int32) : ∀ (n : Nat) (u4 : Int32) (w : Mm), FrO [] Prod.snd (f_X15_kindAt_L34 z3 z1 z2 n u4 w) w := by
  intro n
  induction n with
  | zero => intro u4 w; exact fo_none
  | succ n ih =>
    intro u4 w
    rw [f_X15_kindAt_L34]
    exact (fo_bd1 (fo_mono (fr_X15_byteOf _ _) (by decide)) (fun r6 w7 => (fo_bd1 (fo_mono (fr_X15_isDigit _ _) (by decide)) (fun r8 w9 => (fo_br (fo_bd1 (fo_mono (fr_X15_isLetter _ _) (by decide)) (fun r11 w12 => (fo_br (fo_some fr_refl) (fo_bd1 (fo_mono (fr_X15_byteOf _ _) (by decide)) (fun r13 w14 => (fo_bd1 (fo_mono (fr_X15_isLetter _ _) (by decide)) (fun r15 w16 => (fo_br (fo_some fr_refl) (fo_sqv (fun x17 => (ih x17 w16))))))))))) (fo_sqv (fun x10 => (ih x10 w9))))))))
set_option maxRecDepth 100000 in
theorem fr_X15_kindAt (a1 : Int32) (a2 : Int32) (w : Mm) : FrO [36] Prod.snd (f_X15_kindAt a1 a2 w) w := by
  unfold f_X15_kindAt
  exact (fo_bd1 (fo_mono (fr_X15_byteOf _ _) (by decide)) (fun r1 w2 => (fo_sqv (fun x3 => (fo_br (fo_some fr_refl) (fo_bd1 (fo_mono (fr_X15_isLetter _ _) (by decide)) (fun r4 w5 => (fo_br (fo_bd1 (fo_mono (fr_X15_isDigit _ _) (by decide)) (fun r32 w33 => (fo_br (fo_br (fo_bd1 (fo_mono (fr_X15_byteOf _ _) (by decide)) (fun r34 w35 => (fo_br (fo_br (fo_gd (fo_sqm (fr_pI (by decide)) (fun w45 => (fo_br (fo_br (fo_some fr_refl) (fo_br (fo_some fr_refl) (fo_bd1 (fo_mono (fr_J0_indexOf_0f7a4 _ _ _) (by decide)) (fun r46 w47 => (fo_br (fo_some fr_refl) (fo_some fr_refl)))))) (fo_br (fo_some fr_refl) (fo_some fr_refl)))))) (fo_gd (fo_sqm (fr_pI (by decide)) (fun w49 => (fo_br (fo_br (fo_some fr_refl) (fo_br (fo_some fr_refl) (fo_bd1 (fo_mono (fr_J0_indexOf_0f7a4 _ _ _) (by decide)) (fun r50 w51 => (fo_br (fo_some fr_refl) (fo_some fr_refl)))))) (fo_br (fo_some fr_refl) (fo_some fr_refl))))))) (fo_br (fo_gd (fo_sqm (fr_pI (by decide)) (fun w37 => (fo_br (fo_br (fo_some fr_refl) (fo_br (fo_some fr_refl) (fo_bd1 (fo_mono (fr_J0_indexOf_0f7a4 _ _ _) (by decide)) (fun r38 w39 => (fo_br (fo_some fr_refl) (fo_some fr_refl)))))) (fo_br (fo_some fr_refl) (fo_some fr_refl)))))) (fo_gd (fo_sqm (fr_pI (by decide)) (fun w41 => (fo_br (fo_br (fo_some fr_refl) (fo_br (fo_some fr_refl) (fo_bd1 (fo_mono (fr_J0_indexOf_0f7a4 _ _ _) (by decide)) (fun r42 w43 => (fo_br (fo_some fr_refl) (fo_some fr_refl)))))) (fo_br (fo_some fr_refl) (fo_some fr_refl)))))))))) (fo_br (fo_bd1 (fo_mono (fr_X15_byteOf _ _) (by decide)) (fun r60 w61 => (fo_br (fo_br (fo_gd (fo_sqm (fr_pI (by decide)) (fun w71 => (fo_br (fo_br (fo_some fr_refl) (fo_br (fo_some fr_refl) (fo_bd1 (fo_mono (fr_J0_indexOf_0f7a4 _ _ _) (by decide)) (fun r72 w73 => (fo_br (fo_some fr_refl) (fo_some fr_refl)))))) (fo_br (fo_some fr_refl) (fo_some fr_refl)))))) (fo_gd (fo_sqm (fr_pI (by decide)) (fun w75 => (fo_br (fo_br (fo_some fr_refl) (fo_br (fo_some fr_refl) (fo_bd1 (fo_mono (fr_J0_indexOf_0f7a4 _ _ _) (by decide)) (fun r76 w77 => (fo_br (fo_some fr_refl) (fo_some fr_refl)))))) (fo_br (fo_some fr_refl) (fo_some fr_refl))))))) (fo_br (fo_gd (fo_sqm (fr_pI (by decide)) (fun w63 => (fo_br (fo_br (fo_some fr_refl) (fo_br (fo_some fr_refl) (fo_bd1 (fo_mono (fr_J0_indexOf_0f7a4 _ _ _) (by decide)) (fun r64 w65 => (fo_br (fo_some fr_refl) (fo_some fr_refl)))))) (fo_br (fo_some fr_refl) (fo_some fr_refl)))))) (fo_gd (fo_sqm (fr_pI (by decide)) (fun w67 => (fo_br (fo_br (fo_some fr_refl) (fo_br (fo_some fr_refl) (fo_bd1 (fo_mono (fr_J0_indexOf_0f7a4 _ _ _) (by decide)) (fun r68 w69 => (fo_br (fo_some fr_refl) (fo_some fr_refl)))))) (fo_br (fo_some fr_refl) (fo_some fr_refl)))))))))) (fo_br (fo_gd (fo_sqm (fr_pI (by decide)) (fun w53 => (fo_br (fo_br (fo_some fr_refl) (fo_br (fo_some fr_refl) (fo_bd1 (fo_mono (fr_J0_indexOf_0f7a4 _ _ _) (by decide)) (fun r54 w55 => (fo_br (fo_some fr_refl) (fo_some fr_refl)))))) (fo_br (fo_some fr_refl) (fo_some fr_refl)))))) (fo_gd (fo_sqm (fr_pI (by decide)) (fun w57 => (fo_br (fo_br (fo_some fr_refl) (fo_br (fo_some fr_refl) (fo_bd1 (fo_mono (fr_J0_indexOf_0f7a4 _ _ _) (by decide)) (fun r58 w59 => (fo_br (fo_some fr_refl) (fo_some fr_refl)))))) (fo_br (fo_some fr_refl) (fo_some fr_refl))))))))) (fo_bd1 (fo_mono (fr_X15_kindAt_L34 _ _ _ _ _ _) (by decide)) (fun y78 w79 => (fo_gd (fo_sqm (fr_pI (by decide)) (fun w81 => (fo_bd1 (fo_mono (fr_X15_isLetter _ _) (by decide)) (fun r82 w83 => (fo_br (fo_br (fo_bd1 (fo_mono (fr_X15_isLetter _ _) (by decide)) (fun r84 w85 => (fo_br (fo_some fr_refl) (fo_bd1 (fo_mono (fr_X15_word _ _ _) (by decide)) (fun r86 w87 => (fo_some fr_refl)))))) (fo_some fr_refl)) (fo_br (fo_bd1 (fo_mono (fr_X15_isLetter _ _) (by decide)) (fun r88 w89 => (fo_br (fo_some fr_refl) (fo_bd1 (fo_mono (fr_X15_word _ _ _) (by decide)) (fun r90 w91 => (fo_some fr_refl)))))) (fo_some fr_refl))))))))))))) (fo_bd1 (fo_mono (fr_X15_kindAt_L34 _ _ _ _ _ _) (by decide)) (fun y18 w19 => (fo_gd (fo_sqm (fr_pI (by decide)) (fun w21 => (fo_bd1 (fo_mono (fr_X15_isLetter _ _) (by decide)) (fun r22 w23 => (fo_br (fo_br (fo_bd1 (fo_mono (fr_X15_isLetter _ _) (by decide)) (fun r24 w25 => (fo_br (fo_some fr_refl) (fo_bd1 (fo_mono (fr_X15_word _ _ _) (by decide)) (fun r26 w27 => (fo_some fr_refl)))))) (fo_some fr_refl)) (fo_br (fo_bd1 (fo_mono (fr_X15_isLetter _ _) (by decide)) (fun r28 w29 => (fo_br (fo_some fr_refl) (fo_bd1 (fo_mono (fr_X15_word _ _ _) (by decide)) (fun r30 w31 => (fo_some fr_refl)))))) (fo_some fr_refl))))))))))))))))))
set_option maxRecDepth 100000 in
theorem fr_X15_cut_L11 (z2 : Int32) : ∀ (n : Nat) (u1 : Int32) (w : Mm), FrO [] Prod.snd (f_X15_cut_L11 z2 n u1 w) w := by
  intro n
  induction n with
  | zero => intro u1 w; exact fo_none
  | succ n ih =>
    intro u1 w
    rw [f_X15_cut_L11]
    exact (fo_bd1 (fo_mono (fr_X15_byteOf _ _) (by decide)) (fun r1 w2 => (fo_br (fo_sqv (fun x3 => (ih x3 w2))) (fo_bd1 (fo_mono (fr_X15_byteOf _ _) (by decide)) (fun r4 w5 => (fo_br (fo_sqv (fun x6 => (ih x6 w5))) (fo_some fr_refl)))))))
set_option maxRecDepth 100000 in
theorem fr_X15_cut_L4  : ∀ (n : Nat) (u2 : Int32) (u1 : Int32) (w : Mm), FrO [34, 35, 36, 37, 38] Prod.snd (f_X15_cut_L4  n u2 u1 w) w := by
  intro n
  induction n with
  | zero => intro u2 u1 w; exact fo_none
  | succ n ih =>
    intro u2 u1 w
    rw [f_X15_cut_L4]
    exact (fo_br (fo_some fr_refl) (fo_bd1 (fo_mono (fr_X15_cut_L11 _ _ _ _) (by decide)) (fun y7 w8 => (fo_gd (fo_sqm (fr_pI (by decide)) (fun w10 => (fo_gd (fo_sqm (fr_pI (by decide)) (fun w12 => (fo_gd (fo_sqm (fr_pI (by decide)) (fun w14 => (fo_bd1 (fo_mono (fr_X15_kindAt _ _ _) (by decide)) (fun r15 w16 => (fo_gd (fo_sqm (fr_pI (by decide)) (fun w18 => (fo_br (fo_gd (fo_br (fo_gd (fo_br (fo_gd (fo_sqv (fun x26 => (fo_sqv (fun x27 => (ih x27 x26 w18)))))) (fo_some fr_refl))) (fo_gd (fo_sqm (fr_pI (by decide)) (fun w29 => (fo_gd (fo_br (fo_gd (fo_sqv (fun x32 => (fo_sqv (fun x33 => (ih x33 x32 w29)))))) (fo_some fr_refl)))))))) (fo_gd (fo_br (fo_gd (fo_sqv (fun x21 => (fo_sqv (fun x22 => (ih x22 x21 w18)))))) (fo_some fr_refl)))))))))))))))))))))
set_option maxRecDepth 100000 in
theorem fr_X15_cut (w : Mm) : FrO [34, 35, 36, 37, 38] id (f_X15_cut w) w := by
  unfold f_X15_cut
  exact (fo_bd1 (fo_mono (fr_X15_cut_L4 _ _ _ _) (by decide)) (fun t35 w34 => (fo_br (fo_some fr_refl) (fo_some fr_refl))))
set_option maxRecDepth 100000 in
theorem fr_X15_is (a1 : Int32) (w : Mm) : FrO [] Prod.snd (f_X15_is a1 w) w := by
  unfold f_X15_is
  exact (fo_gd (fo_br (fo_some fr_refl) (fo_some fr_refl)))
set_option maxRecDepth 100000 in
theorem fr_X15_isSign (a1 : Int32) (w : Mm) : FrO [] Prod.snd (f_X15_isSign a1 w) w := by
  unfold f_X15_isSign
  exact (fo_gd (fo_br (fo_some fr_refl) (fo_some fr_refl)))
set_option maxRecDepth 100000 in
theorem fr_X15_eat (a1 : Int32) (w : Mm) : FrO [32] Prod.snd (f_X15_eat a1 w) w := by
  unfold f_X15_eat
  exact (fo_bd1 (fo_mono (fr_X15_is _ _) (by decide)) (fun r1 w2 => (fo_br (fo_some fr_refl) (fo_sqm (fr_pI (by decide)) (fun w3 => (fo_some fr_refl))))))
set_option maxRecDepth 100000 in
theorem fr_X15_eatSign (a1 : Int32) (w : Mm) : FrO [32] Prod.snd (f_X15_eatSign a1 w) w := by
  unfold f_X15_eatSign
  exact (fo_bd1 (fo_mono (fr_X15_eat _ _) (by decide)) (fun r1 w2 => (fo_gd (fo_some fr_refl))))
set_option maxRecDepth 100000 in
theorem fr_X15_eatAs (a1 : Int32) (a2 : Int32) (w : Mm) : FrO [32, 37] Prod.snd (f_X15_eatAs a1 a2 w) w := by
  unfold f_X15_eatAs
  exact (fo_gd (fo_sqm (fr_pI (by decide)) (fun w2 => (fo_bd1 (fo_mono (fr_X15_eat _ _) (by decide)) (fun r3 w4 => (fo_gd (fo_some fr_refl)))))))
set_option maxRecDepth 100000 in
theorem fr_X15_put (a1 : Int32) (w : Mm) : FrO [44, 53] id (f_X15_put a1 w) w := by
  unfold f_X15_put
  exact (fo_gd (fo_sqv (fun p2 => (fo_gd (fo_gd (fo_sqv (fun p5 => (fo_gd (fo_gd (fo_gd (fo_sqm (fr_pI (by decide)) (fun w8 => (fo_gd (fo_sqv (fun p11 => (fo_gd (fo_gd (fo_sqm (fr_pI (by decide)) (fun w14 => (fo_some fr_refl))))))))))))))))))))
set_option maxRecDepth 100000 in
theorem fr_X15_isDeeper (w : Mm) : FrO [32] Prod.snd (f_X15_isDeeper w) w := by
  unfold f_X15_isDeeper
  exact (fo_br (fo_some fr_refl) (fo_sqm (fr_pI (by decide)) (fun w1 => (fo_sqm (fr_pI (by decide)) (fun w2 => (fo_some fr_refl))))))
set_option maxRecDepth 100000 in
theorem fr_X15_isName (a1 : Int32) (w : Mm) : FrO [32, 37, 44, 53, 54] Prod.snd (f_X15_isName a1 w) w := by
  unfold f_X15_isName
  exact (fo_gd (fo_sqv (fun p2 => (fo_gd (fo_gd (fo_sqv (fun p5 => (fo_gd (fo_gd (fo_sqv (fun p8 => (fo_gd (fo_gd (fo_gd (fo_sqm (fr_pI (by decide)) (fun w11 => (fo_gd (fo_sqv (fun p14 => (fo_gd (fo_gd (fo_sqm (fr_pI (by decide)) (fun w17 => (fo_bd0 (fo_mono (fr_X15_put _ _) (by decide)) (fun w18 => (fo_bd1 (fo_mono (fr_X15_eatAs _ _ _) (by decide)) (fun r19 w20 => (fo_gd (fo_some fr_refl)))))))))))))))))))))))))))))
set_option maxRecDepth 100000 in
theorem fr_X15_isNamed (a1 : Int32) (w : Mm) : FrO [32, 37, 44, 53, 54] Prod.snd (f_X15_isNamed a1 w) w := by
  unfold f_X15_isNamed
  exact (fo_gd (fo_bd0 (fo_mono (fr_X15_put _ _) (by decide)) (fun w2 => (fo_sqm (fr_pI (by decide)) (fun w3 => (fo_bd1 (fo_mono (fr_X15_isName _ _) (by decide)) (fun r4 w5 => (fo_gd (fo_some fr_refl)))))))))
set_option maxRecDepth 100000 in
theorem fr_X15_numberAt_L4 (z1 : Int32) : ∀ (n : Nat) (u3 : Int32) (u2 : Int32) (w : Mm), FrO [] Prod.snd (f_X15_numberAt_L4 z1 n u3 u2 w) w := by
  intro n
  induction n with
  | zero => intro u3 u2 w; exact fo_none
  | succ n ih =>
    intro u3 u2 w
    rw [f_X15_numberAt_L4]
    exact (fo_gd (fo_br (fo_some fr_refl) (fo_gd (fo_gd (fo_sqv (fun x4 => (fo_sqv (fun x5 => (ih x5 x4 w)))))))))
set_option maxRecDepth 100000 in
theorem fr_X15_numberAt (a1 : Int32) (w : Mm) : FrO [] Prod.snd (f_X15_numberAt a1 w) w := by
  unfold f_X15_numberAt
  exact (fo_bd1 (fo_mono (fr_X15_numberAt_L4 _ _ _ _ _) (by decide)) (fun y6 w7 => (fo_some fr_refl)))
set_option maxRecDepth 100000 in
theorem fr_X15_isTest_L9 (rec : Nat → Int32 → Int32 → Mm → Option (Int32 × Mm)) (hrec : ∀ (t : Nat) (a b : Int32) (w : Mm), FrO [32, 37, 44, 53, 54] Prod.snd (rec t a b w) w)  : ∀ (n : Nat) (w : Mm), FrO [32, 37, 44, 53, 54] Prod.snd (f_X15_isTest_L9 rec n w) w := by
  intro n
  induction n with
  | zero => intro w; exact fo_none
  | succ n ih =>
    intro w
    rw [f_X15_isTest_L9]
    exact (fo_bd1 (fo_mono (fr_X15_eat _ _) (by decide)) (fun r3 w4 => (fo_br (fo_some fr_refl) (fo_bd1 (fo_mono (hrec _ _ _ _) (fun _ h => h)) (fun r5 w6 => (fo_br (fo_some fr_refl) (fo_bd0 (fo_mono (fr_X15_put _ _) (by decide)) (fun w7 => (ih w7)))))))))
set_option maxRecDepth 100000 in
theorem fr_X15_isTest (rec : Nat → Int32 → Int32 → Mm → Option (Int32 × Mm)) (hrec : ∀ (t : Nat) (a b : Int32) (w : Mm), FrO [32, 37, 44, 53, 54] Prod.snd (rec t a b w) w)  (w : Mm) : FrO [32, 37, 44, 53, 54] Prod.snd (f_X15_isTest rec w) w := by
  unfold f_X15_isTest
  exact (fo_bd1 (fo_mono (hrec _ _ _ _) (fun _ h => h)) (fun r1 w2 => (fo_br (fo_some fr_refl) (fo_bd1 (fo_mono (fr_X15_isTest_L9 _ hrec _ _) (by decide)) (fun t9 w8 => (fo_br (fo_some fr_refl) (fo_some fr_refl)))))))
set_option maxRecDepth 100000 in
theorem fr_X15_isBoth_L9 (rec : Nat → Int32 → Int32 → Mm → Option (Int32 × Mm)) (hrec : ∀ (t : Nat) (a b : Int32) (w : Mm), FrO [32, 37, 44, 53, 54] Prod.snd (rec t a b w) w)  : ∀ (n : Nat) (w : Mm), FrO [32, 37, 44, 53, 54] Prod.snd (f_X15_isBoth_L9 rec n w) w := by
  intro n
  induction n with
  | zero => intro w; exact fo_none
  | succ n ih =>
    intro w
    rw [f_X15_isBoth_L9]
    exact (fo_bd1 (fo_mono (fr_X15_eat _ _) (by decide)) (fun r3 w4 => (fo_br (fo_some fr_refl) (fo_bd1 (fo_mono (hrec _ _ _ _) (fun _ h => h)) (fun r5 w6 => (fo_br (fo_some fr_refl) (fo_bd0 (fo_mono (fr_X15_put _ _) (by decide)) (fun w7 => (ih w7)))))))))
set_option maxRecDepth 100000 in
theorem fr_X15_isBoth (rec : Nat → Int32 → Int32 → Mm → Option (Int32 × Mm)) (hrec : ∀ (t : Nat) (a b : Int32) (w : Mm), FrO [32, 37, 44, 53, 54] Prod.snd (rec t a b w) w)  (w : Mm) : FrO [32, 37, 44, 53, 54] Prod.snd (f_X15_isBoth rec w) w := by
  unfold f_X15_isBoth
  exact (fo_bd1 (fo_mono (hrec _ _ _ _) (fun _ h => h)) (fun r1 w2 => (fo_br (fo_some fr_refl) (fo_bd1 (fo_mono (fr_X15_isBoth_L9 _ hrec _ _) (by decide)) (fun t9 w8 => (fo_br (fo_some fr_refl) (fo_some fr_refl)))))))
set_option maxRecDepth 100000 in
theorem fr_X15_isSingle (rec : Nat → Int32 → Int32 → Mm → Option (Int32 × Mm)) (hrec : ∀ (t : Nat) (a b : Int32) (w : Mm), FrO [32, 37, 44, 53, 54] Prod.snd (rec t a b w) w)  (w : Mm) : FrO [32, 37, 44, 53, 54] Prod.snd (f_X15_isSingle rec w) w := by
  unfold f_X15_isSingle
  exact (fo_bd1 (fo_mono (fr_X15_is _ _) (by decide)) (fun r1 w2 => (fo_br (fo_bd1 (fo_mono (fr_X15_isSign _ _) (by decide)) (fun r3 w4 => (fo_br (fo_bd1 (fo_mono (fr_X15_is _ _) (by decide)) (fun r5 w6 => (fo_br (fo_bd1 (fo_mono (hrec _ _ _ _) (fun _ h => h)) (fun r7 w8 => (fo_br (fo_some fr_refl) (fo_bd1 (fo_mono (fr_X15_isSign _ _) (by decide)) (fun r9 w10 => (fo_br (fo_bd1 (fo_mono (fr_X15_isSign _ _) (by decide)) (fun r11 w12 => (fo_br (fo_bd1 (fo_mono (fr_X15_isSign _ _) (by decide)) (fun r13 w14 => (fo_br (fo_bd1 (fo_mono (fr_X15_is _ _) (by decide)) (fun r15 w16 => (fo_br (fo_bd1 (fo_mono (fr_X15_is _ _) (by decide)) (fun r17 w18 => (fo_br (fo_br (fo_some fr_refl) (fo_sqm (fr_pI (by decide)) (fun w19 => (fo_bd1 (fo_mono (hrec _ _ _ _) (fun _ h => h)) (fun r20 w21 => (fo_br (fo_some fr_refl) (fo_bd0 (fo_mono (fr_X15_put _ _) (by decide)) (fun w22 => (fo_some fr_refl))))))))) (fo_br (fo_some fr_refl) (fo_sqm (fr_pI (by decide)) (fun w23 => (fo_bd1 (fo_mono (hrec _ _ _ _) (fun _ h => h)) (fun r24 w25 => (fo_br (fo_some fr_refl) (fo_bd0 (fo_mono (fr_X15_put _ _) (by decide)) (fun w26 => (fo_some fr_refl)))))))))))) (fo_br (fo_some fr_refl) (fo_sqm (fr_pI (by decide)) (fun w27 => (fo_bd1 (fo_mono (hrec _ _ _ _) (fun _ h => h)) (fun r28 w29 => (fo_br (fo_some fr_refl) (fo_bd0 (fo_mono (fr_X15_put _ _) (by decide)) (fun w30 => (fo_some fr_refl)))))))))))) (fo_br (fo_some fr_refl) (fo_sqm (fr_pI (by decide)) (fun w31 => (fo_bd1 (fo_mono (hrec _ _ _ _) (fun _ h => h)) (fun r32 w33 => (fo_br (fo_some fr_refl) (fo_bd0 (fo_mono (fr_X15_put _ _) (by decide)) (fun w34 => (fo_some fr_refl)))))))))))) (fo_br (fo_some fr_refl) (fo_sqm (fr_pI (by decide)) (fun w35 => (fo_bd1 (fo_mono (hrec _ _ _ _) (fun _ h => h)) (fun r36 w37 => (fo_br (fo_some fr_refl) (fo_bd0 (fo_mono (fr_X15_put _ _) (by decide)) (fun w38 => (fo_some fr_refl)))))))))))) (fo_br (fo_some fr_refl) (fo_sqm (fr_pI (by decide)) (fun w39 => (fo_bd1 (fo_mono (hrec _ _ _ _) (fun _ h => h)) (fun r40 w41 => (fo_br (fo_some fr_refl) (fo_bd0 (fo_mono (fr_X15_put _ _) (by decide)) (fun w42 => (fo_some fr_refl))))))))))))))) (fo_bd1 (fo_mono (fr_X15_isNamed _ _) (by decide)) (fun r43 w44 => (fo_br (fo_some fr_refl) (fo_bd1 (fo_mono (fr_X15_eat _ _) (by decide)) (fun r45 w46 => (fo_br (fo_some fr_refl) (fo_bd1 (fo_mono (fr_X15_isName _ _) (by decide)) (fun r47 w48 => (fo_br (fo_some fr_refl) (fo_some fr_refl))))))))))))) (fo_bd1 (fo_mono (fr_X15_isDeeper _) (by decide)) (fun r49 w50 => (fo_br (fo_some fr_refl) (fo_bd1 (fo_mono (hrec _ _ _ _) (fun _ h => h)) (fun r51 w52 => (fo_br (fo_some fr_refl) (fo_sqm (fr_pI (by decide)) (fun w53 => (fo_bd1 (fo_mono (fr_X15_eatSign _ _) (by decide)) (fun r54 w55 => (fo_gd (fo_some fr_refl))))))))))))))) (fo_bd1 (fo_mono (fr_X15_isDeeper _) (by decide)) (fun r56 w57 => (fo_br (fo_some fr_refl) (fo_bd1 (fo_mono (hrec _ _ _ _) (fun _ h => h)) (fun r58 w59 => (fo_br (fo_some fr_refl) (fo_sqm (fr_pI (by decide)) (fun w60 => (fo_bd0 (fo_mono (fr_X15_put _ _) (by decide)) (fun w61 => (fo_some fr_refl))))))))))))))
set_option maxRecDepth 100000 in
theorem fr_X15_isSum_L9 (rec : Nat → Int32 → Int32 → Mm → Option (Int32 × Mm)) (hrec : ∀ (t : Nat) (a b : Int32) (w : Mm), FrO [32, 37, 44, 53, 54] Prod.snd (rec t a b w) w)  : ∀ (n : Nat) (w : Mm), FrO [32, 37, 44, 53, 54] Prod.snd (f_X15_isSum_L9 rec n w) w := by
  intro n
  induction n with
  | zero => intro w; exact fo_none
  | succ n ih =>
    intro w
    rw [f_X15_isSum_L9]
    exact (fo_bd1 (fo_mono (fr_X15_isSign _ _) (by decide)) (fun r3 w4 => (fo_br (fo_bd1 (fo_mono (fr_X15_isSign _ _) (by decide)) (fun r15 w16 => (fo_br (fo_some fr_refl) (fo_bd1 (fo_mono (fr_X15_isSign _ _) (by decide)) (fun r17 w18 => (fo_br (fo_sqm (fr_pI (by decide)) (fun w19 => (fo_bd1 (fo_mono (hrec _ _ _ _) (fun _ h => h)) (fun r20 w21 => (fo_br (fo_some fr_refl) (fo_bd0 (fo_mono (fr_X15_put _ _) (by decide)) (fun w22 => (ih w22)))))))) (fo_sqm (fr_pI (by decide)) (fun w23 => (fo_bd1 (fo_mono (hrec _ _ _ _) (fun _ h => h)) (fun r24 w25 => (fo_br (fo_some fr_refl) (fo_bd0 (fo_mono (fr_X15_put _ _) (by decide)) (fun w26 => (ih w26)))))))))))))) (fo_bd1 (fo_mono (fr_X15_isSign _ _) (by decide)) (fun r5 w6 => (fo_br (fo_sqm (fr_pI (by decide)) (fun w7 => (fo_bd1 (fo_mono (hrec _ _ _ _) (fun _ h => h)) (fun r8 w9 => (fo_br (fo_some fr_refl) (fo_bd0 (fo_mono (fr_X15_put _ _) (by decide)) (fun w10 => (ih w10)))))))) (fo_sqm (fr_pI (by decide)) (fun w11 => (fo_bd1 (fo_mono (hrec _ _ _ _) (fun _ h => h)) (fun r12 w13 => (fo_br (fo_some fr_refl) (fo_bd0 (fo_mono (fr_X15_put _ _) (by decide)) (fun w14 => (ih w14))))))))))))))
set_option maxRecDepth 100000 in
theorem fr_X15_isSum (rec : Nat → Int32 → Int32 → Mm → Option (Int32 × Mm)) (hrec : ∀ (t : Nat) (a b : Int32) (w : Mm), FrO [32, 37, 44, 53, 54] Prod.snd (rec t a b w) w)  (w : Mm) : FrO [32, 37, 44, 53, 54] Prod.snd (f_X15_isSum rec w) w := by
  unfold f_X15_isSum
  exact (fo_bd1 (fo_mono (hrec _ _ _ _) (fun _ h => h)) (fun r1 w2 => (fo_br (fo_some fr_refl) (fo_bd1 (fo_mono (fr_X15_isSum_L9 _ hrec _ _) (by decide)) (fun t28 w27 => (fo_br (fo_some fr_refl) (fo_some fr_refl)))))))
set_option maxRecDepth 100000 in
theorem fr_X15_isProduct_L9 (rec : Nat → Int32 → Int32 → Mm → Option (Int32 × Mm)) (hrec : ∀ (t : Nat) (a b : Int32) (w : Mm), FrO [32, 37, 44, 53, 54] Prod.snd (rec t a b w) w)  : ∀ (n : Nat) (w : Mm), FrO [32, 37, 44, 53, 54] Prod.snd (f_X15_isProduct_L9 rec n w) w := by
  intro n
  induction n with
  | zero => intro w; exact fo_none
  | succ n ih =>
    intro w
    rw [f_X15_isProduct_L9]
    exact (fo_bd1 (fo_mono (fr_X15_isSign _ _) (by decide)) (fun r3 w4 => (fo_br (fo_bd1 (fo_mono (fr_X15_isSign _ _) (by decide)) (fun r15 w16 => (fo_br (fo_some fr_refl) (fo_bd1 (fo_mono (fr_X15_isSign _ _) (by decide)) (fun r17 w18 => (fo_br (fo_sqm (fr_pI (by decide)) (fun w19 => (fo_bd1 (fo_mono (hrec _ _ _ _) (fun _ h => h)) (fun r20 w21 => (fo_br (fo_some fr_refl) (fo_bd0 (fo_mono (fr_X15_put _ _) (by decide)) (fun w22 => (ih w22)))))))) (fo_sqm (fr_pI (by decide)) (fun w23 => (fo_bd1 (fo_mono (hrec _ _ _ _) (fun _ h => h)) (fun r24 w25 => (fo_br (fo_some fr_refl) (fo_bd0 (fo_mono (fr_X15_put _ _) (by decide)) (fun w26 => (ih w26)))))))))))))) (fo_bd1 (fo_mono (fr_X15_isSign _ _) (by decide)) (fun r5 w6 => (fo_br (fo_sqm (fr_pI (by decide)) (fun w7 => (fo_bd1 (fo_mono (hrec _ _ _ _) (fun _ h => h)) (fun r8 w9 => (fo_br (fo_some fr_refl) (fo_bd0 (fo_mono (fr_X15_put _ _) (by decide)) (fun w10 => (ih w10)))))))) (fo_sqm (fr_pI (by decide)) (fun w11 => (fo_bd1 (fo_mono (hrec _ _ _ _) (fun _ h => h)) (fun r12 w13 => (fo_br (fo_some fr_refl) (fo_bd0 (fo_mono (fr_X15_put _ _) (by decide)) (fun w14 => (ih w14))))))))))))))
set_option maxRecDepth 100000 in
theorem fr_X15_isProduct (rec : Nat → Int32 → Int32 → Mm → Option (Int32 × Mm)) (hrec : ∀ (t : Nat) (a b : Int32) (w : Mm), FrO [32, 37, 44, 53, 54] Prod.snd (rec t a b w) w)  (w : Mm) : FrO [32, 37, 44, 53, 54] Prod.snd (f_X15_isProduct rec w) w := by
  unfold f_X15_isProduct
  exact (fo_bd1 (fo_mono (hrec _ _ _ _) (fun _ h => h)) (fun r1 w2 => (fo_br (fo_some fr_refl) (fo_bd1 (fo_mono (fr_X15_isProduct_L9 _ hrec _ _) (by decide)) (fun t28 w27 => (fo_br (fo_some fr_refl) (fo_some fr_refl)))))))
set_option maxRecDepth 100000 in
theorem fr_X15_isValue (rec : Nat → Int32 → Int32 → Mm → Option (Int32 × Mm)) (hrec : ∀ (t : Nat) (a b : Int32) (w : Mm), FrO [32, 37, 44, 53, 54] Prod.snd (rec t a b w) w)  (w : Mm) : FrO [32, 37, 44, 53, 54] Prod.snd (f_X15_isValue rec w) w := by
  unfold f_X15_isValue
  exact (fo_gd (fo_sqv (fun x2 => (fo_bd1 (fo_mono (fr_X15_is _ _) (by decide)) (fun r3 w4 => (fo_br (fo_br (fo_br (fo_bd1 (fo_mono (fr_X15_isSign _ _) (by decide)) (fun r5 w6 => (fo_br (fo_bd1 (fo_mono (fr_X15_eat _ _) (by decide)) (fun r7 w8 => (fo_br (fo_bd1 (fo_mono (fr_X15_eat _ _) (by decide)) (fun r11 w12 => (fo_br (fo_bd1 (fo_mono (hrec _ _ _ _) (fun _ h => h)) (fun r13 w14 => (fo_gd (fo_some fr_refl)))) (fo_bd1 (fo_mono (hrec _ _ _ _) (fun _ h => h)) (fun r15 w16 => (fo_gd (fo_some fr_refl))))))) (fo_bd1 (fo_mono (hrec _ _ _ _) (fun _ h => h)) (fun r9 w10 => (fo_gd (fo_some fr_refl))))))) (fo_bd1 (fo_mono (fr_X15_isDeeper _) (by decide)) (fun r17 w18 => (fo_br (fo_some fr_refl) (fo_bd1 (fo_mono (hrec _ _ _ _) (fun _ h => h)) (fun r19 w20 => (fo_br (fo_some fr_refl) (fo_sqm (fr_pI (by decide)) (fun w21 => (fo_bd0 (fo_mono (fr_X15_put _ _) (by decide)) (fun w22 => (fo_some fr_refl)))))))))))))) (fo_br (fo_bd1 (fo_mono (fr_X15_isSign _ _) (by decide)) (fun r23 w24 => (fo_br (fo_bd1 (fo_mono (fr_X15_eat _ _) (by decide)) (fun r25 w26 => (fo_br (fo_bd1 (fo_mono (fr_X15_eat _ _) (by decide)) (fun r29 w30 => (fo_br (fo_bd1 (fo_mono (hrec _ _ _ _) (fun _ h => h)) (fun r31 w32 => (fo_gd (fo_some fr_refl)))) (fo_bd1 (fo_mono (hrec _ _ _ _) (fun _ h => h)) (fun r33 w34 => (fo_gd (fo_some fr_refl))))))) (fo_bd1 (fo_mono (hrec _ _ _ _) (fun _ h => h)) (fun r27 w28 => (fo_gd (fo_some fr_refl))))))) (fo_bd1 (fo_mono (fr_X15_isDeeper _) (by decide)) (fun r35 w36 => (fo_br (fo_some fr_refl) (fo_bd1 (fo_mono (hrec _ _ _ _) (fun _ h => h)) (fun r37 w38 => (fo_br (fo_some fr_refl) (fo_sqm (fr_pI (by decide)) (fun w39 => (fo_bd0 (fo_mono (fr_X15_put _ _) (by decide)) (fun w40 => (fo_some fr_refl)))))))))))))) (fo_bd0 (fo_mono (fr_X15_put _ _) (by decide)) (fun w41 => (fo_sqm (fr_pI (by decide)) (fun w42 => (fo_bd1 (fo_mono (fr_X15_eat _ _) (by decide)) (fun r43 w44 => (fo_br (fo_some fr_refl) (fo_br (fo_bd1 (fo_mono (fr_X15_isName _ _) (by decide)) (fun r47 w48 => (fo_br (fo_some fr_refl) (fo_some fr_refl)))) (fo_bd1 (fo_mono (fr_X15_isName _ _) (by decide)) (fun r45 w46 => (fo_br (fo_some fr_refl) (fo_some fr_refl)))))))))))))) (fo_br (fo_br (fo_bd1 (fo_mono (fr_X15_isSign _ _) (by decide)) (fun r49 w50 => (fo_br (fo_bd1 (fo_mono (fr_X15_eat _ _) (by decide)) (fun r51 w52 => (fo_br (fo_bd1 (fo_mono (fr_X15_eat _ _) (by decide)) (fun r55 w56 => (fo_br (fo_bd1 (fo_mono (hrec _ _ _ _) (fun _ h => h)) (fun r57 w58 => (fo_gd (fo_some fr_refl)))) (fo_bd1 (fo_mono (hrec _ _ _ _) (fun _ h => h)) (fun r59 w60 => (fo_gd (fo_some fr_refl))))))) (fo_bd1 (fo_mono (hrec _ _ _ _) (fun _ h => h)) (fun r53 w54 => (fo_gd (fo_some fr_refl))))))) (fo_bd1 (fo_mono (fr_X15_isDeeper _) (by decide)) (fun r61 w62 => (fo_br (fo_some fr_refl) (fo_bd1 (fo_mono (hrec _ _ _ _) (fun _ h => h)) (fun r63 w64 => (fo_br (fo_some fr_refl) (fo_sqm (fr_pI (by decide)) (fun w65 => (fo_bd0 (fo_mono (fr_X15_put _ _) (by decide)) (fun w66 => (fo_some fr_refl)))))))))))))) (fo_br (fo_bd1 (fo_mono (fr_X15_isSign _ _) (by decide)) (fun r67 w68 => (fo_br (fo_bd1 (fo_mono (fr_X15_eat _ _) (by decide)) (fun r69 w70 => (fo_br (fo_bd1 (fo_mono (fr_X15_eat _ _) (by decide)) (fun r73 w74 => (fo_br (fo_bd1 (fo_mono (hrec _ _ _ _) (fun _ h => h)) (fun r75 w76 => (fo_gd (fo_some fr_refl)))) (fo_bd1 (fo_mono (hrec _ _ _ _) (fun _ h => h)) (fun r77 w78 => (fo_gd (fo_some fr_refl))))))) (fo_bd1 (fo_mono (hrec _ _ _ _) (fun _ h => h)) (fun r71 w72 => (fo_gd (fo_some fr_refl))))))) (fo_bd1 (fo_mono (fr_X15_isDeeper _) (by decide)) (fun r79 w80 => (fo_br (fo_some fr_refl) (fo_bd1 (fo_mono (hrec _ _ _ _) (fun _ h => h)) (fun r81 w82 => (fo_br (fo_some fr_refl) (fo_sqm (fr_pI (by decide)) (fun w83 => (fo_bd0 (fo_mono (fr_X15_put _ _) (by decide)) (fun w84 => (fo_some fr_refl)))))))))))))) (fo_bd0 (fo_mono (fr_X15_put _ _) (by decide)) (fun w85 => (fo_sqm (fr_pI (by decide)) (fun w86 => (fo_bd1 (fo_mono (fr_X15_eat _ _) (by decide)) (fun r87 w88 => (fo_br (fo_some fr_refl) (fo_br (fo_bd1 (fo_mono (fr_X15_isName _ _) (by decide)) (fun r91 w92 => (fo_br (fo_some fr_refl) (fo_some fr_refl)))) (fo_bd1 (fo_mono (fr_X15_isName _ _) (by decide)) (fun r89 w90 => (fo_br (fo_some fr_refl) (fo_some fr_refl)))))))))))))) (fo_bd0 (fo_mono (fr_X15_put _ _) (by decide)) (fun w93 => (fo_sqm (fr_pI (by decide)) (fun w94 => (fo_some fr_refl))))))) (fo_bd0 (fo_mono (fr_X15_put _ _) (by decide)) (fun w95 => (fo_bd1 (fo_mono (fr_X15_numberAt _ _) (by decide)) (fun r96 w97 => (fo_bd0 (fo_mono (fr_X15_put _ _) (by decide)) (fun w98 => (fo_sqm (fr_pI (by decide)) (fun w99 => (fo_some fr_refl)))))))))))))))
set_option maxRecDepth 100000 in
theorem fr_X15_isInside (rec : Nat → Int32 → Int32 → Mm → Option (Int32 × Mm)) (hrec : ∀ (t : Nat) (a b : Int32) (w : Mm), FrO [32, 37, 44, 53, 54] Prod.snd (rec t a b w) w)  (a1 : Int32) (a2 : Int32) (w : Mm) : FrO [32, 37, 44, 53, 54] Prod.snd (f_X15_isInside rec a1 a2 w) w := by
  unfold f_X15_isInside
  exact (fo_bd1 (fo_mono (fr_X15_isSign _ _) (by decide)) (fun r1 w2 => (fo_br (fo_some fr_refl) (fo_bd1 (fo_mono (fr_X15_isDeeper _) (by decide)) (fun r3 w4 => (fo_br (fo_some fr_refl) (fo_bd1 (fo_mono (hrec _ _ _ _) (fun _ h => h)) (fun r5 w6 => (fo_br (fo_some fr_refl) (fo_br (fo_sqm (fr_pI (by decide)) (fun w7 => (fo_br (fo_bd1 (fo_mono (fr_X15_eatSign _ _) (by decide)) (fun r8 w9 => (fo_gd (fo_some fr_refl)))) (fo_bd0 (fo_mono (fr_X15_put _ _) (by decide)) (fun w10 => (fo_bd1 (fo_mono (fr_X15_eatSign _ _) (by decide)) (fun r11 w12 => (fo_gd (fo_some fr_refl))))))))) (fo_bd1 (fo_mono (fr_X15_eatSign _ _) (by decide)) (fun r13 w14 => (fo_br (fo_some fr_refl) (fo_bd1 (fo_mono (hrec _ _ _ _) (fun _ h => h)) (fun r15 w16 => (fo_br (fo_some fr_refl) (fo_sqm (fr_pI (by decide)) (fun w17 => (fo_br (fo_bd1 (fo_mono (fr_X15_eatSign _ _) (by decide)) (fun r18 w19 => (fo_gd (fo_some fr_refl)))) (fo_bd0 (fo_mono (fr_X15_put _ _) (by decide)) (fun w20 => (fo_bd1 (fo_mono (fr_X15_eatSign _ _) (by decide)) (fun r21 w22 => (fo_gd (fo_some fr_refl)))))))))))))))))))))))))
theorem fr_grpR : ∀ (n t : Nat) (a b : Int32) (w : Mm), FrO [32, 37, 44, 53, 54] Prod.snd (grpR n t a b w) w := by
  intro n
  induction n with
  | zero => intro t a b w; exact fo_none
  | succ n ih =>
    intro t a b w
    rw [grpR]
    by_cases c0 : t = 0
    · rw [if_pos c0]; exact fr_X15_isTest _ ih _
    · rw [if_neg c0]
      by_cases c1 : t = 1
      · rw [if_pos c1]; exact fr_X15_isBoth _ ih _
      · rw [if_neg c1]
        by_cases c2 : t = 2
        · rw [if_pos c2]; exact fr_X15_isSingle _ ih _
        · rw [if_neg c2]
          by_cases c3 : t = 3
          · rw [if_pos c3]; exact fr_X15_isSum _ ih _
          · rw [if_neg c3]
            by_cases c4 : t = 4
            · rw [if_pos c4]; exact fr_X15_isProduct _ ih _
            · rw [if_neg c4]
              by_cases c5 : t = 5
              · rw [if_pos c5]; exact fr_X15_isValue _ ih _
              · rw [if_neg c5]
                exact fr_X15_isInside _ ih _ _ _

theorem frg_X15_isTest (w : Mm) : FrO [32, 37, 44, 53, 54] Prod.snd (g_X15_isTest w) w := fr_grpR 60 0 0 0 w
theorem frg_X15_isBoth (w : Mm) : FrO [32, 37, 44, 53, 54] Prod.snd (g_X15_isBoth w) w := fr_grpR 60 1 0 0 w
theorem frg_X15_isSingle (w : Mm) : FrO [32, 37, 44, 53, 54] Prod.snd (g_X15_isSingle w) w := fr_grpR 60 2 0 0 w
theorem frg_X15_isSum (w : Mm) : FrO [32, 37, 44, 53, 54] Prod.snd (g_X15_isSum w) w := fr_grpR 60 3 0 0 w
theorem frg_X15_isProduct (w : Mm) : FrO [32, 37, 44, 53, 54] Prod.snd (g_X15_isProduct w) w := fr_grpR 60 4 0 0 w
theorem frg_X15_isValue (w : Mm) : FrO [32, 37, 44, 53, 54] Prod.snd (g_X15_isValue w) w := fr_grpR 60 5 0 0 w
theorem frg_X15_isInside (a b : Int32) (w : Mm) : FrO [32, 37, 44, 53, 54] Prod.snd (g_X15_isInside a b w) w := fr_grpR 60 6 a b w
set_option maxRecDepth 100000 in
theorem fr_X15_isOrder (a1 : Int32) (w : Mm) : FrO [32, 37, 44, 50, 51, 52, 53, 54] Prod.snd (f_X15_isOrder a1 w) w := by
  unfold f_X15_isOrder
  exact (fo_gd (fo_sqm (fr_pI (by decide)) (fun w2 => (fo_sqm (fr_pI (by decide)) (fun w3 => (fo_gd (fo_sqv (fun p5 => (fo_gd (fo_sqv (fun x7 => (fo_gd (fo_sqv (fun p9 => (fo_gd (fo_gd (fo_sqm (fr_pI (by decide)) (fun w12 => (fo_gd (fo_sqv (fun p14 => (fo_gd (fo_gd (fo_sqv (fun p17 => (fo_gd (fo_gd (fo_gd (fo_sqm (fr_pI (by decide)) (fun w20 => (fo_br (fo_bd1 (fo_mono (fr_X15_eatAs _ _ _) (by decide)) (fun r59 w60 => (fo_br (fo_some fr_refl) (fo_bd1 (fo_mono (fr_X15_eat _ _) (by decide)) (fun r61 w62 => (fo_br (fo_some fr_refl) (fo_bd1 (fo_mono (frg_X15_isSum _) (by decide)) (fun r63 w64 => (fo_br (fo_some fr_refl) (fo_gd (fo_sqv (fun p66 => (fo_gd (fo_gd (fo_sqv (fun p69 => (fo_gd (fo_gd (fo_gd (fo_sqm (fr_pI (by decide)) (fun w72 => (fo_bd1 (fo_mono (fr_X15_eat _ _) (by decide)) (fun r74 w75 => (fo_br (fo_gd (fo_sqv (fun p77 => (fo_gd (fo_gd (fo_sqv (fun p80 => (fo_gd (fo_gd (fo_gd (fo_sqm (fr_pI (by decide)) (fun w83 => (fo_some fr_refl))))))))))))) (fo_bd1 (fo_mono (frg_X15_isTest _) (by decide)) (fun r85 w86 => (fo_br (fo_some fr_refl) (fo_gd (fo_sqv (fun p88 => (fo_gd (fo_gd (fo_sqv (fun p91 => (fo_gd (fo_gd (fo_gd (fo_sqm (fr_pI (by decide)) (fun w94 => (fo_some fr_refl)))))))))))))))))))))))))))))))))))))))) (fo_bd1 (fo_mono (fr_X15_eatAs _ _ _) (by decide)) (fun r22 w23 => (fo_br (fo_some fr_refl) (fo_bd1 (fo_mono (fr_X15_eat _ _) (by decide)) (fun r24 w25 => (fo_br (fo_some fr_refl) (fo_bd1 (fo_mono (fr_X15_eatAs _ _ _) (by decide)) (fun r26 w27 => (fo_br (fo_some fr_refl) (fo_gd (fo_sqv (fun p29 => (fo_gd (fo_gd (fo_sqv (fun p32 => (fo_gd (fo_gd (fo_gd (fo_sqm (fr_pI (by decide)) (fun w35 => (fo_bd1 (fo_mono (fr_X15_eat _ _) (by decide)) (fun r37 w38 => (fo_br (fo_gd (fo_sqv (fun p40 => (fo_gd (fo_gd (fo_sqv (fun p43 => (fo_gd (fo_gd (fo_gd (fo_sqm (fr_pI (by decide)) (fun w46 => (fo_some fr_refl))))))))))))) (fo_bd1 (fo_mono (frg_X15_isTest _) (by decide)) (fun r48 w49 => (fo_br (fo_some fr_refl) (fo_gd (fo_sqv (fun p51 => (fo_gd (fo_gd (fo_sqv (fun p54 => (fo_gd (fo_gd (fo_gd (fo_sqm (fr_pI (by decide)) (fun w57 => (fo_some fr_refl)))))))))))))))))))))))))))))))))))))))))))))))))))))))))))))))))))))))
set_option maxRecDepth 100000 in
theorem fr_X15_isLine (w : Mm) : FrO [32, 37, 44, 50, 51, 52, 53, 54] Prod.snd (f_X15_isLine w) w := by
  unfold f_X15_isLine
  exact (fo_gd (fo_sqv (fun x2 => (fo_br (fo_bd1 (fo_mono (fr_X15_isOrder _ _) (by decide)) (fun r3 w4 => (fo_gd (fo_some fr_refl)))) (fo_br (fo_bd1 (fo_mono (fr_X15_isOrder _ _) (by decide)) (fun r5 w6 => (fo_gd (fo_some fr_refl)))) (fo_br (fo_bd1 (fo_mono (fr_X15_isOrder _ _) (by decide)) (fun r23 w24 => (fo_gd (fo_some fr_refl)))) (fo_bd1 (fo_mono (fr_X15_eat _ _) (by decide)) (fun r7 w8 => (fo_br (fo_bd1 (fo_mono (fr_X15_eat _ _) (by decide)) (fun r9 w10 => (fo_br (fo_some fr_refl) (fo_bd1 (fo_mono (fr_X15_eatAs _ _ _) (by decide)) (fun r11 w12 => (fo_br (fo_some fr_refl) (fo_bd1 (fo_mono (fr_X15_eat _ _) (by decide)) (fun r13 w14 => (fo_br (fo_some fr_refl) (fo_bd1 (fo_mono (fr_X15_eatAs _ _ _) (by decide)) (fun r15 w16 => (fo_br (fo_some fr_refl) (fo_some fr_refl))))))))))))) (fo_bd1 (fo_mono (fr_X15_eatAs _ _ _) (by decide)) (fun r17 w18 => (fo_br (fo_some fr_refl) (fo_bd1 (fo_mono (fr_X15_eat _ _) (by decide)) (fun r19 w20 => (fo_br (fo_some fr_refl) (fo_bd1 (fo_mono (fr_X15_eatAs _ _ _) (by decide)) (fun r21 w22 => (fo_br (fo_some fr_refl) (fo_some fr_refl)))))))))))))))))))
set_option maxRecDepth 100000 in
theorem fr_X15_isBook_L0  : ∀ (n : Nat) (w : Mm), FrO [32, 37, 44, 50, 51, 52, 53, 54] Prod.snd (f_X15_isBook_L0  n w) w := by
  intro n
  induction n with
  | zero => intro w; exact fo_none
  | succ n ih =>
    intro w
    rw [f_X15_isBook_L0]
    exact (fo_bd1 (fo_mono (fr_X15_is _ _) (by decide)) (fun r1 w2 => (fo_br (fo_bd1 (fo_mono (fr_X15_isLine _) (by decide)) (fun r3 w4 => (fo_br (fo_some fr_refl) (fo_bd1 (fo_mono (fr_X15_eatSign _ _) (by decide)) (fun r5 w6 => (fo_br (fo_some fr_refl) (ih w6))))))) (fo_some fr_refl))))
set_option maxRecDepth 100000 in
theorem fr_X15_isBook (w : Mm) : FrO [32, 37, 44, 50, 51, 52, 53, 54] Prod.snd (f_X15_isBook w) w := by
  unfold f_X15_isBook
  exact (fo_bd1 (fo_mono (fr_X15_isBook_L0 _ _) (by decide)) (fun t8 w7 => (fo_br (fo_some fr_refl) (fo_some fr_refl))))
set_option maxRecDepth 100000 in
theorem fr_X15_isSame_L19 (z1 : Int32) (z2 : Int32) : ∀ (n : Nat) (u3 : Int32) (w : Mm), FrO [] Prod.snd (f_X15_isSame_L19 z1 z2 n u3 w) w := by
  intro n
  induction n with
  | zero => intro u3 w; exact fo_none
  | succ n ih =>
    intro u3 w
    rw [f_X15_isSame_L19]
    exact (fo_gd (fo_br (fo_some fr_refl) (fo_gd (fo_gd (fo_gd (fo_gd (fo_br (fo_sqv (fun x8 => (ih x8 w))) (fo_some fr_refl))))))))
set_option maxRecDepth 100000 in
theorem fr_X15_isSame (a1 : Int32) (a2 : Int32) (w : Mm) : FrO [] Prod.snd (f_X15_isSame a1 a2 w) w := by
  unfold f_X15_isSame
  exact (fo_gd (fo_gd (fo_br (fo_bd1 (fo_mono (fr_X15_isSame_L19 _ _ _ _ _) (by decide)) (fun t10 w9 => (fo_br (fo_some fr_refl) (fo_some fr_refl)))) (fo_some fr_refl))))
set_option maxRecDepth 100000 in
theorem fr_X15_told_L5 (z1 : Int32) (z2 : Int32) : ∀ (n : Nat) (u4 : Int32) (u3 : Int32) (w : Mm), FrO [] (fun r => r.2.2) (f_X15_told_L5 z1 z2 n u4 u3 w) w := by
  intro n
  induction n with
  | zero => intro u4 u3 w; exact fo_none
  | succ n ih =>
    intro u4 u3 w
    rw [f_X15_told_L5]
    exact (fo_br (fo_some fr_refl) (fo_gd (fo_br (fo_bd1 (fo_mono (fr_X15_isSame _ _ _) (by decide)) (fun r2 w3 => (fo_br (fo_sqv (fun x4 => (fo_sqv (fun x5 => (ih x5 x4 w3))))) (fo_some fr_refl)))) (fo_sqv (fun x6 => (ih x6 u3 w))))))
set_option maxRecDepth 100000 in
theorem fr_X15_told (a1 : Int32) (a2 : Int32) (w : Mm) : FrO [] Prod.snd (f_X15_told a1 a2 w) w := by
  unfold f_X15_told
  exact (fo_bd2 (fo_mono (fr_X15_told_L5 _ _ _ _ _ _) (by decide)) (fun t9 y7 w8 => (fo_br (fo_some fr_refl) (fo_some fr_refl))))
set_option maxRecDepth 100000 in
theorem fr_X15_inRange (a1 : Int32) (a2 : Int32) (a3 : Int32) (w : Mm) : FrO [] Prod.snd (f_X15_inRange a1 a2 a3 w) w := by
  unfold f_X15_inRange
  exact (fo_bd1 (fo_mono (fr_X15_numberAt _ _) (by decide)) (fun r1 w2 => (fo_bd1 (fo_mono (fr_X15_isIn _ _ _ _) (by decide)) (fun r3 w4 => (fo_br (fo_some fr_refl) (fo_some fr_refl))))))
set_option maxRecDepth 100000 in
theorem fr_X15_look (a1 : Int32) (a2 : Int32) (a3 : Int32) (w : Mm) : FrO [38] Prod.snd (f_X15_look a1 a2 a3 w) w := by
  unfold f_X15_look
  exact (fo_br (fo_br (fo_br (fo_gd (fo_sqm (fr_pI (by decide)) (fun w4 => (fo_br (fo_some fr_refl) (fo_some fr_refl))))) (fo_bd1 (fo_mono (fr_X15_told _ _ _) (by decide)) (fun r5 w6 => (fo_br (fo_gd (fo_sqm (fr_pI (by decide)) (fun w8 => (fo_br (fo_some fr_refl) (fo_some fr_refl))))) (fo_br (fo_gd (fo_sqm (fr_pI (by decide)) (fun w10 => (fo_br (fo_some fr_refl) (fo_some fr_refl))))) (fo_sqv (fun x11 => (fo_gd (fo_sqm (fr_pI (by decide)) (fun w13 => (fo_br (fo_some fr_refl) (fo_some fr_refl)))))))))))) (fo_gd (fo_sqm (fr_pI (by decide)) (fun w2 => (fo_br (fo_some fr_refl) (fo_some fr_refl)))))) (fo_bd1 (fo_mono (fr_X15_told _ _ _) (by decide)) (fun r14 w15 => (fo_br (fo_br (fo_gd (fo_sqm (fr_pI (by decide)) (fun w19 => (fo_br (fo_some fr_refl) (fo_some fr_refl))))) (fo_bd1 (fo_mono (fr_X15_told _ _ _) (by decide)) (fun r20 w21 => (fo_br (fo_gd (fo_sqm (fr_pI (by decide)) (fun w23 => (fo_br (fo_some fr_refl) (fo_some fr_refl))))) (fo_br (fo_gd (fo_sqm (fr_pI (by decide)) (fun w25 => (fo_br (fo_some fr_refl) (fo_some fr_refl))))) (fo_sqv (fun x26 => (fo_gd (fo_sqm (fr_pI (by decide)) (fun w28 => (fo_br (fo_some fr_refl) (fo_some fr_refl)))))))))))) (fo_gd (fo_sqm (fr_pI (by decide)) (fun w17 => (fo_br (fo_some fr_refl) (fo_some fr_refl)))))))))
set_option maxRecDepth 100000 in
theorem fr_X15_isNew (a1 : Int32) (a2 : Int32) (a3 : Int32) (w : Mm) : FrO [] Prod.snd (f_X15_isNew a1 a2 a3 w) w := by
  unfold f_X15_isNew
  exact (fo_bd1 (fo_mono (fr_X15_told _ _ _) (by decide)) (fun r1 w2 => (fo_br (fo_bd1 (fo_mono (fr_X15_told _ _ _) (by decide)) (fun r3 w4 => (fo_br (fo_br (fo_some fr_refl) (fo_some fr_refl)) (fo_some fr_refl)))) (fo_some fr_refl))))
set_option maxRecDepth 100000 in
theorem fr_X15_newHedge (a1 : Int32) (w : Mm) : FrO [44, 45] Prod.snd (f_X15_newHedge a1 w) w := by
  unfold f_X15_newHedge
  exact (fo_gd (fo_sqv (fun p2 => (fo_gd (fo_bd1 (fo_mono (fr_X15_isNew _ _ _ _) (by decide)) (fun r4 w5 => (fo_br (fo_gd (fo_sqv (fun p7 => (fo_gd (fo_gd (fo_sqv (fun p10 => (fo_gd (fo_bd1 (fo_mono (fr_X15_numberAt _ _) (by decide)) (fun r12 w13 => (fo_gd (fo_gd (fo_sqm (fr_pI (by decide)) (fun w15 => (fo_gd (fo_sqv (fun p18 => (fo_gd (fo_gd (fo_sqm (fr_pI (by decide)) (fun w21 => (fo_some fr_refl)))))))))))))))))))))) (fo_some fr_refl))))))))
set_option maxRecDepth 100000 in
theorem fr_X15_newRose (a1 : Int32) (w : Mm) : FrO [44, 46] Prod.snd (f_X15_newRose a1 w) w := by
  unfold f_X15_newRose
  exact (fo_gd (fo_sqv (fun p2 => (fo_gd (fo_bd1 (fo_mono (fr_X15_isNew _ _ _ _) (by decide)) (fun r4 w5 => (fo_br (fo_gd (fo_sqv (fun p7 => (fo_gd (fo_gd (fo_sqv (fun p10 => (fo_gd (fo_bd1 (fo_mono (fr_X15_numberAt _ _) (by decide)) (fun r12 w13 => (fo_gd (fo_gd (fo_sqm (fr_pI (by decide)) (fun w15 => (fo_gd (fo_sqv (fun p18 => (fo_gd (fo_gd (fo_sqm (fr_pI (by decide)) (fun w21 => (fo_some fr_refl)))))))))))))))))))))) (fo_some fr_refl))))))))
set_option maxRecDepth 100000 in
theorem fr_X15_newOrder (a1 : Int32) (w : Mm) : FrO [44, 47] Prod.snd (f_X15_newOrder a1 w) w := by
  unfold f_X15_newOrder
  exact (fo_gd (fo_sqv (fun p2 => (fo_gd (fo_br (fo_some fr_refl) (fo_gd (fo_sqv (fun p5 => (fo_gd (fo_gd (fo_sqv (fun p8 => (fo_gd (fo_gd (fo_gd (fo_sqm (fr_pI (by decide)) (fun w11 => (fo_gd (fo_sqv (fun p14 => (fo_gd (fo_gd (fo_sqm (fr_pI (by decide)) (fun w17 => (fo_some fr_refl)))))))))))))))))))))))))
set_option maxRecDepth 100000 in
theorem fr_X15_ofOrder (a1 : Int32) (a2 : Int32) (w : Mm) : FrO [38, 48, 49] Prod.snd (f_X15_ofOrder a1 a2 w) w := by
  unfold f_X15_ofOrder
  exact (fo_bd1 (fo_mono (fr_X15_look _ _ _ _) (by decide)) (fun r1 w2 => (fo_br (fo_gd (fo_sqv (fun p4 => (fo_gd (fo_gd (fo_sqv (fun p7 => (fo_gd (fo_gd (fo_gd (fo_gd (fo_sqm (fr_pI (by decide)) (fun w11 => (fo_some fr_refl)))))))))))))) (fo_gd (fo_sqv (fun p14 => (fo_gd (fo_gd (fo_sqv (fun p17 => (fo_gd (fo_gd (fo_gd (fo_gd (fo_sqm (fr_pI (by decide)) (fun w21 => (fo_some fr_refl)))))))))))))))))
set_option maxRecDepth 100000 in
theorem fr_X15_errorOf (a1 : Int32) (w : Mm) : FrO [38, 44, 45, 46, 47, 48, 49] Prod.snd (f_X15_errorOf a1 w) w := by
  unfold f_X15_errorOf
  exact (fo_gd (fo_br (fo_some fr_refl) (fo_br (fo_bd1 (fo_mono (fr_X15_newHedge _ _) (by decide)) (fun r2 w3 => (fo_some fr_refl))) (fo_br (fo_bd1 (fo_mono (fr_X15_newRose _ _) (by decide)) (fun r4 w5 => (fo_some fr_refl))) (fo_br (fo_gd (fo_bd1 (fo_mono (fr_X15_newOrder _ _) (by decide)) (fun r7 w8 => (fo_some fr_refl)))) (fo_br (fo_bd1 (fo_mono (fr_X15_ofOrder _ _ _) (by decide)) (fun r9 w10 => (fo_some fr_refl))) (fo_br (fo_bd1 (fo_mono (fr_X15_ofOrder _ _ _) (by decide)) (fun r11 w12 => (fo_some fr_refl))) (fo_br (fo_bd1 (fo_mono (fr_X15_look _ _ _ _) (by decide)) (fun r13 w14 => (fo_some fr_refl))) (fo_br (fo_bd1 (fo_mono (fr_X15_look _ _ _ _) (by decide)) (fun r15 w16 => (fo_some fr_refl))) (fo_br (fo_bd1 (fo_mono (fr_X15_look _ _ _ _) (by decide)) (fun r17 w18 => (fo_some fr_refl))) (fo_bd1 (fo_mono (fr_X15_inRange _ _ _ _) (by decide)) (fun r19 w20 => (fo_some fr_refl)))))))))))))
set_option maxRecDepth 100000 in
theorem fr_X15_read_L57 (b : Nat) (z1 : Int32) : ∀ (n : Nat) (w : Mm), FrO [32, 38, 44, 45, 46, 47, 48, 49] (fun r => r.2.2) (f_X15_read_L57 b z1 n w) w := by
  intro n
  induction n with
  | zero => intro w; exact fo_none
  | succ n ih =>
    intro w
    rw [f_X15_read_L57]
    exact (fo_br (fo_some fr_refl) (fo_bd1 (fo_mono (fr_X15_errorOf _ _) (by decide)) (fun r13 w14 => (fo_br (fo_sqm (fr_pI (by decide)) (fun w15 => (ih w15))) (fo_some fr_refl)))))
set_option maxRecDepth 100000 in
theorem fr_X15_read_L111 (b : Nat) : ∀ (n : Nat) (u2 : Int32) (w : Mm), FrO [53] id (f_X15_read_L111 b n u2 w) w := by
  intro n
  induction n with
  | zero => intro u2 w; exact fo_none
  | succ n ih =>
    intro u2 w
    rw [f_X15_read_L111]
    exact (fo_gd (fo_sqv (fun p22 => (fo_gd (fo_br (fo_some fr_refl) (fo_gd (fo_sqv (fun p25 => (fo_gd (fo_gd (fo_sqv (fun p28 => (fo_gd (fo_gd (fo_gd (fo_gd (fo_sqv (fun p33 => (fo_gd (fo_gd (fo_sqv (fun p36 => (fo_gd (fo_gd (fo_gd (fo_gd (fo_gd (fo_gd (fo_gd (fo_gd (fo_sqm (fr_pI (by decide)) (fun w44 => (fo_sqv (fun x46 => (ih x46 w44)))))))))))))))))))))))))))))))))))
set_option maxRecDepth 100000 in
theorem fr_X15_feed_L51 (b : Nat) (z6 : Nat) : ∀ (n : Nat) (u7 : Int32) (w : Mm), FrO [33] id (f_X15_feed_L51 b z6 n u7 w) w := by
  intro n
  induction n with
  | zero => intro u7 w; exact fo_none
  | succ n ih =>
    intro u7 w
    rw [f_X15_feed_L51]
    exact (fo_br (fo_some fr_refl) (fo_gd (fo_gd (fo_gd (fo_sqm (fr_pI (by decide)) (fun w23 => (fo_sqv (fun x24 => (ih x24 w23)))))))))
set_option maxRecDepth 100000 in
theorem fr_X15_feed (b : Nat) (a1 : Int32) (a2 : Int32) (a3 : Int32) (a4 : Int32) (a5 : Int32) (w : Mm) : FrO [32, 33, 64] Prod.snd (f_X15_feed b a1 a2 a3 a4 a5 w) w := by
  unfold f_X15_feed
  exact (fo_sqm (fr_pI (by decide)) (fun w1 => (fo_br (fo_sqv (fun p4 => (fo_gd (fo_sqm (fr_nw (by decide)) (fun w2 => (fo_gd (fo_gd (fo_sqm (fr_pI (by decide)) (fun w6 => (fo_gd (fo_gd (fo_sqm (fr_pI (by decide)) (fun w9 => (fo_gd (fo_gd (fo_sqm (fr_pI (by decide)) (fun w12 => (fo_gd (fo_gd (fo_sqm (fr_pI (by decide)) (fun w15 => (fo_gd (fo_gd (fo_sqm (fr_pI (by decide)) (fun w18 => (fo_bd0 (fo_mono (fr_X15_feed_L51 _ _ _ _ _) (by decide)) (fun w25 => (fo_sqm (fr_pI (by decide)) (fun w26 => (fo_some fr_refl)))))))))))))))))))))))))))))) (fo_bd1 (fo_mono (fr_X15_no _ _) (by decide)) (fun r27 w28 => (fo_some fr_refl))))))
set_option maxRecDepth 100000 in
theorem fr_X15_trim (a1 : Int32) (w : Mm) : FrO [32] Prod.snd (f_X15_trim a1 w) w := by
  unfold f_X15_trim
  exact (fo_sqm (fr_pI (by decide)) (fun w1 => (fo_bd1 (fo_mono (fr_X15_isIn _ _ _ _) (by decide)) (fun r2 w3 => (fo_br (fo_bd1 (fo_mono (fr_X15_no _ _) (by decide)) (fun r5 w6 => (fo_some fr_refl))) (fo_sqm (fr_pI (by decide)) (fun w4 => (fo_some fr_refl))))))))
set_option maxRecDepth 100000 in
theorem fr_X15_errorAt (w : Mm) : FrO [32] Prod.snd (f_X15_errorAt w) w := by
  unfold f_X15_errorAt
  exact (fo_bd1 (fo_mono (fr_X15_ok _ _) (by decide)) (fun r1 w2 => (fo_some fr_refl)))
set_option maxRecDepth 100000 in
theorem fr_X15_hedges (w : Mm) : FrO [32] Prod.snd (f_X15_hedges w) w := by
  unfold f_X15_hedges
  exact (fo_gd (fo_sqv (fun p2 => (fo_gd (fo_bd1 (fo_mono (fr_X15_ok _ _) (by decide)) (fun r4 w5 => (fo_some fr_refl)))))))
set_option maxRecDepth 100000 in
theorem fr_X15_roses (w : Mm) : FrO [32] Prod.snd (f_X15_roses w) w := by
  unfold f_X15_roses
  exact (fo_gd (fo_sqv (fun p2 => (fo_gd (fo_bd1 (fo_mono (fr_X15_ok _ _) (by decide)) (fun r4 w5 => (fo_some fr_refl)))))))
set_option maxRecDepth 100000 in
theorem fr_X15_day (w : Mm) : FrO [32] Prod.snd (f_X15_day w) w := by
  unfold f_X15_day
  exact (fo_bd1 (fo_mono (fr_X15_ok _ _) (by decide)) (fun r1 w2 => (fo_some fr_refl)))
set_option maxRecDepth 100000 in
theorem fr_X15_ordersCarriedOut (w : Mm) : FrO [32] Prod.snd (f_X15_ordersCarriedOut w) w := by
  unfold f_X15_ordersCarriedOut
  exact (fo_bd1 (fo_mono (fr_X15_ok _ _) (by decide)) (fun r1 w2 => (fo_some fr_refl)))
set_option maxRecDepth 100000 in
theorem fr_X15_whispers (w : Mm) : FrO [32] Prod.snd (f_X15_whispers w) w := by
  unfold f_X15_whispers
  exact (fo_bd1 (fo_mono (fr_X15_ok _ _) (by decide)) (fun r1 w2 => (fo_some fr_refl)))
set_option maxRecDepth 100000 in
theorem fr_X15_cycles (w : Mm) : FrO [32] Prod.snd (f_X15_cycles w) w := by
  unfold f_X15_cycles
  exact (fo_bd1 (fo_mono (fr_X15_ok _ _) (by decide)) (fun r1 w2 => (fo_some fr_refl)))
set_option maxRecDepth 100000 in
theorem fr_X14_allLeft_L4 (z0 : Nat) : ∀ (n : Nat) (u2 : Int32) (u1 : Int32) (w : Mm), FrO [] Prod.snd (f_X14_allLeft_L4 z0 n u2 u1 w) w := by
  intro n
  induction n with
  | zero => intro u2 u1 w; exact fo_none
  | succ n ih =>
    intro u2 u1 w
    rw [f_X14_allLeft_L4]
    exact (fo_gd (fo_sqv (fun p2 => (fo_gd (fo_br (fo_some fr_refl) (fo_gd (fo_sqv (fun x5 => (fo_sqv (fun x6 => (ih x6 x5 w)))))))))))
set_option maxRecDepth 100000 in
theorem fr_X14_allLeft (a0 : Nat) (w : Mm) : FrO [] Prod.snd (f_X14_allLeft a0 w) w := by
  unfold f_X14_allLeft
  exact (fo_bd1 (fo_mono (fr_X14_allLeft_L4 _ _ _ _ _) (by decide)) (fun y7 w8 => (fo_some fr_refl)))
set_option maxRecDepth 100000 in
theorem fr_X15_departures (w : Mm) : FrO [32] Prod.snd (f_X15_departures w) w := by
  unfold f_X15_departures
  exact (fo_bd1 (fo_mono (fr_X14_allLeft _ _) (by decide)) (fun r1 w2 => (fo_bd1 (fo_mono (fr_X15_ok _ _) (by decide)) (fun r3 w4 => (fo_some fr_refl)))))
set_option maxRecDepth 100000 in
theorem fr_X15_isKnown (a1 : Int32) (w : Mm) : FrO [32] Prod.snd (f_X15_isKnown a1 w) w := by
  unfold f_X15_isKnown
  exact (fo_br (fo_sqm (fr_pI (by decide)) (fun w1 => (fo_gd (fo_some fr_refl)))) (fo_sqm (fr_pI (by decide)) (fun w2 => (fo_gd (fo_some fr_refl)))))
set_option maxRecDepth 100000 in
theorem fr_X15_hushOf (a1 : Int32) (w : Mm) : FrO [32] Prod.snd (f_X15_hushOf a1 w) w := by
  unfold f_X15_hushOf
  exact (fo_bd1 (fo_mono (fr_X15_isHedge _ _) (by decide)) (fun r1 w2 => (fo_bd1 (fo_mono (fr_X15_isKnown _ _) (by decide)) (fun r3 w4 => (fo_br (fo_some fr_refl) (fo_gd (fo_sqv (fun p6 => (fo_gd (fo_gd (fo_gd (fo_some fr_refl))))))))))))
set_option maxRecDepth 100000 in
theorem fr_X15_heardBy (a1 : Int32) (w : Mm) : FrO [32] Prod.snd (f_X15_heardBy a1 w) w := by
  unfold f_X15_heardBy
  exact (fo_bd1 (fo_mono (fr_X15_isHedge _ _) (by decide)) (fun r1 w2 => (fo_bd1 (fo_mono (fr_X15_isKnown _ _) (by decide)) (fun r3 w4 => (fo_br (fo_some fr_refl) (fo_gd (fo_some fr_refl)))))))
set_option maxRecDepth 100000 in
theorem fr_X15_latestOf (a1 : Int32) (w : Mm) : FrO [32] Prod.snd (f_X15_latestOf a1 w) w := by
  unfold f_X15_latestOf
  exact (fo_bd1 (fo_mono (fr_X15_isHedge _ _) (by decide)) (fun r1 w2 => (fo_bd1 (fo_mono (fr_X15_isKnown _ _) (by decide)) (fun r3 w4 => (fo_br (fo_some fr_refl) (fo_gd (fo_some fr_refl)))))))
set_option maxRecDepth 100000 in
theorem fr_X15_listenersOf (a1 : Int32) (w : Mm) : FrO [32] Prod.snd (f_X15_listenersOf a1 w) w := by
  unfold f_X15_listenersOf
  exact (fo_bd1 (fo_mono (fr_X15_isHedge _ _) (by decide)) (fun r1 w2 => (fo_bd1 (fo_mono (fr_X15_isKnown _ _) (by decide)) (fun r3 w4 => (fo_br (fo_some fr_refl) (fo_gd (fo_some fr_refl)))))))
set_option maxRecDepth 100000 in
theorem fr_X14_at (a0 : Nat) (a1 : Int32) (a2 : Int32) (w : Mm) : FrO [] Prod.snd (f_X14_at a0 a1 a2 w) w := by
  unfold f_X14_at
  exact (fo_some fr_refl)
set_option maxRecDepth 100000 in
theorem fr_X14_placeIn_L2 (z0 : Nat) (z1 : Int32) (z2 : Int32) : ∀ (n : Nat) (u3 : Int32) (w : Mm), FrO [] (fun r => r.2.2) (f_X14_placeIn_L2 z0 z1 z2 n u3 w) w := by
  intro n
  induction n with
  | zero => intro u3 w; exact fo_none
  | succ n ih =>
    intro u3 w
    rw [f_X14_placeIn_L2]
    exact (fo_gd (fo_br (fo_some fr_refl) (fo_bd1 (fo_mono (fr_X14_at _ _ _ _) (by decide)) (fun r2 w3 => (fo_gd (fo_br (fo_some fr_refl) (fo_sqv (fun x5 => (ih x5 w3)))))))))
set_option maxRecDepth 100000 in
theorem fr_X14_placeIn (a0 : Nat) (a1 : Int32) (a2 : Int32) (w : Mm) : FrO [] Prod.snd (f_X14_placeIn a0 a1 a2 w) w := by
  unfold f_X14_placeIn
  exact (fo_bd2 (fo_mono (fr_X14_placeIn_L2 _ _ _ _ _ _) (by decide)) (fun t8 y6 w7 => (fo_br (fo_some fr_refl) (fo_some fr_refl))))
set_option maxRecDepth 100000 in
theorem fr_X15_hedgeInRow (a1 : Int32) (a2 : Int32) (w : Mm) : FrO [32] Prod.snd (f_X15_hedgeInRow a1 a2 w) w := by
  unfold f_X15_hedgeInRow
  exact (fo_bd1 (fo_mono (fr_X15_isHedge _ _) (by decide)) (fun r1 w2 => (fo_br (fo_bd1 (fo_mono (fr_X15_isKnown _ _) (by decide)) (fun r3 w4 => (fo_br (fo_some fr_refl) (fo_bd1 (fo_mono (fr_X14_placeIn _ _ _ _) (by decide)) (fun r5 w6 => (fo_some fr_refl)))))) (fo_bd1 (fo_mono (fr_X15_isHedge _ _) (by decide)) (fun r7 w8 => (fo_br (fo_bd1 (fo_mono (fr_X15_isKnown _ _) (by decide)) (fun r9 w10 => (fo_br (fo_some fr_refl) (fo_bd1 (fo_mono (fr_X14_placeIn _ _ _ _) (by decide)) (fun r11 w12 => (fo_some fr_refl)))))) (fo_bd1 (fo_mono (fr_X15_isKnown _ _) (by decide)) (fun r13 w14 => (fo_br (fo_some fr_refl) (fo_bd1 (fo_mono (fr_X14_placeIn _ _ _ _) (by decide)) (fun r15 w16 => (fo_some fr_refl))))))))))))
set_option maxRecDepth 100000 in
theorem fr_X15_roseInRow (a1 : Int32) (a2 : Int32) (w : Mm) : FrO [32] Prod.snd (f_X15_roseInRow a1 a2 w) w := by
  unfold f_X15_roseInRow
  exact (fo_bd1 (fo_mono (fr_X15_isRose _ _) (by decide)) (fun r1 w2 => (fo_br (fo_bd1 (fo_mono (fr_X15_isKnown _ _) (by decide)) (fun r3 w4 => (fo_br (fo_some fr_refl) (fo_bd1 (fo_mono (fr_X14_placeIn _ _ _ _) (by decide)) (fun r5 w6 => (fo_some fr_refl)))))) (fo_bd1 (fo_mono (fr_X15_isHedge _ _) (by decide)) (fun r7 w8 => (fo_br (fo_bd1 (fo_mono (fr_X15_isKnown _ _) (by decide)) (fun r9 w10 => (fo_br (fo_some fr_refl) (fo_bd1 (fo_mono (fr_X14_placeIn _ _ _ _) (by decide)) (fun r11 w12 => (fo_some fr_refl)))))) (fo_bd1 (fo_mono (fr_X15_isKnown _ _) (by decide)) (fun r13 w14 => (fo_br (fo_some fr_refl) (fo_bd1 (fo_mono (fr_X14_placeIn _ _ _ _) (by decide)) (fun r15 w16 => (fo_some fr_refl))))))))))))
set_option maxRecDepth 100000 in
theorem fr_X15_patienceOf (a1 : Int32) (w : Mm) : FrO [32] Prod.snd (f_X15_patienceOf a1 w) w := by
  unfold f_X15_patienceOf
  exact (fo_bd1 (fo_mono (fr_X15_isRose _ _) (by decide)) (fun r1 w2 => (fo_bd1 (fo_mono (fr_X15_isKnown _ _) (by decide)) (fun r3 w4 => (fo_br (fo_some fr_refl) (fo_gd (fo_sqv (fun p6 => (fo_gd (fo_gd (fo_gd (fo_some fr_refl))))))))))))
set_option maxRecDepth 100000 in
theorem fr_X15_petalsOf (a1 : Int32) (w : Mm) : FrO [32] Prod.snd (f_X15_petalsOf a1 w) w := by
  unfold f_X15_petalsOf
  exact (fo_bd1 (fo_mono (fr_X15_isRose _ _) (by decide)) (fun r1 w2 => (fo_bd1 (fo_mono (fr_X15_isKnown _ _) (by decide)) (fun r3 w4 => (fo_br (fo_some fr_refl) (fo_gd (fo_some fr_refl)))))))
set_option maxRecDepth 100000 in
theorem fr_X15_countOf (a1 : Int32) (w : Mm) : FrO [32] Prod.snd (f_X15_countOf a1 w) w := by
  unfold f_X15_countOf
  exact (fo_bd1 (fo_mono (fr_X15_isRose _ _) (by decide)) (fun r1 w2 => (fo_bd1 (fo_mono (fr_X15_isKnown _ _) (by decide)) (fun r3 w4 => (fo_br (fo_some fr_refl) (fo_gd (fo_some fr_refl)))))))
set_option maxRecDepth 100000 in
theorem fr_X14_manyOf_L4 (z0 : Nat) (z1 : Int32) : ∀ (n : Nat) (u3 : Int32) (u2 : Int32) (w : Mm), FrO [] Prod.snd (f_X14_manyOf_L4 z0 z1 n u3 u2 w) w := by
  intro n
  induction n with
  | zero => intro u3 u2 w; exact fo_none
  | succ n ih =>
    intro u3 u2 w
    rw [f_X14_manyOf_L4]
    exact (fo_gd (fo_sqv (fun p2 => (fo_gd (fo_br (fo_some fr_refl) (fo_bd1 (fo_mono (fr_X14_placeIn _ _ _ _) (by decide)) (fun r4 w5 => (fo_br (fo_sqv (fun x8 => (fo_sqv (fun x9 => (ih x9 x8 w5))))) (fo_sqv (fun x6 => (fo_sqv (fun x7 => (ih x7 x6 w5)))))))))))))
set_option maxRecDepth 100000 in
theorem fr_X14_manyOf (a0 : Nat) (a1 : Int32) (w : Mm) : FrO [] Prod.snd (f_X14_manyOf a0 a1 w) w := by
  unfold f_X14_manyOf
  exact (fo_bd1 (fo_mono (fr_X14_manyOf_L4 _ _ _ _ _ _) (by decide)) (fun y10 w11 => (fo_some fr_refl)))
set_option maxRecDepth 100000 in
theorem fr_X15_hedgesOf (a1 : Int32) (w : Mm) : FrO [32] Prod.snd (f_X15_hedgesOf a1 w) w := by
  unfold f_X15_hedgesOf
  exact (fo_bd1 (fo_mono (fr_X15_isRose _ _) (by decide)) (fun r1 w2 => (fo_bd1 (fo_mono (fr_X15_isKnown _ _) (by decide)) (fun r3 w4 => (fo_br (fo_some fr_refl) (fo_bd1 (fo_mono (fr_X14_manyOf _ _ _) (by decide)) (fun r5 w6 => (fo_some fr_refl))))))))
set_option maxRecDepth 100000 in
theorem fr_X14_full_L4 (z0 : Nat) : ∀ (n : Nat) (u2 : Int32) (u1 : Int32) (w : Mm), FrO [] Prod.snd (f_X14_full_L4 z0 n u2 u1 w) w := by
  intro n
  induction n with
  | zero => intro u2 u1 w; exact fo_none
  | succ n ih =>
    intro u2 u1 w
    rw [f_X14_full_L4]
    exact (fo_gd (fo_sqv (fun p2 => (fo_gd (fo_br (fo_some fr_refl) (fo_br (fo_sqv (fun x4 => (ih x4 u2 w))) (fo_gd (fo_gd (fo_br (fo_sqv (fun x7 => (ih x7 u1 w))) (fo_sqv (fun x8 => (ih x8 u2 w))))))))))))
set_option maxRecDepth 100000 in
theorem fr_X14_full (a0 : Nat) (w : Mm) : FrO [] Prod.snd (f_X14_full a0 w) w := by
  unfold f_X14_full
  exact (fo_bd1 (fo_mono (fr_X14_full_L4 _ _ _ _ _) (by decide)) (fun y9 w10 => (fo_some fr_refl)))
set_option maxRecDepth 100000 in
theorem fr_X15_fullest (w : Mm) : FrO [32] Prod.snd (f_X15_fullest w) w := by
  unfold f_X15_fullest
  exact (fo_bd1 (fo_mono (fr_X14_full _ _) (by decide)) (fun r1 w2 => (fo_bd1 (fo_mono (fr_X15_ok _ _) (by decide)) (fun r3 w4 => (fo_some fr_refl)))))
set_option maxRecDepth 100000 in
theorem fr_X14_canListen (a0 : Nat) (a1 : Int32) (a2 : Int32) (w : Mm) : FrO [] Prod.snd (f_X14_canListen a0 a1 a2 w) w := by
  unfold f_X14_canListen
  exact (fo_br (fo_some fr_refl) (fo_bd1 (fo_mono (fr_X14_placeIn _ _ _ _) (by decide)) (fun r1 w2 => (fo_br (fo_some fr_refl) (fo_some fr_refl)))))
set_option maxRecDepth 100000 in
theorem fr_X14_listens (a0 : Nat) (a1 : Int32) (a2 : Int32) (w : Mm) : FrO [56, 57, 61] Prod.snd (f_X14_listens a0 a1 a2 w) w := by
  unfold f_X14_listens
  exact (fo_gd (fo_bd1 (fo_mono (fr_X14_at _ _ _ _) (by decide)) (fun r2 w3 => (fo_gd (fo_sqm (fr_pI (by decide)) (fun w5 => (fo_gd (fo_gd (fo_sqm (fr_pI (by decide)) (fun w8 => (fo_br (fo_gd (fo_some fr_refl)) (fo_gd (fo_sqm (fr_pI (by decide)) (fun w11 => (fo_gd (fo_some fr_refl))))))))))))))))
set_option maxRecDepth 100000 in
theorem fr_X15_listens (a1 : Int32) (a2 : Int32) (w : Mm) : FrO [32, 56, 57, 61] Prod.snd (f_X15_listens a1 a2 w) w := by
  unfold f_X15_listens
  exact (fo_bd1 (fo_mono (fr_X14_canListen _ _ _ _) (by decide)) (fun r1 w2 => (fo_br (fo_bd1 (fo_mono (fr_X15_no _ _) (by decide)) (fun r3 w4 => (fo_some fr_refl))) (fo_bd1 (fo_mono (fr_X14_listens _ _ _ _) (by decide)) (fun r5 w6 => (fo_some fr_refl))))))
set_option maxRecDepth 100000 in
theorem fr_X14_leaves_L20 (z0 : Nat) (z2 : Int32) : ∀ (n : Nat) (u4 : Int32) (w : Mm), FrO [56] id (f_X14_leaves_L20 z0 z2 n u4 w) w := by
  intro n
  induction n with
  | zero => intro u4 w; exact fo_none
  | succ n ih =>
    intro u4 w
    rw [f_X14_leaves_L20]
    exact (fo_gd (fo_br (fo_some fr_refl) (fo_bd1 (fo_mono (fr_X14_at _ _ _ _) (by decide)) (fun r7 w8 => (fo_bd1 (fo_mono (fr_X14_at _ _ _ _) (by decide)) (fun r9 w10 => (fo_gd (fo_gd (fo_sqm (fr_pI (by decide)) (fun w13 => (fo_sqv (fun x14 => (ih x14 w13)))))))))))))
set_option maxRecDepth 100000 in
theorem fr_X14_leaves (a0 : Nat) (a1 : Int32) (a2 : Int32) (w : Mm) : FrO [56, 57] Prod.snd (f_X14_leaves a0 a1 a2 w) w := by
  unfold f_X14_leaves
  exact (fo_bd1 (fo_mono (fr_X14_placeIn _ _ _ _) (by decide)) (fun r1 w2 => (fo_gd (fo_gd (fo_sqm (fr_pI (by decide)) (fun w5 => (fo_bd0 (fo_mono (fr_X14_leaves_L20 _ _ _ _ _) (by decide)) (fun w15 => (fo_gd (fo_some fr_refl))))))))))
set_option maxRecDepth 100000 in
theorem fr_X15_leaves (a1 : Int32) (a2 : Int32) (w : Mm) : FrO [32, 56, 57] Prod.snd (f_X15_leaves a1 a2 w) w := by
  unfold f_X15_leaves
  exact (fo_bd1 (fo_mono (fr_X14_placeIn _ _ _ _) (by decide)) (fun r1 w2 => (fo_br (fo_bd1 (fo_mono (fr_X15_no _ _) (by decide)) (fun r5 w6 => (fo_some fr_refl))) (fo_bd1 (fo_mono (fr_X14_leaves _ _ _ _) (by decide)) (fun r3 w4 => (fo_some fr_refl))))))
set_option maxRecDepth 100000 in
theorem fr_X15_hedgeListens (a1 : Int32) (a2 : Int32) (w : Mm) : FrO [32, 56, 57, 61] Prod.snd (f_X15_hedgeListens a1 a2 w) w := by
  unfold f_X15_hedgeListens
  exact (fo_bd1 (fo_mono (fr_X15_isHedge _ _) (by decide)) (fun r1 w2 => (fo_br (fo_bd1 (fo_mono (fr_X15_isKnown _ _) (by decide)) (fun r3 w4 => (fo_br (fo_some fr_refl) (fo_bd1 (fo_mono (fr_X15_listens _ _ _) (by decide)) (fun r5 w6 => (fo_some fr_refl)))))) (fo_bd1 (fo_mono (fr_X15_isHedge _ _) (by decide)) (fun r7 w8 => (fo_br (fo_bd1 (fo_mono (fr_X15_isKnown _ _) (by decide)) (fun r9 w10 => (fo_br (fo_some fr_refl) (fo_bd1 (fo_mono (fr_X15_listens _ _ _) (by decide)) (fun r11 w12 => (fo_some fr_refl)))))) (fo_bd1 (fo_mono (fr_X15_isKnown _ _) (by decide)) (fun r13 w14 => (fo_br (fo_some fr_refl) (fo_bd1 (fo_mono (fr_X15_listens _ _ _) (by decide)) (fun r15 w16 => (fo_some fr_refl))))))))))))
set_option maxRecDepth 100000 in
theorem fr_X15_roseListens (a1 : Int32) (a2 : Int32) (w : Mm) : FrO [32, 56, 57, 61] Prod.snd (f_X15_roseListens a1 a2 w) w := by
  unfold f_X15_roseListens
  exact (fo_bd1 (fo_mono (fr_X15_isRose _ _) (by decide)) (fun r1 w2 => (fo_br (fo_bd1 (fo_mono (fr_X15_isKnown _ _) (by decide)) (fun r3 w4 => (fo_br (fo_some fr_refl) (fo_bd1 (fo_mono (fr_X15_listens _ _ _) (by decide)) (fun r5 w6 => (fo_some fr_refl)))))) (fo_bd1 (fo_mono (fr_X15_isHedge _ _) (by decide)) (fun r7 w8 => (fo_br (fo_bd1 (fo_mono (fr_X15_isKnown _ _) (by decide)) (fun r9 w10 => (fo_br (fo_some fr_refl) (fo_bd1 (fo_mono (fr_X15_listens _ _ _) (by decide)) (fun r11 w12 => (fo_some fr_refl)))))) (fo_bd1 (fo_mono (fr_X15_isKnown _ _) (by decide)) (fun r13 w14 => (fo_br (fo_some fr_refl) (fo_bd1 (fo_mono (fr_X15_listens _ _ _) (by decide)) (fun r15 w16 => (fo_some fr_refl))))))))))))
set_option maxRecDepth 100000 in
theorem fr_X15_hedgeLeaves (a1 : Int32) (a2 : Int32) (w : Mm) : FrO [32, 56, 57] Prod.snd (f_X15_hedgeLeaves a1 a2 w) w := by
  unfold f_X15_hedgeLeaves
  exact (fo_bd1 (fo_mono (fr_X15_isHedge _ _) (by decide)) (fun r1 w2 => (fo_br (fo_bd1 (fo_mono (fr_X15_isKnown _ _) (by decide)) (fun r3 w4 => (fo_br (fo_some fr_refl) (fo_bd1 (fo_mono (fr_X15_leaves _ _ _) (by decide)) (fun r5 w6 => (fo_some fr_refl)))))) (fo_bd1 (fo_mono (fr_X15_isHedge _ _) (by decide)) (fun r7 w8 => (fo_br (fo_bd1 (fo_mono (fr_X15_isKnown _ _) (by decide)) (fun r9 w10 => (fo_br (fo_some fr_refl) (fo_bd1 (fo_mono (fr_X15_leaves _ _ _) (by decide)) (fun r11 w12 => (fo_some fr_refl)))))) (fo_bd1 (fo_mono (fr_X15_isKnown _ _) (by decide)) (fun r13 w14 => (fo_br (fo_some fr_refl) (fo_bd1 (fo_mono (fr_X15_leaves _ _ _) (by decide)) (fun r15 w16 => (fo_some fr_refl))))))))))))
set_option maxRecDepth 100000 in
theorem fr_X15_roseLeaves (a1 : Int32) (a2 : Int32) (w : Mm) : FrO [32, 56, 57] Prod.snd (f_X15_roseLeaves a1 a2 w) w := by
  unfold f_X15_roseLeaves
  exact (fo_bd1 (fo_mono (fr_X15_isRose _ _) (by decide)) (fun r1 w2 => (fo_br (fo_bd1 (fo_mono (fr_X15_isKnown _ _) (by decide)) (fun r3 w4 => (fo_br (fo_some fr_refl) (fo_bd1 (fo_mono (fr_X15_leaves _ _ _) (by decide)) (fun r5 w6 => (fo_some fr_refl)))))) (fo_bd1 (fo_mono (fr_X15_isHedge _ _) (by decide)) (fun r7 w8 => (fo_br (fo_bd1 (fo_mono (fr_X15_isKnown _ _) (by decide)) (fun r9 w10 => (fo_br (fo_some fr_refl) (fo_bd1 (fo_mono (fr_X15_leaves _ _ _) (by decide)) (fun r11 w12 => (fo_some fr_refl)))))) (fo_bd1 (fo_mono (fr_X15_isKnown _ _) (by decide)) (fun r13 w14 => (fo_br (fo_some fr_refl) (fo_bd1 (fo_mono (fr_X15_leaves _ _ _) (by decide)) (fun r15 w16 => (fo_some fr_refl))))))))))))
set_option maxRecDepth 100000 in
theorem fr_X15_isNews (a1 : Int32) (a2 : Int32) (w : Mm) : FrO [32] Prod.snd (f_X15_isNews a1 a2 w) w := by
  unfold f_X15_isNews
  exact (fo_bd1 (fo_mono (fr_X15_isHedge _ _) (by decide)) (fun r1 w2 => (fo_bd1 (fo_mono (fr_X15_isKnown _ _) (by decide)) (fun r3 w4 => (fo_br (fo_some fr_refl) (fo_bd1 (fo_mono (fr_X15_isIn _ _ _ _) (by decide)) (fun r5 w6 => (fo_br (fo_sqm (fr_pI (by decide)) (fun w7 => (fo_br (fo_some fr_refl) (fo_some fr_refl)))) (fo_sqm (fr_pI (by decide)) (fun w8 => (fo_br (fo_some fr_refl) (fo_some fr_refl))))))))))))
set_option maxRecDepth 100000 in
theorem fr_X14_hedgeHears_L80 (z0 : Nat) (z1 : Int32) (z2 : Int32) : ∀ (n : Nat) (u3 : Int32) (w : Mm), FrO [32, 40, 41, 42] id (f_X14_hedgeHears_L80 z0 z1 z2 n u3 w) w := by
  intro n
  induction n with
  | zero => intro u3 w; exact fo_none
  | succ n ih =>
    intro u3 w
    rw [f_X14_hedgeHears_L80]
    exact (fo_gd (fo_br (fo_some fr_refl) (fo_gd (fo_sqv (fun p11 => (fo_gd (fo_gd (fo_gd (fo_br (fo_some fr_refl) (fo_bd1 (fo_mono (fr_X14_at _ _ _ _) (by decide)) (fun r15 w16 => (fo_gd (fo_gd (fo_sqm (fr_pI (by decide)) (fun w19 => (fo_gd (fo_sqm (fr_pI (by decide)) (fun w21 => (fo_gd (fo_sqv (fun p23 => (fo_gd (fo_gd (fo_gd (fo_gd (fo_sqm (fr_pI (by decide)) (fun w28 => (fo_sqm (fr_pI (by decide)) (fun w29 => (fo_sqv (fun x30 => (ih x30 w29))))))))))))))))))))))))))))))))
set_option maxRecDepth 100000 in
theorem fr_X14_hedgeHears (a0 : Nat) (a1 : Int32) (a2 : Int32) (w : Mm) : FrO [32, 40, 41, 42, 43, 55, 58, 59] id (f_X14_hedgeHears a0 a1 a2 w) w := by
  unfold f_X14_hedgeHears
  exact (fo_gd (fo_br (fo_gd (fo_sqm (fr_pI (by decide)) (fun w3 => (fo_gd (fo_gd (fo_sqm (fr_pI (by decide)) (fun w6 => (fo_gd (fo_sqm (fr_pI (by decide)) (fun w8 => (fo_bd0 (fo_mono (fr_X14_hedgeHears_L80 _ _ _ _ _ _) (by decide)) (fun w31 => (fo_some fr_refl))))))))))))) (fo_sqm (fr_pI (by decide)) (fun w32 => (fo_br (fo_gd (fo_sqm (fr_pI (by decide)) (fun w36 => (fo_some fr_refl)))) (fo_gd (fo_sqm (fr_pI (by decide)) (fun w34 => (fo_some fr_refl)))))))))
set_option maxRecDepth 100000 in
theorem fr_X14_roseHears (a0 : Nat) (a1 : Int32) (a2 : Int32) (a3 : Int32) (w : Mm) : FrO [56, 57, 60, 61, 62] id (f_X14_roseHears a0 a1 a2 a3 w) w := by
  unfold f_X14_roseHears
  exact (fo_gd (fo_gd (fo_sqm (fr_pI (by decide)) (fun w3 => (fo_gd (fo_gd (fo_sqm (fr_pI (by decide)) (fun w6 => (fo_gd (fo_gd (fo_sqv (fun p9 => (fo_gd (fo_gd (fo_gd (fo_br (fo_gd (fo_sqm (fr_pI (by decide)) (fun w14 => (fo_gd (fo_gd (fo_sqm (fr_pI (by decide)) (fun w17 => (fo_bd1 (fo_mono (fr_X14_leaves _ _ _ _) (by decide)) (fun r18 w19 => (fo_some fr_refl)))))))))) (fo_some fr_refl)))))))))))))))))
set_option maxRecDepth 100000 in
theorem fr_X14_news_L2 (z0 : Nat) (z1 : Int32) (z2 : Int32) : ∀ (n : Nat) (u3 : Int32) (w : Mm), FrO [43] id (f_X14_news_L2 z0 z1 z2 n u3 w) w := by
  intro n
  induction n with
  | zero => intro u3 w; exact fo_none
  | succ n ih =>
    intro u3 w
    rw [f_X14_news_L2]
    exact (fo_br (fo_some fr_refl) (fo_gd (fo_sqm (fr_pI (by decide)) (fun w2 => (fo_sqv (fun x3 => (ih x3 w2)))))))
set_option maxRecDepth 100000 in
theorem fr_X14_news_L56 (z0 : Nat) : ∀ (n : Nat) (u3 : Int32) (w : Mm), FrO [32, 40, 41, 42, 43, 55, 56, 57, 58, 59, 60, 61, 62] id (f_X14_news_L56 z0 n u3 w) w := by
  intro n
  induction n with
  | zero => intro u3 w; exact fo_none
  | succ n ih =>
    intro u3 w
    rw [f_X14_news_L56]
    exact (fo_br (fo_some fr_refl) (fo_gd (fo_br (fo_gd (fo_gd (fo_gd (fo_bd0 (fo_mono (fr_X14_roseHears _ _ _ _ _) (by decide)) (fun w13 => (fo_sqv (fun x14 => (ih x14 w13)))))))) (fo_gd (fo_gd (fo_bd0 (fo_mono (fr_X14_hedgeHears _ _ _ _) (by decide)) (fun w17 => (fo_sqv (fun x18 => (ih x18 w17))))))))))
set_option maxRecDepth 100000 in
theorem fr_X14_news (a0 : Nat) (a1 : Int32) (a2 : Int32) (w : Mm) : FrO [32, 40, 41, 42, 43, 55, 56, 57, 58, 59, 60, 61, 62] Prod.snd (f_X14_news a0 a1 a2 w) w := by
  unfold f_X14_news
  exact (fo_bd0 (fo_mono (fr_X14_news_L2 _ _ _ _ _ _) (by decide)) (fun w4 => (fo_sqm (fr_pI (by decide)) (fun w5 => (fo_sqm (fr_pI (by decide)) (fun w6 => (fo_sqm (fr_pI (by decide)) (fun w7 => (fo_bd0 (fo_mono (fr_X14_hedgeHears _ _ _ _) (by decide)) (fun w8 => (fo_bd0 (fo_mono (fr_X14_news_L56 _ _ _ _) (by decide)) (fun w19 => (fo_sqm (fr_pI (by decide)) (fun w20 => (fo_some fr_refl)))))))))))))))
set_option maxRecDepth 100000 in
theorem fr_X15_tell (a1 : Int32) (a2 : Int32) (w : Mm) : FrO [32, 40, 41, 42, 43, 55, 56, 57, 58, 59, 60, 61, 62] Prod.snd (f_X15_tell a1 a2 w) w := by
  unfold f_X15_tell
  exact (fo_bd1 (fo_mono (fr_X15_isNews _ _ _) (by decide)) (fun r1 w2 => (fo_br (fo_some fr_refl) (fo_bd1 (fo_mono (fr_X14_news _ _ _ _) (by decide)) (fun r3 w4 => (fo_some fr_refl))))))
set_option maxRecDepth 100000 in
theorem fr_X14_told (a0 : Nat) (a1 : Int32) (a2 : Int32) (w : Mm) : FrO [] Prod.snd (f_X14_told a0 a1 a2 w) w := by
  unfold f_X14_told
  exact (fo_br (fo_some fr_refl) (fo_br (fo_some fr_refl) (fo_br (fo_some fr_refl) (fo_br (fo_gd (fo_some fr_refl)) (fo_br (fo_gd (fo_some fr_refl)) (fo_gd (fo_some fr_refl)))))))
set_option maxRecDepth 100000 in
theorem fr_X14_reckon_L5 (z0 : Nat) (z2 : Int32) : ∀ (n : Nat) (u4 : Int32) (u3 : Int32) (w : Mm), FrO [39] id (f_X14_reckon_L5 z0 z2 n u4 u3 w) w := by
  intro n
  induction n with
  | zero => intro u4 u3 w; exact fo_none
  | succ n ih =>
    intro u4 u3 w
    rw [f_X14_reckon_L5]
    exact (fo_br (fo_some fr_refl) (fo_gd (fo_sqv (fun p2 => (fo_gd (fo_gd (fo_gd (fo_sqv (fun x6 => (fo_sqv (fun x7 => (fo_br (fo_br (fo_br (fo_gd (fo_sqv (fun p34 => (fo_gd (fo_gd (fo_gd (fo_gd (fo_sqm (fr_pI (by decide)) (fun w39 => (fo_br (fo_br (fo_sqv (fun x44 => (fo_sqv (fun x45 => (ih x44 x45 w39))))) (fo_sqv (fun x42 => (fo_sqv (fun x43 => (ih x42 x43 w39)))))) (fo_sqv (fun x40 => (fo_sqv (fun x41 => (ih x40 x41 w39))))))))))))))) (fo_br (fo_bd1 (fo_mono (fr_X14_told _ _ _ _) (by decide)) (fun r8 w9 => (fo_gd (fo_sqm (fr_pI (by decide)) (fun w11 => (fo_br (fo_br (fo_sqv (fun x16 => (fo_sqv (fun x17 => (ih x16 x17 w11))))) (fo_sqv (fun x14 => (fo_sqv (fun x15 => (ih x14 x15 w11)))))) (fo_sqv (fun x12 => (fo_sqv (fun x13 => (ih x12 x13 w11))))))))))) (fo_gd (fo_sqv (fun p19 => (fo_gd (fo_gd (fo_gd (fo_bd1 (fo_mono (fr_X14_told _ _ _ _) (by decide)) (fun r23 w24 => (fo_gd (fo_sqm (fr_pI (by decide)) (fun w26 => (fo_br (fo_br (fo_sqv (fun x31 => (fo_sqv (fun x32 => (ih x31 x32 w26))))) (fo_sqv (fun x29 => (fo_sqv (fun x30 => (ih x29 x30 w26)))))) (fo_sqv (fun x27 => (fo_sqv (fun x28 => (ih x27 x28 w26))))))))))))))))))) (fo_br (fo_br (fo_gd (fo_sqv (fun p72 => (fo_gd (fo_gd (fo_gd (fo_gd (fo_sqm (fr_pI (by decide)) (fun w77 => (fo_br (fo_br (fo_sqv (fun x82 => (fo_sqv (fun x83 => (ih x82 x83 w77))))) (fo_sqv (fun x80 => (fo_sqv (fun x81 => (ih x80 x81 w77)))))) (fo_sqv (fun x78 => (fo_sqv (fun x79 => (ih x78 x79 w77))))))))))))))) (fo_br (fo_bd1 (fo_mono (fr_X14_told _ _ _ _) (by decide)) (fun r46 w47 => (fo_gd (fo_sqm (fr_pI (by decide)) (fun w49 => (fo_br (fo_br (fo_sqv (fun x54 => (fo_sqv (fun x55 => (ih x54 x55 w49))))) (fo_sqv (fun x52 => (fo_sqv (fun x53 => (ih x52 x53 w49)))))) (fo_sqv (fun x50 => (fo_sqv (fun x51 => (ih x50 x51 w49))))))))))) (fo_gd (fo_sqv (fun p57 => (fo_gd (fo_gd (fo_gd (fo_bd1 (fo_mono (fr_X14_told _ _ _ _) (by decide)) (fun r61 w62 => (fo_gd (fo_sqm (fr_pI (by decide)) (fun w64 => (fo_br (fo_br (fo_sqv (fun x69 => (fo_sqv (fun x70 => (ih x69 x70 w64))))) (fo_sqv (fun x67 => (fo_sqv (fun x68 => (ih x67 x68 w64)))))) (fo_sqv (fun x65 => (fo_sqv (fun x66 => (ih x65 x66 w64))))))))))))))))))) (fo_br (fo_gd (fo_sqv (fun p110 => (fo_gd (fo_gd (fo_gd (fo_gd (fo_sqm (fr_pI (by decide)) (fun w115 => (fo_br (fo_br (fo_sqv (fun x120 => (fo_sqv (fun x121 => (ih x120 x121 w115))))) (fo_sqv (fun x118 => (fo_sqv (fun x119 => (ih x118 x119 w115)))))) (fo_sqv (fun x116 => (fo_sqv (fun x117 => (ih x116 x117 w115))))))))))))))) (fo_br (fo_bd1 (fo_mono (fr_X14_told _ _ _ _) (by decide)) (fun r84 w85 => (fo_gd (fo_sqm (fr_pI (by decide)) (fun w87 => (fo_br (fo_br (fo_sqv (fun x92 => (fo_sqv (fun x93 => (ih x92 x93 w87))))) (fo_sqv (fun x90 => (fo_sqv (fun x91 => (ih x90 x91 w87)))))) (fo_sqv (fun x88 => (fo_sqv (fun x89 => (ih x88 x89 w87))))))))))) (fo_gd (fo_sqv (fun p95 => (fo_gd (fo_gd (fo_gd (fo_bd1 (fo_mono (fr_X14_told _ _ _ _) (by decide)) (fun r99 w100 => (fo_gd (fo_sqm (fr_pI (by decide)) (fun w102 => (fo_br (fo_br (fo_sqv (fun x107 => (fo_sqv (fun x108 => (ih x107 x108 w102))))) (fo_sqv (fun x105 => (fo_sqv (fun x106 => (ih x105 x106 w102)))))) (fo_sqv (fun x103 => (fo_sqv (fun x104 => (ih x103 x104 w102))))))))))))))))))))) (fo_br (fo_br (fo_gd (fo_sqv (fun p142 => (fo_gd (fo_gd (fo_gd (fo_gd (fo_sqv (fun p147 => (fo_gd (fo_gd (fo_gd (fo_bd1 (fo_mono (fr_X14_placeIn _ _ _ _) (by decide)) (fun r151 w152 => (fo_br (fo_gd (fo_sqm (fr_pI (by decide)) (fun w158 => (fo_sqv (fun x159 => (fo_sqv (fun x160 => (ih x159 x160 w158)))))))) (fo_gd (fo_sqm (fr_pI (by decide)) (fun w154 => (fo_sqv (fun x155 => (fo_sqv (fun x156 => (ih x155 x156 w154))))))))))))))))))))))) (fo_br (fo_br (fo_gd (fo_gd (fo_sqm (fr_pI (by decide)) (fun w127 => (ih x7 u3 w127))))) (fo_gd (fo_gd (fo_sqm (fr_pI (by decide)) (fun w124 => (ih x7 u3 w124)))))) (fo_br (fo_br (fo_gd (fo_gd (fo_sqm (fr_pI (by decide)) (fun w140 => (ih x7 u3 w140))))) (fo_gd (fo_gd (fo_sqm (fr_pI (by decide)) (fun w137 => (ih x7 u3 w137)))))) (fo_sqv (fun x128 => (fo_gd (fo_gd (fo_bd1 (fo_mono (fr_X15_both _ _ _ _) (by decide)) (fun r131 w132 => (fo_gd (fo_sqm (fr_pI (by decide)) (fun w134 => (ih x7 x128 w134))))))))))))) (fo_br (fo_br (fo_gd (fo_sqv (fun p181 => (fo_gd (fo_gd (fo_gd (fo_gd (fo_sqv (fun p186 => (fo_gd (fo_gd (fo_gd (fo_bd1 (fo_mono (fr_X14_placeIn _ _ _ _) (by decide)) (fun r190 w191 => (fo_br (fo_gd (fo_sqm (fr_pI (by decide)) (fun w197 => (fo_sqv (fun x198 => (fo_sqv (fun x199 => (ih x198 x199 w197)))))))) (fo_gd (fo_sqm (fr_pI (by decide)) (fun w193 => (fo_sqv (fun x194 => (fo_sqv (fun x195 => (ih x194 x195 w193))))))))))))))))))))))) (fo_br (fo_br (fo_gd (fo_gd (fo_sqm (fr_pI (by decide)) (fun w166 => (ih x7 u3 w166))))) (fo_gd (fo_gd (fo_sqm (fr_pI (by decide)) (fun w163 => (ih x7 u3 w163)))))) (fo_br (fo_br (fo_gd (fo_gd (fo_sqm (fr_pI (by decide)) (fun w179 => (ih x7 u3 w179))))) (fo_gd (fo_gd (fo_sqm (fr_pI (by decide)) (fun w176 => (ih x7 u3 w176)))))) (fo_sqv (fun x167 => (fo_gd (fo_gd (fo_bd1 (fo_mono (fr_X15_both _ _ _ _) (by decide)) (fun r170 w171 => (fo_gd (fo_sqm (fr_pI (by decide)) (fun w173 => (ih x7 x167 w173))))))))))))) (fo_br (fo_br (fo_gd (fo_sqv (fun p226 => (fo_gd (fo_gd (fo_gd (fo_gd (fo_sqm (fr_pI (by decide)) (fun w231 => (fo_br (fo_br (fo_sqv (fun x236 => (fo_sqv (fun x237 => (ih x236 x237 w231))))) (fo_sqv (fun x234 => (fo_sqv (fun x235 => (ih x234 x235 w231)))))) (fo_sqv (fun x232 => (fo_sqv (fun x233 => (ih x232 x233 w231))))))))))))))) (fo_br (fo_bd1 (fo_mono (fr_X14_told _ _ _ _) (by decide)) (fun r200 w201 => (fo_gd (fo_sqm (fr_pI (by decide)) (fun w203 => (fo_br (fo_br (fo_sqv (fun x208 => (fo_sqv (fun x209 => (ih x208 x209 w203))))) (fo_sqv (fun x206 => (fo_sqv (fun x207 => (ih x206 x207 w203)))))) (fo_sqv (fun x204 => (fo_sqv (fun x205 => (ih x204 x205 w203))))))))))) (fo_gd (fo_sqv (fun p211 => (fo_gd (fo_gd (fo_gd (fo_bd1 (fo_mono (fr_X14_told _ _ _ _) (by decide)) (fun r215 w216 => (fo_gd (fo_sqm (fr_pI (by decide)) (fun w218 => (fo_br (fo_br (fo_sqv (fun x223 => (fo_sqv (fun x224 => (ih x223 x224 w218))))) (fo_sqv (fun x221 => (fo_sqv (fun x222 => (ih x221 x222 w218)))))) (fo_sqv (fun x219 => (fo_sqv (fun x220 => (ih x219 x220 w218))))))))))))))))))) (fo_br (fo_br (fo_gd (fo_sqv (fun p264 => (fo_gd (fo_gd (fo_gd (fo_gd (fo_sqm (fr_pI (by decide)) (fun w269 => (fo_br (fo_br (fo_sqv (fun x274 => (fo_sqv (fun x275 => (ih x274 x275 w269))))) (fo_sqv (fun x272 => (fo_sqv (fun x273 => (ih x272 x273 w269)))))) (fo_sqv (fun x270 => (fo_sqv (fun x271 => (ih x270 x271 w269))))))))))))))) (fo_br (fo_bd1 (fo_mono (fr_X14_told _ _ _ _) (by decide)) (fun r238 w239 => (fo_gd (fo_sqm (fr_pI (by decide)) (fun w241 => (fo_br (fo_br (fo_sqv (fun x246 => (fo_sqv (fun x247 => (ih x246 x247 w241))))) (fo_sqv (fun x244 => (fo_sqv (fun x245 => (ih x244 x245 w241)))))) (fo_sqv (fun x242 => (fo_sqv (fun x243 => (ih x242 x243 w241))))))))))) (fo_gd (fo_sqv (fun p249 => (fo_gd (fo_gd (fo_gd (fo_bd1 (fo_mono (fr_X14_told _ _ _ _) (by decide)) (fun r253 w254 => (fo_gd (fo_sqm (fr_pI (by decide)) (fun w256 => (fo_br (fo_br (fo_sqv (fun x261 => (fo_sqv (fun x262 => (ih x261 x262 w256))))) (fo_sqv (fun x259 => (fo_sqv (fun x260 => (ih x259 x260 w256)))))) (fo_sqv (fun x257 => (fo_sqv (fun x258 => (ih x257 x258 w256))))))))))))))))))) (fo_br (fo_gd (fo_sqv (fun p302 => (fo_gd (fo_gd (fo_gd (fo_gd (fo_sqm (fr_pI (by decide)) (fun w307 => (fo_br (fo_br (fo_sqv (fun x312 => (fo_sqv (fun x313 => (ih x312 x313 w307))))) (fo_sqv (fun x310 => (fo_sqv (fun x311 => (ih x310 x311 w307)))))) (fo_sqv (fun x308 => (fo_sqv (fun x309 => (ih x308 x309 w307))))))))))))))) (fo_br (fo_bd1 (fo_mono (fr_X14_told _ _ _ _) (by decide)) (fun r276 w277 => (fo_gd (fo_sqm (fr_pI (by decide)) (fun w279 => (fo_br (fo_br (fo_sqv (fun x284 => (fo_sqv (fun x285 => (ih x284 x285 w279))))) (fo_sqv (fun x282 => (fo_sqv (fun x283 => (ih x282 x283 w279)))))) (fo_sqv (fun x280 => (fo_sqv (fun x281 => (ih x280 x281 w279))))))))))) (fo_gd (fo_sqv (fun p287 => (fo_gd (fo_gd (fo_gd (fo_bd1 (fo_mono (fr_X14_told _ _ _ _) (by decide)) (fun r291 w292 => (fo_gd (fo_sqm (fr_pI (by decide)) (fun w294 => (fo_br (fo_br (fo_sqv (fun x299 => (fo_sqv (fun x300 => (ih x299 x300 w294))))) (fo_sqv (fun x297 => (fo_sqv (fun x298 => (ih x297 x298 w294)))))) (fo_sqv (fun x295 => (fo_sqv (fun x296 => (ih x295 x296 w294)))))))))))))))))))))))))))))))))))
set_option maxRecDepth 100000 in
theorem fr_X14_reckon (a0 : Nat) (a1 : Int32) (a2 : Int32) (w : Mm) : FrO [39] Prod.snd (f_X14_reckon a0 a1 a2 w) w := by
  unfold f_X14_reckon
  exact (fo_bd0 (fo_mono (fr_X14_reckon_L5 _ _ _ _ _ _) (by decide)) (fun w314 => (fo_gd (fo_some fr_refl))))
set_option maxRecDepth 100000 in
theorem fr_X14_carry (a0 : Nat) (a1 : Int32) (w : Mm) : FrO [32, 39, 40, 41, 42, 43, 55, 56, 57, 58, 59, 60, 61, 62] Prod.snd (f_X14_carry a0 a1 w) w := by
  unfold f_X14_carry
  exact (fo_gd (fo_sqv (fun p2 => (fo_gd (fo_gd (fo_gd (fo_sqv (fun x6 => (fo_gd (fo_sqv (fun p8 => (fo_gd (fo_gd (fo_gd (fo_sqv (fun x12 => (fo_gd (fo_sqv (fun p14 => (fo_gd (fo_gd (fo_gd (fo_sqv (fun x18 => (fo_br (fo_gd (fo_sqv (fun p48 => (fo_gd (fo_gd (fo_gd (fo_gd (fo_sqv (fun p53 => (fo_gd (fo_gd (fo_gd (fo_bd1 (fo_mono (fr_X14_reckon _ _ _ _) (by decide)) (fun r57 w58 => (fo_bd1 (fo_mono (fr_X14_news _ _ _ _) (by decide)) (fun r59 w60 => (fo_some fr_refl))))))))))))))))) (fo_br (fo_bd1 (fo_mono (fr_X14_canListen _ _ _ _) (by decide)) (fun r37 w38 => (fo_br (fo_br (fo_gd (fo_some fr_refl)) (fo_br (fo_bd1 (fo_mono (fr_X14_leaves _ _ _ _) (by decide)) (fun r39 w40 => (fo_gd (fo_some fr_refl)))) (fo_gd (fo_some fr_refl)))) (fo_br (fo_bd1 (fo_mono (fr_X14_listens _ _ _ _) (by decide)) (fun r43 w44 => (fo_br (fo_gd (fo_some fr_refl)) (fo_br (fo_bd1 (fo_mono (fr_X14_leaves _ _ _ _) (by decide)) (fun r45 w46 => (fo_gd (fo_some fr_refl)))) (fo_gd (fo_some fr_refl)))))) (fo_br (fo_gd (fo_some fr_refl)) (fo_br (fo_bd1 (fo_mono (fr_X14_leaves _ _ _ _) (by decide)) (fun r41 w42 => (fo_gd (fo_some fr_refl)))) (fo_gd (fo_some fr_refl)))))))) (fo_bd1 (fo_mono (fr_X14_placeIn _ _ _ _) (by decide)) (fun r19 w20 => (fo_br (fo_br (fo_br (fo_some fr_refl) (fo_br (fo_bd1 (fo_mono (fr_X14_leaves _ _ _ _) (by decide)) (fun r21 w22 => (fo_some fr_refl))) (fo_some fr_refl))) (fo_br (fo_bd1 (fo_mono (fr_X14_listens _ _ _ _) (by decide)) (fun r25 w26 => (fo_br (fo_some fr_refl) (fo_br (fo_bd1 (fo_mono (fr_X14_leaves _ _ _ _) (by decide)) (fun r27 w28 => (fo_some fr_refl))) (fo_some fr_refl))))) (fo_br (fo_some fr_refl) (fo_br (fo_bd1 (fo_mono (fr_X14_leaves _ _ _ _) (by decide)) (fun r23 w24 => (fo_some fr_refl))) (fo_some fr_refl))))) (fo_br (fo_br (fo_some fr_refl) (fo_br (fo_bd1 (fo_mono (fr_X14_leaves _ _ _ _) (by decide)) (fun r29 w30 => (fo_some fr_refl))) (fo_some fr_refl))) (fo_br (fo_bd1 (fo_mono (fr_X14_listens _ _ _ _) (by decide)) (fun r33 w34 => (fo_br (fo_some fr_refl) (fo_br (fo_bd1 (fo_mono (fr_X14_leaves _ _ _ _) (by decide)) (fun r35 w36 => (fo_some fr_refl))) (fo_some fr_refl))))) (fo_br (fo_some fr_refl) (fo_br (fo_bd1 (fo_mono (fr_X14_leaves _ _ _ _) (by decide)) (fun r31 w32 => (fo_some fr_refl))) (fo_some fr_refl))))))))))))))))))))))))))))))))))
set_option maxRecDepth 100000 in
theorem fr_X14_pass_L9 (z0 : Nat) (z1 : Int32) (z2 : Int32) : ∀ (n : Nat) (u3 : Int32) (w : Mm), FrO [32, 39, 40, 41, 42, 43, 55, 56, 57, 58, 59, 60, 61, 62] id (f_X14_pass_L9 z0 z1 z2 n u3 w) w := by
  intro n
  induction n with
  | zero => intro u3 w; exact fo_none
  | succ n ih =>
    intro u3 w
    rw [f_X14_pass_L9]
    exact (fo_gd (fo_sqv (fun p2 => (fo_gd (fo_br (fo_some fr_refl) (fo_gd (fo_sqv (fun p5 => (fo_gd (fo_gd (fo_gd (fo_gd (fo_sqv (fun p10 => (fo_gd (fo_gd (fo_gd (fo_br (fo_br (fo_sqv (fun x14 => (ih x14 w))) (fo_bd1 (fo_mono (fr_X14_carry _ _ _) (by decide)) (fun r15 w16 => (fo_br (fo_sqv (fun x17 => (ih x17 w16))) (fo_sqm (fr_pI (by decide)) (fun w18 => (fo_sqv (fun x19 => (ih x19 w18))))))))) (fo_gd (fo_sqv (fun p21 => (fo_gd (fo_gd (fo_gd (fo_gd (fo_sqv (fun p26 => (fo_gd (fo_gd (fo_gd (fo_bd1 (fo_mono (fr_X14_reckon _ _ _ _) (by decide)) (fun r30 w31 => (fo_br (fo_br (fo_sqv (fun x38 => (ih x38 w31))) (fo_bd1 (fo_mono (fr_X14_carry _ _ _) (by decide)) (fun r39 w40 => (fo_br (fo_sqv (fun x41 => (ih x41 w40))) (fo_sqm (fr_pI (by decide)) (fun w42 => (fo_sqv (fun x43 => (ih x43 w42))))))))) (fo_br (fo_sqv (fun x32 => (ih x32 w31))) (fo_bd1 (fo_mono (fr_X14_carry _ _ _) (by decide)) (fun r33 w34 => (fo_br (fo_sqv (fun x35 => (ih x35 w34))) (fo_sqm (fr_pI (by decide)) (fun w36 => (fo_sqv (fun x37 => (ih x37 w36))))))))))))))))))))))))))))))))))))))))))
set_option maxRecDepth 100000 in
theorem fr_X14_pass_L120 (z0 : Nat) (z1 : Int32) (z2 : Int32) : ∀ (n : Nat) (u3 : Int32) (w : Mm), FrO [60] id (f_X14_pass_L120 z0 z1 z2 n u3 w) w := by
  intro n
  induction n with
  | zero => intro u3 w; exact fo_none
  | succ n ih =>
    intro u3 w
    rw [f_X14_pass_L120]
    exact (fo_gd (fo_sqv (fun p46 => (fo_gd (fo_br (fo_some fr_refl) (fo_gd (fo_gd (fo_sqm (fr_pI (by decide)) (fun w50 => (fo_sqv (fun x51 => (ih x51 w50))))))))))))
set_option maxRecDepth 100000 in
theorem fr_X14_pass_L2 (z0 : Nat) (z1 : Int32) : ∀ (n : Nat) (u2 : Int32) (w : Mm), FrO [32, 39, 40, 41, 42, 43, 55, 56, 57, 58, 59, 60, 61, 62] id (f_X14_pass_L2 z0 z1 n u2 w) w := by
  intro n
  induction n with
  | zero => intro u2 w; exact fo_none
  | succ n ih =>
    intro u2 w
    rw [f_X14_pass_L2]
    exact (fo_br (fo_some fr_refl) (fo_bd0 (fo_mono (fr_X14_pass_L9 _ _ _ _ _ _) (by decide)) (fun w44 => (fo_bd0 (fo_mono (fr_X14_pass_L120 _ _ _ _ _ _) (by decide)) (fun w52 => (fo_sqm (fr_pI (by decide)) (fun w53 => (fo_sqv (fun x54 => (ih x54 w53))))))))))
set_option maxRecDepth 100000 in
theorem fr_X14_pass (a0 : Nat) (a1 : Int32) (w : Mm) : FrO [32, 39, 40, 41, 42, 43, 55, 56, 57, 58, 59, 60, 61, 62] Prod.snd (f_X14_pass a0 a1 w) w := by
  unfold f_X14_pass
  exact (fo_bd0 (fo_mono (fr_X14_pass_L2 _ _ _ _ _) (by decide)) (fun w55 => (fo_some fr_refl)))
set_option maxRecDepth 100000 in
theorem fr_X15_passDays (a1 : Int32) (w : Mm) : FrO [32, 39, 40, 41, 42, 43, 55, 56, 57, 58, 59, 60, 61, 62] Prod.snd (f_X15_passDays a1 w) w := by
  unfold f_X15_passDays
  exact (fo_sqm (fr_pI (by decide)) (fun w1 => (fo_bd1 (fo_mono (fr_X15_isIn _ _ _ _) (by decide)) (fun r2 w3 => (fo_br (fo_bd1 (fo_mono (fr_X15_no _ _) (by decide)) (fun r9 w10 => (fo_some fr_refl))) (fo_sqv (fun x4 => (fo_bd1 (fo_mono (fr_X14_pass _ _ _) (by decide)) (fun r5 w6 => (fo_on fo_none (fun k7 => (fo_gd (fo_some fr_refl)))))))))))))
set_option maxRecDepth 100000 in
theorem fr_X15_reach_L26 (b : Nat) : ∀ (n : Nat) (u4 : Int32) (u3 : Int32) (w : Mm), FrO [] Prod.snd (f_X15_reach_L26 b n u4 u3 w) w := by
  intro n
  induction n with
  | zero => intro u4 u3 w; exact fo_none
  | succ n ih =>
    intro u4 u3 w
    rw [f_X15_reach_L26]
    exact (fo_gd (fo_sqv (fun p10 => (fo_gd (fo_br (fo_some fr_refl) (fo_gd (fo_br (fo_sqv (fun x13 => (fo_sqv (fun x14 => (ih x14 x13 w))))) (fo_sqv (fun x15 => (fo_sqv (fun x16 => (ih x16 x15 w))))))))))))
set_option maxRecDepth 100000 in
theorem fr_X15_reach (b : Nat) (a1 : Int32) (a2 : Int32) (w : Mm) : FrO [32, 40, 41, 42, 43, 55, 56, 57, 58, 59, 60, 61, 62] Prod.snd (f_X15_reach b a1 a2 w) w := by
  unfold f_X15_reach
  exact (fo_bd1 (fo_mono (fr_X15_isNews _ _ _) (by decide)) (fun r1 w2 => (fo_br (fo_some fr_refl) (fo_bd1 (fo_mono (fr_X15_ahead _ _) (by decide)) (fun r3 w4 => (fo_on fo_none (fun k5 => (fo_gd (fo_bd1 (fo_mono (fr_X14_news _ _ _ _) (by decide)) (fun r7 w8 => (fo_bd1 (fo_mono (fr_X15_reach_L26 _ _ _ _ _) (by decide)) (fun y17 w18 => (fo_some fr_refl)))))))))))))
set_option maxRecDepth 100000 in
theorem fr_X15_loudnessAt (b : Nat) (a1 : Int32) (a2 : Int32) (w : Mm) : FrO [32, 40, 41, 42, 43, 55, 56, 57, 58, 59, 60, 61, 62] Prod.snd (f_X15_loudnessAt b a1 a2 w) w := by
  unfold f_X15_loudnessAt
  exact (fo_bd1 (fo_mono (fr_X15_isHedge _ _) (by decide)) (fun r1 w2 => (fo_br (fo_bd1 (fo_mono (fr_X15_isKnown _ _) (by decide)) (fun r3 w4 => (fo_br (fo_some fr_refl) (fo_bd1 (fo_mono (fr_X15_ahead _ _) (by decide)) (fun r5 w6 => (fo_on fo_none (fun k7 => (fo_gd (fo_bd1 (fo_mono (fr_X14_news _ _ _ _) (by decide)) (fun r9 w10 => (fo_gd (fo_some fr_refl)))))))))))) (fo_bd1 (fo_mono (fr_X15_isHedge _ _) (by decide)) (fun r12 w13 => (fo_br (fo_bd1 (fo_mono (fr_X15_isKnown _ _) (by decide)) (fun r14 w15 => (fo_br (fo_some fr_refl) (fo_bd1 (fo_mono (fr_X15_ahead _ _) (by decide)) (fun r16 w17 => (fo_on fo_none (fun k18 => (fo_gd (fo_bd1 (fo_mono (fr_X14_news _ _ _ _) (by decide)) (fun r20 w21 => (fo_gd (fo_some fr_refl)))))))))))) (fo_bd1 (fo_mono (fr_X15_isKnown _ _) (by decide)) (fun r23 w24 => (fo_br (fo_some fr_refl) (fo_bd1 (fo_mono (fr_X15_ahead _ _) (by decide)) (fun r25 w26 => (fo_on fo_none (fun k27 => (fo_gd (fo_bd1 (fo_mono (fr_X14_news _ _ _ _) (by decide)) (fun r29 w30 => (fo_gd (fo_some fr_refl))))))))))))))))))
set_option maxRecDepth 100000 in
theorem fr_X15_comesBack (b : Nat) (a1 : Int32) (w : Mm) : FrO [32, 40, 41, 42, 43, 55, 56, 57, 58, 59, 60, 61, 62] Prod.snd (f_X15_comesBack b a1 w) w := by
  unfold f_X15_comesBack
  exact (fo_bd1 (fo_mono (fr_X15_isHedge _ _) (by decide)) (fun r1 w2 => (fo_br (fo_bd1 (fo_mono (fr_X15_isNot _ _) (by decide)) (fun r10 w11 => (fo_gd (fo_some fr_refl)))) (fo_sqm (fr_pI (by decide)) (fun w3 => (fo_bd1 (fo_mono (fr_X15_ahead _ _) (by decide)) (fun r4 w5 => (fo_on fo_none (fun k6 => (fo_gd (fo_bd1 (fo_mono (fr_X14_news _ _ _ _) (by decide)) (fun r8 w9 => (fo_gd (fo_some fr_refl))))))))))))))
set_option maxRecDepth 100000 in
theorem fr_X15_petalsAfter (b : Nat) (a1 : Int32) (a2 : Int32) (w : Mm) : FrO [32, 39, 40, 41, 42, 43, 55, 56, 57, 58, 59, 60, 61, 62] Prod.snd (f_X15_petalsAfter b a1 a2 w) w := by
  unfold f_X15_petalsAfter
  exact (fo_bd1 (fo_mono (fr_X15_isRose _ _) (by decide)) (fun r1 w2 => (fo_bd1 (fo_mono (fr_X15_isKnown _ _) (by decide)) (fun r3 w4 => (fo_br (fo_some fr_refl) (fo_bd1 (fo_mono (fr_X15_isIn _ _ _ _) (by decide)) (fun r5 w6 => (fo_br (fo_bd1 (fo_mono (fr_X15_no _ _) (by decide)) (fun r7 w8 => (fo_some fr_refl))) (fo_bd1 (fo_mono (fr_X15_ahead _ _) (by decide)) (fun r9 w10 => (fo_on fo_none (fun k11 => (fo_gd (fo_bd1 (fo_mono (fr_X14_pass _ _ _) (by decide)) (fun r13 w14 => (fo_on fo_none (fun k15 => (fo_gd (fo_gd (fo_some fr_refl))))))))))))))))))))
set_option maxRecDepth 100000 in
theorem fr_X14_untilLeft_L9 (z2 : Int32) (z0 : Nat) (z1 : Int32) : ∀ (n : Nat) (u3 : Int32) (w : Mm), FrO [32, 39, 40, 41, 42, 43, 55, 56, 57, 58, 59, 60, 61, 62] (fun r => r.2.2) (f_X14_untilLeft_L9 z2 z0 z1 n u3 w) w := by
  intro n
  induction n with
  | zero => intro u3 w; exact fo_none
  | succ n ih =>
    intro u3 w
    rw [f_X14_untilLeft_L9]
    exact (fo_br (fo_some fr_refl) (fo_bd1 (fo_mono (fr_X14_pass _ _ _) (by decide)) (fun r3 w4 => (fo_on fo_none (fun k5 => (fo_gd (fo_gd (fo_br (fo_sqv (fun x8 => (ih x8 w4))) (fo_some fr_refl)))))))))
set_option maxRecDepth 100000 in
theorem fr_X14_untilLeft (a0 : Nat) (a1 : Int32) (w : Mm) : FrO [32, 39, 40, 41, 42, 43, 55, 56, 57, 58, 59, 60, 61, 62] Prod.snd (f_X14_untilLeft a0 a1 w) w := by
  unfold f_X14_untilLeft
  exact (fo_gd (fo_sqv (fun x2 => (fo_bd2 (fo_mono (fr_X14_untilLeft_L9 _ _ _ _ _ _) (by decide)) (fun t11 y9 w10 => (fo_br (fo_some fr_refl) (fo_some fr_refl)))))))
set_option maxRecDepth 100000 in
theorem fr_X15_daysUntilLeft (b : Nat) (a1 : Int32) (w : Mm) : FrO [32, 39, 40, 41, 42, 43, 55, 56, 57, 58, 59, 60, 61, 62] Prod.snd (f_X15_daysUntilLeft b a1 w) w := by
  unfold f_X15_daysUntilLeft
  exact (fo_bd1 (fo_mono (fr_X15_isRose _ _) (by decide)) (fun r1 w2 => (fo_bd1 (fo_mono (fr_X15_isKnown _ _) (by decide)) (fun r3 w4 => (fo_br (fo_some fr_refl) (fo_bd1 (fo_mono (fr_X15_ahead _ _) (by decide)) (fun r5 w6 => (fo_on fo_none (fun k7 => (fo_gd (fo_bd1 (fo_mono (fr_X14_untilLeft _ _ _) (by decide)) (fun r9 w10 => (fo_some fr_refl)))))))))))))
set_option maxRecDepth 100000 in
theorem fr_X14_allPetals_L4 (z0 : Nat) : ∀ (n : Nat) (u2 : Int32) (u1 : Int32) (w : Mm), FrO [] Prod.snd (f_X14_allPetals_L4 z0 n u2 u1 w) w := by
  intro n
  induction n with
  | zero => intro u2 u1 w; exact fo_none
  | succ n ih =>
    intro u2 u1 w
    rw [f_X14_allPetals_L4]
    exact (fo_gd (fo_sqv (fun p2 => (fo_gd (fo_br (fo_some fr_refl) (fo_gd (fo_sqv (fun x5 => (fo_sqv (fun x6 => (ih x6 x5 w)))))))))))
set_option maxRecDepth 100000 in
theorem fr_X14_allPetals (a0 : Nat) (w : Mm) : FrO [] Prod.snd (f_X14_allPetals a0 w) w := by
  unfold f_X14_allPetals
  exact (fo_bd1 (fo_mono (fr_X14_allPetals_L4 _ _ _ _ _) (by decide)) (fun y7 w8 => (fo_some fr_refl)))
set_option maxRecDepth 100000 in
theorem fr_X15_best_L7 (b : Nat) (z1 : Int32) : ∀ (n : Nat) (u4 : Int32) (u3 : Int32) (u2 : Int32) (w : Mm), FrO [32, 40, 41, 42, 43, 55, 56, 57, 58, 59, 60, 61, 62] Prod.snd (f_X15_best_L7 b z1 n u4 u3 u2 w) w := by
  intro n
  induction n with
  | zero => intro u4 u3 u2 w; exact fo_none
  | succ n ih =>
    intro u4 u3 u2 w
    rw [f_X15_best_L7]
    exact (fo_gd (fo_sqv (fun p2 => (fo_gd (fo_br (fo_some fr_refl) (fo_bd1 (fo_mono (fr_X15_ahead _ _) (by decide)) (fun r4 w5 => (fo_on fo_none (fun k6 => (fo_gd (fo_bd1 (fo_mono (fr_X14_news _ _ _ _) (by decide)) (fun r8 w9 => (fo_bd1 (fo_mono (fr_X14_allPetals _ _) (by decide)) (fun r10 w11 => (fo_br (fo_bd1 (fo_mono (fr_X14_allPetals _ _) (by decide)) (fun r12 w13 => (fo_sqv (fun x14 => (ih x14 r12 u4 w13))))) (fo_sqv (fun x15 => (ih x15 u3 u2 w11))))))))))))))))))
set_option maxRecDepth 100000 in
theorem fr_X15_best (b : Nat) (a1 : Int32) (w : Mm) : FrO [32, 40, 41, 42, 43, 55, 56, 57, 58, 59, 60, 61, 62] Prod.snd (f_X15_best b a1 w) w := by
  unfold f_X15_best
  exact (fo_bd1 (fo_mono (fr_X15_best_L7 _ _ _ _ _ _ _) (by decide)) (fun y16 w17 => (fo_some fr_refl)))
set_option maxRecDepth 100000 in
theorem fr_X15_bestToTell (b : Nat) (a1 : Int32) (w : Mm) : FrO [32, 40, 41, 42, 43, 55, 56, 57, 58, 59, 60, 61, 62] Prod.snd (f_X15_bestToTell b a1 w) w := by
  unfold f_X15_bestToTell
  exact (fo_sqm (fr_pI (by decide)) (fun w1 => (fo_bd1 (fo_mono (fr_X15_isIn _ _ _ _) (by decide)) (fun r2 w3 => (fo_br (fo_bd1 (fo_mono (fr_X15_no _ _) (by decide)) (fun r4 w5 => (fo_some fr_refl))) (fo_bd1 (fo_mono (fr_X15_best _ _ _) (by decide)) (fun r6 w7 => (fo_some fr_refl))))))))
set_option maxRecDepth 100000 in
theorem fr_X15_meanPetals (w : Mm) : FrO [32] Prod.snd (f_X15_meanPetals w) w := by
  unfold f_X15_meanPetals
  exact (fo_sqm (fr_pI (by decide)) (fun w1 => (fo_gd (fo_sqv (fun p3 => (fo_gd (fo_br (fo_some fr_refl) (fo_bd1 (fo_mono (fr_X14_allPetals _ _) (by decide)) (fun r5 w6 => (fo_gd (fo_sqv (fun p8 => (fo_gd (fo_gd (fo_some fr_refl)))))))))))))))
set_option maxRecDepth 100000 in
theorem fr_X15_digest_L117 (b : Nat) (z4 : Nat) : ∀ (n : Nat) (u6 : Int32) (u2 : Int64) (w : Mm), FrO [] Prod.snd (f_X15_digest_L117 b z4 n u6 u2 w) w := by
  intro n
  induction n with
  | zero => intro u6 u2 w; exact fo_none
  | succ n ih =>
    intro u6 u2 w
    rw [f_X15_digest_L117]
    exact (fo_br (fo_some fr_refl) (fo_gd (fo_gd (fo_sqv (fun x47 => (fo_sqv (fun x48 => (fo_sqv (fun x49 => (ih x49 x48 w))))))))))
set_option maxRecDepth 100000 in
theorem fr_X15_digest_L215 (b : Nat) (z4 : Int32) : ∀ (n : Nat) (u5 : Int32) (u2 : Int64) (w : Mm), FrO [] Prod.snd (f_X15_digest_L215 b z4 n u5 u2 w) w := by
  intro n
  induction n with
  | zero => intro u5 u2 w; exact fo_none
  | succ n ih =>
    intro u5 u2 w
    rw [f_X15_digest_L215]
    exact (fo_gd (fo_sqv (fun p60 => (fo_gd (fo_br (fo_some fr_refl) (fo_bd1 (fo_mono (fr_X14_placeIn _ _ _ _) (by decide)) (fun r62 w63 => (fo_sqv (fun x64 => (fo_sqv (fun x65 => (ih x65 x64 w63))))))))))))
set_option maxRecDepth 100000 in
theorem fr_X15_digest_L255 (b : Nat) (z4 : Int32) : ∀ (n : Nat) (u5 : Int32) (u2 : Int64) (w : Mm), FrO [] Prod.snd (f_X15_digest_L255 b z4 n u5 u2 w) w := by
  intro n
  induction n with
  | zero => intro u5 u2 w; exact fo_none
  | succ n ih =>
    intro u5 u2 w
    rw [f_X15_digest_L255]
    exact (fo_gd (fo_sqv (fun p69 => (fo_gd (fo_br (fo_some fr_refl) (fo_bd1 (fo_mono (fr_X14_placeIn _ _ _ _) (by decide)) (fun r71 w72 => (fo_sqv (fun x73 => (fo_sqv (fun x74 => (ih x74 x73 w72))))))))))))
set_option maxRecDepth 100000 in
theorem fr_X15_digest_L150 (b : Nat) : ∀ (n : Nat) (u4 : Int32) (u2 : Int64) (w : Mm), FrO [] Prod.snd (f_X15_digest_L150 b n u4 u2 w) w := by
  intro n
  induction n with
  | zero => intro u4 u2 w; exact fo_none
  | succ n ih =>
    intro u4 u2 w
    rw [f_X15_digest_L150]
    exact (fo_gd (fo_sqv (fun p53 => (fo_gd (fo_br (fo_some fr_refl) (fo_gd (fo_gd (fo_gd (fo_sqv (fun x58 => (fo_bd1 (fo_mono (fr_X15_digest_L215 _ _ _ _ _ _) (by decide)) (fun y66 w67 => (fo_bd1 (fo_mono (fr_X15_digest_L255 _ _ _ _ _ _) (by decide)) (fun y75 w76 => (fo_sqv (fun x77 => (ih x77 y75 w76)))))))))))))))))
set_option maxRecDepth 100000 in
theorem fr_X15_digest_L304 (b : Nat) : ∀ (n : Nat) (u4 : Int32) (u2 : Int64) (w : Mm), FrO [] Prod.snd (f_X15_digest_L304 b n u4 u2 w) w := by
  intro n
  induction n with
  | zero => intro u4 u2 w; exact fo_none
  | succ n ih =>
    intro u4 u2 w
    rw [f_X15_digest_L304]
    exact (fo_gd (fo_sqv (fun p81 => (fo_gd (fo_br (fo_some fr_refl) (fo_gd (fo_gd (fo_bd1 (fo_mono (fr_X14_manyOf _ _ _) (by decide)) (fun r85 w86 => (fo_sqv (fun x87 => (fo_sqv (fun x88 => (ih x88 x87 w86))))))))))))))
set_option maxRecDepth 100000 in
theorem fr_X15_digest (b : Nat) (w : Mm) : FrO [32, 40, 41, 42, 43, 55, 56, 57, 58, 59, 60, 61, 62, 65] Prod.snd (f_X15_digest b w) w := by
  unfold f_X15_digest
  exact (fo_sqm (fr_pI (by decide)) (fun w1 => (fo_sqv (fun p4 => (fo_gd (fo_sqm (fr_nw (by decide)) (fun w2 => (fo_gd (fo_sqv (fun p6 => (fo_gd (fo_gd (fo_gd (fo_sqm (fr_pI (by decide)) (fun w9 => (fo_gd (fo_sqv (fun p12 => (fo_gd (fo_gd (fo_gd (fo_sqm (fr_pI (by decide)) (fun w15 => (fo_gd (fo_gd (fo_sqm (fr_pI (by decide)) (fun w18 => (fo_gd (fo_gd (fo_sqm (fr_pI (by decide)) (fun w21 => (fo_gd (fo_gd (fo_sqm (fr_pI (by decide)) (fun w24 => (fo_gd (fo_gd (fo_sqm (fr_pI (by decide)) (fun w27 => (fo_bd1 (fo_mono (fr_X14_allLeft _ _) (by decide)) (fun r29 w30 => (fo_gd (fo_gd (fo_sqm (fr_pI (by decide)) (fun w32 => (fo_bd1 (fo_mono (fr_X14_full _ _) (by decide)) (fun r34 w35 => (fo_gd (fo_gd (fo_sqm (fr_pI (by decide)) (fun w37 => (fo_bd1 (fo_mono (fr_X15_best _ _ _) (by decide)) (fun r39 w40 => (fo_gd (fo_gd (fo_sqm (fr_pI (by decide)) (fun w42 => (fo_gd (fo_bd1 (fo_mono (fr_X15_digest_L117 _ _ _ _ _ _) (by decide)) (fun y50 w51 => (fo_bd1 (fo_mono (fr_X15_digest_L150 _ _ _ _ _) (by decide)) (fun y78 w79 => (fo_bd1 (fo_mono (fr_X15_digest_L304 _ _ _ _ _) (by decide)) (fun y89 w90 => (fo_some fr_refl)))))))))))))))))))))))))))))))))))))))))))))))))))))))))))))))))
