-- THE PURE PART: tokens of the class
def fnd (p : Nat → Bool) : Nat → Nat → Option Nat
  | 0, _ => none
  | n + 1, i => if p i then some i else fnd p n (i + 1)
def tx (k : Nat) : List Nat := (bytS.getD k []).map fun x => x.toNatClampNeg
def wk (l : List Nat) : Nat := match fnd (fun k => decide (l = tx k)) 23 0 with
  | some k => k + 7
  | none => 3
def kRv : List Nat → Nat
  | [] => 0
  | c :: t => kRv t * 64 + cd c
theorem kF_kRv : ∀ (l r : List Nat), kF (kRv r) l = kRv (l.reverse ++ r)
  | [], r => rfl
  | c :: t, r => by
    show kF (kRv r * 64 + cd c) t = _
    rw [show kRv r * 64 + cd c = kRv (c :: r) from rfl, kF_kRv t (c :: r)]
    simp
theorem kF_0 (l : List Nat) : kF 0 l = kRv l.reverse := by
  have := kF_kRv l []
  rw [List.append_nil] at this
  exact this
theorem kRv_lt : ∀ (r : List Nat), (∀ c ∈ r, isWd c = true) → kRv r < 64 ^ r.length
  | [], _ => by simp [kRv]
  | c :: t, h => by
    have h1 := kRv_lt t fun d hd => h d (List.mem_cons_of_mem _ hd)
    have h2 := cd_r (h c List.mem_cons_self)
    simp only [List.length_cons, Nat.pow_succ, kRv]
    omega
theorem kRv_inj : ∀ (r s : List Nat), (∀ c ∈ r, isWd c = true) → (∀ c ∈ s, isWd c = true) → kRv r = kRv s → r = s
  | [], [], _, _, _ => rfl
  | [], d :: s, _, hs, e => by
    have h2 := cd_r (hs d List.mem_cons_self)
    simp only [kRv] at e; omega
  | c :: r, [], hr, _, e => by
    have h2 := cd_r (hr c List.mem_cons_self)
    simp only [kRv] at e; omega
  | c :: r, d :: s, hr, hs, e => by
    have h1 := cd_r (hr c List.mem_cons_self)
    have h2 := cd_r (hs d List.mem_cons_self)
    simp only [kRv] at e
    have e1 : cd c = cd d := by omega
    have e2 : kRv r = kRv s := by omega
    rw [cd_i (hr c List.mem_cons_self) (hs d List.mem_cons_self) e1, kRv_inj r s (fun x hx => hr x (List.mem_cons_of_mem _ hx)) (fun x hx => hs x (List.mem_cons_of_mem _ hx)) e2]
theorem kF_inj {l m : List Nat} (hl : ∀ c ∈ l, isWd c = true) (hm : ∀ c ∈ m, isWd c = true) (e : kF 0 l = kF 0 m) : l = m := by
  rw [kF_0, kF_0] at e
  have := kRv_inj _ _ (fun c hc => hl c (List.mem_reverse.mp hc)) (fun c hc => hm c (List.mem_reverse.mp hc)) e
  exact List.reverse_inj.mp this
theorem kF_lt {l : List Nat} (hl : ∀ c ∈ l, isWd c = true) (h10 : l.length ≤ 10) : kF 0 l < 2 ^ 60 := by
  rw [kF_0]
  have h := kRv_lt l.reverse fun c hc => hl c (List.mem_reverse.mp hc)
  rw [List.length_reverse] at h
  have : (64 : Nat) ^ l.length ≤ 64 ^ 10 := Nat.pow_le_pow_right (by decide) h10
  exact Nat.lt_of_lt_of_le h (Nat.le_trans this (by decide))
theorem kF_pos {l : List Nat} (hl : ∀ c ∈ l, isWd c = true) (h : l ≠ []) : 1 ≤ kF 0 l := by
  rw [kF_0]
  cases e : l.reverse with
  | nil => exact (h (List.reverse_eq_nil_iff.mp e)).elim
  | cons c t =>
    have hc : c ∈ l := List.mem_reverse.mp (by rw [e]; exact List.mem_cons_self)
    have := cd_r (hl c hc)
    simp only [kRv]; omega
theorem lN_inj {a b : Nat} (ha : a < 2 ^ 63) (hb : b < 2 ^ 63) : lN a = lN b ↔ a = b := by
  refine ⟨fun e => ?_, fun e => by rw [e]⟩
  have e := congrArg (fun x : Int64 => x.toBitVec.toNat) e
  have : ∀ n, (lN n).toBitVec.toNat = n % 2 ^ 64 := fun n => by
    show (BitVec.ofNat 64 n).toNat = _
    rw [BitVec.toNat_ofNat]
  simp only [this] at e
  omega
def keyN (i : Nat) : Nat := if 6 ≤ i ∧ i < 29 then kF 0 (tx (i - 6)) else 0
theorem keyN_T : ∀ i, i < 44 → keyT (i + 1) = lN (keyN i) := by decide +kernel
theorem tx_ok : ∀ k, k < 23 → (∀ c ∈ tx k, isWd c = true) ∧ tx k ≠ [] ∧ (tx k).length ≤ 10 := by decide +kernel
theorem lg_cmp_0 {x y : Int64} : lg_cmp x y = 0 ↔ x = y := by
  unfold lg_cmp
  by_cases h : x > y
  · rw [if_pos h]
    refine ⟨fun q => absurd q (by decide), fun q => ?_⟩
    rw [q] at h
    exact absurd h (Int64.lt_irrefl)
  · rw [if_neg h]
    by_cases q : x = y
    · rw [if_pos q]; exact ⟨fun _ => q, fun _ => rfl⟩
    · rw [if_neg q]; exact ⟨fun e => absurd e (by decide), fun e => (q e).elim⟩
theorem a_ofW_L {K : Nat} {w : Mm} (hK : K < 2 ^ 63) (hk : ∀ i, i < 44 → keyN i < 2 ^ 63) : ∀ (d i n : Nat), i + d = 44 → d < n → f_X4_ofWord_L2 (lN K) n (nI i) w = some (match fnd (fun i => decide (keyN i = K)) d i with | some j => (0, nI j, w) | none => (1, nI 44, w))
  | 0, i, n + 1, e, hn => by
    have e : i = 44 := by omega
    subst e
    rw [f_X4_ofWord_L2]
    exact brT (by decide) rfl
  | d + 1, i, n + 1, e, hn => by
    have ih := a_ofW_L (w := w) hK hk d (i + 1) n (by omega) (by omega)
    rw [f_X4_ofWord_L2]
    refine brF (by (simp (disch := omega) only [lit_nI, nI_leI, nI_ltI, nI_eq, nI_clamp, nI_add, nI_sub, vB_nI, Nat.add_sub_cancel, Nat.reduceSub, Nat.reduceLT, Nat.reduceLeDiff, Nat.reduceAdd, gI_pI, p2_pI, Nat.reduceEqDiff, false_and, and_false, true_and, and_true, if_false, if_true, and_self] <;> omega)) (gdT ((vB_nI (by omega)).mpr (by omega)) ?_)
    rw [nI_clamp (by omega)]
    refine gdT (by simp only [kok, Bool.and_eq_true, decide_eq_true_eq]; omega) ?_
    rw [keyN_T i (by omega)]
    by_cases q : keyN i = K
    · refine brT (by rw [lg_cmp_0, q]) ?_
      simp [fnd, q]
    · refine brF (by rw [lg_cmp_0, lN_inj (hk i (by omega)) hK]; exact q) (sqT ?_)
      rw [nI_1, ih]
      simp [fnd, q]
theorem keyN_lt : ∀ i, i < 44 → keyN i < 2 ^ 63 := by decide +kernel
theorem fnd_no {p : Nat → Bool} : ∀ n i, (∀ j, i ≤ j → j < i + n → p j = false) → fnd p n i = none
  | 0, _, _ => rfl
  | n + 1, i, h => by
    unfold fnd
    rw [h i (Nat.le_refl _) (by omega)]
    exact fnd_no n (i + 1) fun j h1 h2 => h j (by omega) (by omega)
theorem fnd_sh {p q : Nat → Bool} {m : Nat} : ∀ n i, (∀ j, i ≤ j → j < i + n → p (j + 6) = q j) → (∀ j, i + n + 6 ≤ j → j < i + n + 6 + m → p j = false) → fnd p (n + m) (i + 6) = (fnd q n i).map (· + 6)
  | 0, i, _, h2 => by
    rw [Nat.zero_add, fnd_no m (i + 6) fun j a b => h2 j (by omega) (by omega)]
    rfl
  | n + 1, i, h1, h2 => by
    rw [show n + 1 + m = n + m + 1 by omega]
    unfold fnd
    rw [h1 i (Nat.le_refl _) (by omega)]
    cases q i
    · have ih := fnd_sh (p := p) (q := q) (m := m) n (i + 1) (fun j a b => h1 j (by omega) (by omega)) (fun j a b => h2 j (by omega) (by omega))
      simp only [Bool.false_eq_true, if_false]
      rw [show i + 6 + 1 = i + 1 + 6 by omega, ih]
    · rfl
theorem a_ofWord {l : List Nat} {w : Mm} (hl : ∀ c ∈ l, isWd c = true) (h0 : l ≠ []) (h10 : l.length ≤ 10) : f_X4_ofWord (lN (kF 0 l)) w = some (wk l, w) := by
  have hlt := kF_lt hl h10
  have hp := kF_pos hl h0
  have h := a_ofW_L (w := w) (K := kF 0 l) (by omega) keyN_lt 44 0 LF rfl (by unfold LF; omega)
  have e1 : fnd (fun i => decide (keyN i = kF 0 l)) 44 0 = (fnd (fun k => decide (l = tx k)) 23 0).map (· + 6) := by
    have hz : ∀ j, j < 6 ∨ 29 ≤ j → decide (keyN j = kF 0 l) = false := fun j hj => by
      rw [decide_eq_false_iff_not]
      unfold keyN
      rw [if_neg (by omega)]
      omega
    have s6 : fnd (fun i => decide (keyN i = kF 0 l)) 44 0 = fnd (fun i => decide (keyN i = kF 0 l)) (23 + 15) (0 + 6) := by
      show fnd _ (38 + 1 + 1 + 1 + 1 + 1 + 1) 0 = _
      simp only [fnd, hz 0 (by omega), hz 1 (by omega), hz 2 (by omega), hz 3 (by omega), hz 4 (by omega), hz 5 (by omega), Bool.false_eq_true, if_false]
    rw [s6]
    refine fnd_sh 23 0 (fun j h1 h2 => ?_) (fun j h1 h2 => hz j (by omega))
    have hj : j < 23 := by omega
    obtain ⟨t1, t2, t3⟩ := tx_ok j hj
    have : keyN (j + 6) = kF 0 (tx j) := by
      unfold keyN
      rw [if_pos (by omega), Nat.add_sub_cancel]
    show decide (keyN (j + 6) = kF 0 l) = decide (l = tx j)
    rw [this]
    by_cases q : l = tx j
    · rw [q]; simp
    · rw [decide_eq_false q, decide_eq_false_iff_not]
      exact fun e => q (kF_inj hl t1 e.symm)
  rw [e1] at h
  unfold f_X4_ofWord wk
  cases q : fnd (fun k => decide (l = tx k)) 23 0 with
  | none =>
    rw [q] at h
    exact bd2T h (brF (by decide) rfl)
  | some k =>
    rw [q] at h
    have hk : k < 23 := by
      have : ∀ (p : Nat → Bool) n i j, fnd p n i = some j → j < i + n := by
        intro p n
        induction n with
        | zero => intro i j h; cases h
        | succ n ih =>
          intro i j h
          unfold fnd at h
          split at h
          · cases h; omega
          · have := ih _ _ h; omega
      have := this _ _ _ _ q
      omega
    refine bd2T (y := nI (k + 6)) h (brT rfl (gdT ((vB_nI (by omega)).mpr (by omega)) ?_))
    rw [nI_clamp (by omega)]
theorem a_num {T : List Nat} : ∀ (l : List Nat) (p m v n : Nat) (w : Mm), T.drop p = l → p ≤ T.length → m ≤ 7 → v < 10 ^ m → l.length + 1 < n → TC T w → gI w 4 0 5 = nI p → gI w 4 0 7 = nI v →
    ∃ w' y, f_X11_number_L7 n (nI m) w = some (y, w') ∧ CK w w' ∧ (m + dl l ≤ 6 → y = nI (m + dl l) ∧ gI w' 4 0 5 = nI (p + dl l) ∧ gI w' 4 0 7 = nI (nV v (l.take (dl l)))) ∧ (6 < m + dl l → y = nI 7)
  | l, p, m, v, n + 1, w, e, hp, hm, hk, hn, hT, h5, h7 => by
    have hl := hT.2.1
    by_cases m7 : m = 7
    · subst m7
      refine ⟨w, nI 7, ?_, ck_rf, fun q => by omega, fun _ => rfl⟩
      rw [f_X11_number_L7]
      exact brT (by decide) rfl
    · cases l with
      | nil =>
        have hat := a_at hT (p := p) (by omega)
        rw [ch_nil e] at hat
        refine ⟨w, nI m, ?_, ck_rf, fun q => ⟨rfl, h5, h7⟩, fun q => by simp only [dl] at q; omega⟩
        rw [f_X11_number_L7, h5]
        exact brF (by (simp (disch := omega) only [lit_nI, nI_leI, nI_ltI, nI_eq, nI_clamp, nI_add, nI_sub, vB_nI, Nat.add_sub_cancel, Nat.reduceSub, Nat.reduceLT, Nat.reduceLeDiff, Nat.reduceAdd, gI_pI, p2_pI, Nat.reduceEqDiff, false_and, and_false, true_and, and_true, if_false, if_true, and_self] <;> omega)) (bd1T hat (bd1T a_isDm (brT rfl rfl)))
      | cons c t =>
        obtain ⟨e1, e2, e3⟩ := dr_cons e
        have hc := tc_lt hT e
        have hat := a_at hT (p := p) (by omega)
        rw [ch_cons e] at hat
        simp only [List.length_cons] at hn
        cases q : isDg c with
        | false =>
          have e0 : dl (c :: t) = 0 := by unfold dl; rw [q]; rfl
          have hw := a_isD (w := w) hc
          rw [q] at hw
          refine ⟨w, nI m, ?_, ck_rf, fun _ => ⟨by rw [e0]; rfl, by rw [e0]; exact h5, by rw [e0]; exact h7⟩, fun q => by rw [e0] at q; omega⟩
          rw [f_X11_number_L7, h5]
          exact brF (by (simp (disch := omega) only [lit_nI, nI_leI, nI_ltI, nI_eq, nI_clamp, nI_add, nI_sub, vB_nI, Nat.add_sub_cancel, Nat.reduceSub, Nat.reduceLT, Nat.reduceLeDiff, Nat.reduceAdd, gI_pI, p2_pI, Nat.reduceEqDiff, false_and, and_false, true_and, and_true, if_false, if_true, and_self] <;> omega)) (bd1T hat (bd1T hw (brT rfl rfl)))
        | true =>
          have e0 : dl (c :: t) = dl t + 1 := by
            show (if isDg c = true then dl t + 1 else 0) = _
            rw [if_pos q]
          have hw := a_isD (w := w) hc
          rw [q] at hw
          have hcd : 48 ≤ c ∧ c ≤ 57 := by simpa [isDg] using q
          have h107 : (10 : Nat) ^ m ≤ 10 ^ 6 := Nat.pow_le_pow_right (by decide) (by omega)
          have ev : (nI v * 10) + nI c - 48 = nI (v * 10 + (c - 48)) := by
            rw [show (10 : Int32) = nI 10 from rfl, nI_mul, nI_add, show (48 : Int32) = nI 48 from rfl, nI_sub (by omega)]
            congr 1; omega
          obtain ⟨w', y, g1, g2, g4, g5⟩ := a_num t (p + 1) (m + 1) (v * 10 + (c - 48)) n (pI (pI w 4 0 7 (nI (v * 10 + (c - 48)))) 4 0 5 (nI (p + 1))) e3 (by omega) (by omega) (by rw [Nat.pow_succ]; omega) (by omega) (tc_ck (tc_ck hT (ck_pI (Or.inr rfl))) (ck_pI (Or.inl rfl))) (by simp [gI_pI]) (by simp [gI_pI])
          refine ⟨w', y, ?_, ck_tr (ck_tr (ck_pI (Or.inr rfl)) (ck_pI (Or.inl rfl))) g2, fun qq => ?_, fun qq => g5 (by rw [e0] at qq; omega)⟩
          · rw [f_X11_number_L7, h5]
            have e5 : gI (pI w 4 0 7 (nI (v * 10 + (c - 48)))) 4 0 5 = nI p := by rw [gI_pI, if_neg (by omega)]; exact h5
            refine brF (by (simp (disch := omega) only [lit_nI, nI_leI, nI_ltI, nI_eq, nI_clamp, nI_add, nI_sub, vB_nI, Nat.add_sub_cancel, Nat.reduceSub, Nat.reduceLT, Nat.reduceLeDiff, Nat.reduceAdd, gI_pI, p2_pI, Nat.reduceEqDiff, false_and, and_false, true_and, and_true, if_false, if_true, and_self] <;> omega)) (bd1T hat (bd1T hw (brF (by decide) ?_)))
            rw [h5]
            refine bd1T hat ?_
            rw [h7, ev]
            refine sqT (sqT ?_)
            rw [e5, nI_1, nI_1]
            exact sqT g1
          · rw [e0] at qq
            obtain ⟨r1, r2, r3⟩ := g4 (by omega)
            rw [e0]
            refine ⟨by rw [r1]; congr 1; omega, by rw [r2]; congr 1; omega, ?_⟩
            rw [r3]
            rfl
def sy (c : Nat) (e : Bool) : Nat × Nat := if c = 40 then (30, 1) else if c = 41 then (31, 1) else if c = 42 then (38, 1) else if c = 43 then (36, 1) else if c = 44 then (35, 1) else if c = 45 then (37, 1) else if c = 47 then (39, 1) else if c = 59 then (34, 1) else if c = 60 then (if e then (43, 2) else (40, 1)) else if c = 61 then (42, 1) else if c = 62 then (if e then (44, 2) else (41, 1)) else if c = 91 then (32, 1) else if c = 93 then (33, 1) else (2, 0)
def tok1 (l : List Nat) : Nat × Nat := match l with
  | [] => (1, 0)
  | c :: t => if isLt c then (if wl (c :: t) ≤ 10 then (wk ((c :: t).take (wl (c :: t))), wl (c :: t)) else (2, 0)) else if isDg c then (if dl (c :: t) ≤ 6 then (4, dl (c :: t)) else (2, 0)) else sy c (decide (t.head? = some 61))
theorem a_eq {T : List Nat} {p : Nat} {t : List Nat} {w : Mm} (hT : TC T w) (hp : p < 2 ^ 31) (e : T.drop p = t) (h5 : gI w 4 0 5 = nI p) : ∃ w', f_X11_withEqual w = some (bI (decide (t.head? = some 61)), w') ∧ CK w w' ∧ gI w' 4 0 5 = nI (if decide (t.head? = some 61) then p + 1 else p) := by
  have hat := a_at hT hp
  cases t with
  | nil =>
    rw [ch_nil e] at hat
    refine ⟨w, ?_, ck_rf, by simpa using h5⟩
    unfold f_X11_withEqual
    rw [h5]
    exact bd1T hat (brF (by decide) rfl)
  | cons c t =>
    rw [ch_cons e] at hat
    have hc := tc_lt hT e
    by_cases q : c = 61
    · subst q
      refine ⟨_, ?_, ck_pI (i := 5) (v := nI (p + 1)) (Or.inl rfl), by simp [gI_pI]⟩
      unfold f_X11_withEqual
      rw [h5]
      refine bd1T hat (brT rfl ?_)
      rw [h5, nI_1]
      rfl
    · refine ⟨w, ?_, ck_rf, ?_⟩
      · unfold f_X11_withEqual
        rw [h5]
        refine bd1T hat (brF (fun h => q ((nI_eq (b := 61) (by omega) (by decide)).mp h)) ?_)
        simp [q, bI]
      · simpa [q] using h5
theorem a_sym {T : List Nat} {p c : Nat} {t : List Nat} {w : Mm} (hT : TC T w) (hc : c < 256) (hp : p + 1 < 2 ^ 31) (e : T.drop (p + 1) = t) (h5 : gI w 4 0 5 = nI (p + 1)) : ∃ w', f_X11_symbol (nI c) w = some ((sy c (decide (t.head? = some 61))).1, w') ∧ CK w w' ∧ ((sy c (decide (t.head? = some 61))).1 ≠ 2 → gI w' 4 0 5 = nI (p + (sy c (decide (t.head? = some 61))).2)) := by
  obtain ⟨we, g1, g2, g3⟩ := a_eq hT hp e h5
  have ne : ∀ n, n < 256 → c ≠ n → ¬ nI c = nI n := fun n hn h q => h ((nI_eq (by omega) (by omega)).mp q)
  unfold f_X11_symbol sy
  by_cases h : c = 40
  · subst h; exact ⟨w, brT rfl rfl, ck_rf, fun _ => h5⟩
  rw [if_neg h]
  by_cases h1 : c = 41
  · subst h1; exact ⟨w, brF (by decide) (brT rfl rfl), ck_rf, fun _ => h5⟩
  rw [if_neg h1]
  by_cases h2 : c = 42
  · subst h2; exact ⟨w, brF (by decide) (brF (by decide) (brT rfl rfl)), ck_rf, fun _ => h5⟩
  rw [if_neg h2]
  by_cases h3 : c = 43
  · subst h3; exact ⟨w, brF (by decide) (brF (by decide) (brF (by decide) (brT rfl rfl))), ck_rf, fun _ => h5⟩
  rw [if_neg h3]
  by_cases h4 : c = 44
  · subst h4; exact ⟨w, brF (by decide) (brF (by decide) (brF (by decide) (brF (by decide) (brT rfl rfl)))), ck_rf, fun _ => h5⟩
  rw [if_neg h4]
  by_cases h6 : c = 45
  · subst h6; exact ⟨w, brF (by decide) (brF (by decide) (brF (by decide) (brF (by decide) (brF (by decide) (brT rfl rfl))))), ck_rf, fun _ => h5⟩
  rw [if_neg h6]
  by_cases h7 : c = 47
  · subst h7; exact ⟨w, brF (by decide) (brF (by decide) (brF (by decide) (brF (by decide) (brF (by decide) (brF (by decide) (brT rfl rfl)))))), ck_rf, fun _ => h5⟩
  rw [if_neg h7]
  by_cases h8 : c = 59
  · subst h8; exact ⟨w, brF (by decide) (brF (by decide) (brF (by decide) (brF (by decide) (brF (by decide) (brF (by decide) (brF (by decide) (brT rfl rfl))))))), ck_rf, fun _ => h5⟩
  rw [if_neg h8]
  by_cases h9 : c = 60
  · subst h9
    refine ⟨we, brF (by decide) (brF (by decide) (brF (by decide) (brF (by decide) (brF (by decide) (brF (by decide) (brF (by decide) (brF (by decide) (brT rfl (bd1T g1 ?_))))))))), g2, fun _ => ?_⟩
    · cases decide (t.head? = some 61) <;> rfl
    · rw [g3]; cases decide (t.head? = some 61) <;> rfl
  rw [if_neg h9]
  by_cases h10 : c = 61
  · subst h10; exact ⟨w, brF (by decide) (brF (by decide) (brF (by decide) (brF (by decide) (brF (by decide) (brF (by decide) (brF (by decide) (brF (by decide) (brF (by decide) (brT rfl rfl))))))))), ck_rf, fun _ => h5⟩
  rw [if_neg h10]
  by_cases h11 : c = 62
  · subst h11
    refine ⟨we, brF (by decide) (brF (by decide) (brF (by decide) (brF (by decide) (brF (by decide) (brF (by decide) (brF (by decide) (brF (by decide) (brF (by decide) (brF (by decide) (brT rfl (bd1T g1 ?_))))))))))), g2, fun _ => ?_⟩
    · cases decide (t.head? = some 61) <;> rfl
    · rw [g3]; cases decide (t.head? = some 61) <;> rfl
  rw [if_neg h11]
  by_cases h12 : c = 91
  · subst h12; exact ⟨w, brF (by decide) (brF (by decide) (brF (by decide) (brF (by decide) (brF (by decide) (brF (by decide) (brF (by decide) (brF (by decide) (brF (by decide) (brF (by decide) (brF (by decide) (brT rfl rfl))))))))))), ck_rf, fun _ => h5⟩
  rw [if_neg h12]
  by_cases h13 : c = 93
  · subst h13; exact ⟨w, brF (by decide) (brF (by decide) (brF (by decide) (brF (by decide) (brF (by decide) (brF (by decide) (brF (by decide) (brF (by decide) (brF (by decide) (brF (by decide) (brF (by decide) (brF (by decide) (brT rfl rfl)))))))))))), ck_rf, fun _ => h5⟩
  rw [if_neg h13]
  exact ⟨w, brF (ne 40 (by omega) h) (brF (ne 41 (by omega) h1) (brF (ne 42 (by omega) h2) (brF (ne 43 (by omega) h3) (brF (ne 44 (by omega) h4) (brF (ne 45 (by omega) h6) (brF (ne 47 (by omega) h7) (brF (ne 59 (by omega) h8) (brF (ne 60 (by omega) h9) (brF (ne 61 (by omega) h10) (brF (ne 62 (by omega) h11) (brF (ne 91 (by omega) h12) (brF (ne 93 (by omega) h13) rfl)))))))))))), ck_rf, fun q => (q rfl).elim⟩
