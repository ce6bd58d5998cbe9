-- AT THE LAW'S ENTRY (made by genstart.py): tables, statics, texts
def sIx : List Nat := [387, 389, 390, 392, 393, 394, 396, 397, 399, 401, 403, 404, 405, 406, 407, 408, 409, 411, 413, 415, 417, 419, 420, 112]
def tmS (i : Nat) : Term := .string "HedgeNewsModel" (sIx.getD i 0)
def fVal (t : Term) : Term := .field t "java/lang/String" "value" "[B"
def csub : Cond → List Bool → Cond
  | .and _ d, true :: p => csub d p
  | .and c _, false :: p => csub c p
  | c, _ => c
theorem nsub0 {args : Array Value} {s : State} : ∀ (T : Cond) (p : List Bool), T.before args s = true → (csub T p).before args s = true := by
  intro T
  induction T with
  | and a b iha ihb =>
    intro p h
    cases p with
    | nil => exact h
    | cons x p =>
      rw [Cond.before_and, Bool.and_eq_true] at h
      cases x with
      | true => exact ihb p h.2
      | false => exact iha p h.1
  | _ => intro p h; exact h
theorem nsub {args : Array Value} {s : State} (h : narrow_1.before args s = true) (p : List Bool) : (csub narrow_1 p).before args s = true := nsub0 _ p h
section NARROW
variable {s : State} {b : Nat}
theorem e_kex (hn : narrow_1.before #[Value.ref b] s = true) : ∀ i, i < 44 → (Cond.exactly (.static "HedgeNews$Kind" (kNm.getD i "") "LHedgeNews$Kind;") "HedgeNews$Kind").before #[Value.ref b] s = true := fun i hi => by
  match i, hi with
  | 0, _ => exact nsub hn [false, false, false, false, false, false, false, false, true, true]
  | 1, _ => exact nsub hn [false, false, false, false, false, false, false, true, true, true]
  | 2, _ => exact nsub hn [false, false, false, true, false, false, true, false, true, true]
  | 3, _ => exact nsub hn [false, false, false, true, false, false, true, true, true, true]
  | 4, _ => exact nsub hn [false, false, true, true, false, true, true, true, false, false]
  | 5, _ => exact nsub hn [false, false, true, true, true, true, false, true, true, true]
  | 6, _ => exact nsub hn [false, true, false, false, false, false, false, false, true, false]
  | 7, _ => exact nsub hn [false, false, true, true, false, false, true, false, false]
  | 8, _ => exact nsub hn [false, true, false, false, false, false, false, true, true, false]
  | 9, _ => exact nsub hn [false, false, true, true, false, false, true, true, false]
  | 10, _ => exact nsub hn [false, false, true, true, true, true, true, false, true, true]
  | 11, _ => exact nsub hn [false, false, true, true, true, true, true, true, true, false]
  | 12, _ => exact nsub hn [false, false, true, true, false, true, true, true, true, true]
  | 13, _ => exact nsub hn [false, false, true, true, false, true, false, false, false]
  | 14, _ => exact nsub hn [false, false, true, true, false, true, false, true, false]
  | 15, _ => exact nsub hn [false, false, true, true, true, false, false, false, true, true]
  | 16, _ => exact nsub hn [false, true, false, false, true, true, true, false, true, false]
  | 17, _ => exact nsub hn [false, true, false, false, true, true, true, true, false, true]
  | 18, _ => exact nsub hn [false, true, false, true, false, false, false, false, false]
  | 19, _ => exact nsub hn [false, true, false, true, false, false, false, true, false]
  | 20, _ => exact nsub hn [false, true, false, true, false, false, true, false, false]
  | 21, _ => exact nsub hn [false, true, false, false, false, false, true, false, true, false]
  | 22, _ => exact nsub hn [false, false, true, true, false, true, true, false, false]
  | 23, _ => exact nsub hn [false, false, true, true, true, false, true, false, true, true]
  | 24, _ => exact nsub hn [false, false, true, true, true, false, false, true, true, true]
  | 25, _ => exact nsub hn [false, false, true, true, true, false, true, true, true, true]
  | 26, _ => exact nsub hn [false, false, true, true, true, true, false, false, true, true]
  | 27, _ => exact nsub hn [false, true, false, true, false, false, true, true, false]
  | 28, _ => exact nsub hn [false, true, false, true, false, true, false, false, false]
  | 29, _ => exact nsub hn [false, false, false, true, false, true, false, false, true, true]
  | 30, _ => exact nsub hn [false, false, false, true, false, true, false, true, true, true]
  | 31, _ => exact nsub hn [false, false, false, true, false, true, true, false, true, true]
  | 32, _ => exact nsub hn [false, false, false, true, false, true, true, true, true, false]
  | 33, _ => exact nsub hn [false, false, false, true, true, false, false, false, true, false]
  | 34, _ => exact nsub hn [false, false, false, true, true, false, false, true, true, false]
  | 35, _ => exact nsub hn [false, false, false, true, true, false, true, false, true, false]
  | 36, _ => exact nsub hn [false, false, false, true, true, false, true, true, true, false]
  | 37, _ => exact nsub hn [false, false, false, true, true, true, false, false, true, false]
  | 38, _ => exact nsub hn [false, false, false, true, true, true, false, true, true, false]
  | 39, _ => exact nsub hn [false, false, true, false, false, false, false, false, false]
  | 40, _ => exact nsub hn [false, false, true, false, false, false, true, false, false]
  | 41, _ => exact nsub hn [false, false, false, true, true, true, true, false, true, false]
  | 42, _ => exact nsub hn [false, false, false, true, true, true, true, true, false, true]
  | 43, _ => exact nsub hn [false, false, true, false, false, false, false, true, false]
  | i + 44, h => omega
theorem e_kor (hn : narrow_1.before #[Value.ref b] s = true) : ∀ i, i < 44 → (Cond.eq (.field (.static "HedgeNews$Kind" (kNm.getD i "") "LHedgeNews$Kind;") "java/lang/Enum" "ordinal" "I") (.int (kOr.getD i 0))).before #[Value.ref b] s = true := fun i hi => by
  match i, hi with
  | 0, _ => exact nsub hn [false, false, false, false, false, false, false, true, false]
  | 1, _ => exact nsub hn [false, false, false, false, false, false, true, false, false]
  | 2, _ => exact nsub hn [false, false, false, true, false, false, true, true, false]
  | 3, _ => exact nsub hn [false, false, false, true, false, true, false, false, false]
  | 4, _ => exact nsub hn [false, false, true, true, false, true, true, true, false, true]
  | 5, _ => exact nsub hn [false, false, true, true, true, true, true, false, false]
  | 6, _ => exact nsub hn [false, true, false, false, false, false, false, false, true, true]
  | 7, _ => exact nsub hn [false, false, true, true, false, false, true, false, true, false]
  | 8, _ => exact nsub hn [false, true, false, false, false, false, false, true, true, true]
  | 9, _ => exact nsub hn [false, false, true, true, false, false, true, true, true, false]
  | 10, _ => exact nsub hn [false, false, true, true, true, true, true, true, false, false]
  | 11, _ => exact nsub hn [false, false, true, true, true, true, true, true, true, true]
  | 12, _ => exact nsub hn [false, false, true, true, true, false, false, false, false]
  | 13, _ => exact nsub hn [false, false, true, true, false, true, false, false, true, false]
  | 14, _ => exact nsub hn [false, false, true, true, false, true, false, true, true, false]
  | 15, _ => exact nsub hn [false, false, true, true, true, false, false, true, false]
  | 16, _ => exact nsub hn [false, true, false, false, true, true, true, false, true, true]
  | 17, _ => exact nsub hn [false, true, false, false, true, true, true, true, true, false]
  | 18, _ => exact nsub hn [false, true, false, true, false, false, false, false, true, false]
  | 19, _ => exact nsub hn [false, true, false, true, false, false, false, true, true, false]
  | 20, _ => exact nsub hn [false, true, false, true, false, false, true, false, true, false]
  | 21, _ => exact nsub hn [false, true, false, false, false, false, true, false, true, true]
  | 22, _ => exact nsub hn [false, false, true, true, false, true, true, false, true, false]
  | 23, _ => exact nsub hn [false, false, true, true, true, false, true, true, false]
  | 24, _ => exact nsub hn [false, false, true, true, true, false, true, false, false]
  | 25, _ => exact nsub hn [false, false, true, true, true, true, false, false, false]
  | 26, _ => exact nsub hn [false, false, true, true, true, true, false, true, false]
  | 27, _ => exact nsub hn [false, true, false, true, false, false, true, true, true, false]
  | 28, _ => exact nsub hn [false, true, false, true, false, true, false, false, true, false]
  | 29, _ => exact nsub hn [false, false, false, true, false, true, false, true, false]
  | 30, _ => exact nsub hn [false, false, false, true, false, true, true, false, false]
  | 31, _ => exact nsub hn [false, false, false, true, false, true, true, true, false, false]
  | 32, _ => exact nsub hn [false, false, false, true, false, true, true, true, true, true]
  | 33, _ => exact nsub hn [false, false, false, true, true, false, false, false, true, true]
  | 34, _ => exact nsub hn [false, false, false, true, true, false, false, true, true, true]
  | 35, _ => exact nsub hn [false, false, false, true, true, false, true, false, true, true]
  | 36, _ => exact nsub hn [false, false, false, true, true, false, true, true, true, true]
  | 37, _ => exact nsub hn [false, false, false, true, true, true, false, false, true, true]
  | 38, _ => exact nsub hn [false, false, false, true, true, true, false, true, true, true]
  | 39, _ => exact nsub hn [false, false, true, false, false, false, false, false, true, false]
  | 40, _ => exact nsub hn [false, false, true, false, false, false, true, false, true, false]
  | 41, _ => exact nsub hn [false, false, false, true, true, true, true, false, true, true]
  | 42, _ => exact nsub hn [false, false, false, true, true, true, true, true, true, false]
  | 43, _ => exact nsub hn [false, false, true, false, false, false, false, true, true, false]
  | i + 44, h => omega
theorem e_kke (hn : narrow_1.before #[Value.ref b] s = true) : ∀ i, i < 44 → (Cond.eq (.field (.static "HedgeNews$Kind" (kNm.getD i "") "LHedgeNews$Kind;") "HedgeNews$Kind" "key" "J") (.long (keyL.getD i 0))).before #[Value.ref b] s = true := fun i hi => by
  match i, hi with
  | 0, _ => exact nsub hn [false, false, false, false, false, false, false, true, true, false]
  | 1, _ => exact nsub hn [false, false, false, false, false, false, true, false, true, false]
  | 2, _ => exact nsub hn [false, false, false, true, false, false, true, true, true, false]
  | 3, _ => exact nsub hn [false, false, false, true, false, true, false, false, true, false]
  | 4, _ => exact nsub hn [false, false, true, true, false, true, true, true, true, false]
  | 5, _ => exact nsub hn [false, false, true, true, true, true, true, false, true, false]
  | 6, _ => exact nsub hn [false, true, false, false, false, false, false, true, false]
  | 7, _ => exact nsub hn [false, false, true, true, false, false, true, false, true, true]
  | 8, _ => exact nsub hn [false, true, false, false, false, false, true, false, false]
  | 9, _ => exact nsub hn [false, false, true, true, false, false, true, true, true, true]
  | 10, _ => exact nsub hn [false, false, true, true, true, true, true, true, false, true]
  | 11, _ => exact nsub hn [false, true, false, false, false, false, false, false, false]
  | 12, _ => exact nsub hn [false, false, true, true, true, false, false, false, true, false]
  | 13, _ => exact nsub hn [false, false, true, true, false, true, false, false, true, true]
  | 14, _ => exact nsub hn [false, false, true, true, false, true, false, true, true, true]
  | 15, _ => exact nsub hn [false, false, true, true, true, false, false, true, true, false]
  | 16, _ => exact nsub hn [false, true, false, false, true, true, true, true, false, false]
  | 17, _ => exact nsub hn [false, true, false, false, true, true, true, true, true, true]
  | 18, _ => exact nsub hn [false, true, false, true, false, false, false, false, true, true]
  | 19, _ => exact nsub hn [false, true, false, true, false, false, false, true, true, true]
  | 20, _ => exact nsub hn [false, true, false, true, false, false, true, false, true, true]
  | 21, _ => exact nsub hn [false, true, false, false, false, false, true, true, false]
  | 22, _ => exact nsub hn [false, false, true, true, false, true, true, false, true, true]
  | 23, _ => exact nsub hn [false, false, true, true, true, false, true, true, true, false]
  | 24, _ => exact nsub hn [false, false, true, true, true, false, true, false, true, false]
  | 25, _ => exact nsub hn [false, false, true, true, true, true, false, false, true, false]
  | 26, _ => exact nsub hn [false, false, true, true, true, true, false, true, true, false]
  | 27, _ => exact nsub hn [false, true, false, true, false, false, true, true, true, true]
  | 28, _ => exact nsub hn [false, true, false, true, false, true, false, false, true, true]
  | 29, _ => exact nsub hn [false, false, false, true, false, true, false, true, true, false]
  | 30, _ => exact nsub hn [false, false, false, true, false, true, true, false, true, false]
  | 31, _ => exact nsub hn [false, false, false, true, false, true, true, true, false, true]
  | 32, _ => exact nsub hn [false, false, false, true, true, false, false, false, false]
  | 33, _ => exact nsub hn [false, false, false, true, true, false, false, true, false]
  | 34, _ => exact nsub hn [false, false, false, true, true, false, true, false, false]
  | 35, _ => exact nsub hn [false, false, false, true, true, false, true, true, false]
  | 36, _ => exact nsub hn [false, false, false, true, true, true, false, false, false]
  | 37, _ => exact nsub hn [false, false, false, true, true, true, false, true, false]
  | 38, _ => exact nsub hn [false, false, false, true, true, true, true, false, false]
  | 39, _ => exact nsub hn [false, false, true, false, false, false, false, false, true, true]
  | 40, _ => exact nsub hn [false, false, true, false, false, false, true, false, true, true]
  | 41, _ => exact nsub hn [false, false, false, true, true, true, true, true, false, false]
  | 42, _ => exact nsub hn [false, false, false, true, true, true, true, true, true, true]
  | 43, _ => exact nsub hn [false, false, true, false, false, false, false, true, true, true]
  | i + 44, h => omega
theorem e_kal (hn : narrow_1.before #[Value.ref b] s = true) : ∀ i, i < 44 → (Cond.eq (.elem (.static "HedgeNews$Kind" "ALL" "[LHedgeNews$Kind;") (.int (Int32.ofNat i))) (.static "HedgeNews$Kind" (kNm.getD i "") "LHedgeNews$Kind;")).before #[Value.ref b] s = true := fun i hi => by
  match i, hi with
  | 0, _ => exact nsub hn [false, false, false, false, false, true, false, false, true, false]
  | 1, _ => exact nsub hn [false, false, false, false, false, true, false, false, true, true]
  | 2, _ => exact nsub hn [false, false, false, false, false, true, false, true, false]
  | 3, _ => exact nsub hn [false, false, false, false, false, true, false, true, true, false]
  | 4, _ => exact nsub hn [false, false, false, false, false, true, false, true, true, true]
  | 5, _ => exact nsub hn [false, false, false, false, false, true, true, false, false]
  | 6, _ => exact nsub hn [false, false, false, false, false, true, true, false, true, false]
  | 7, _ => exact nsub hn [false, false, false, false, false, true, true, false, true, true]
  | 8, _ => exact nsub hn [false, false, false, false, false, true, true, true, false]
  | 9, _ => exact nsub hn [false, false, false, false, false, true, true, true, true, false]
  | 10, _ => exact nsub hn [false, false, false, false, false, true, true, true, true, true]
  | 11, _ => exact nsub hn [false, false, false, false, true, false, false, false, false]
  | 12, _ => exact nsub hn [false, false, false, false, true, false, false, false, true, false]
  | 13, _ => exact nsub hn [false, false, false, false, true, false, false, false, true, true]
  | 14, _ => exact nsub hn [false, false, false, false, true, false, false, true, false]
  | 15, _ => exact nsub hn [false, false, false, false, true, false, false, true, true, false]
  | 16, _ => exact nsub hn [false, false, false, false, true, false, false, true, true, true]
  | 17, _ => exact nsub hn [false, false, false, false, true, false, true, false, false]
  | 18, _ => exact nsub hn [false, false, false, false, true, false, true, false, true, false]
  | 19, _ => exact nsub hn [false, false, false, false, true, false, true, false, true, true]
  | 20, _ => exact nsub hn [false, false, false, false, true, false, true, true, false]
  | 21, _ => exact nsub hn [false, false, false, false, true, false, true, true, true, false]
  | 22, _ => exact nsub hn [false, false, false, false, true, false, true, true, true, true]
  | 23, _ => exact nsub hn [false, false, false, false, true, true, false, false, false]
  | 24, _ => exact nsub hn [false, false, false, false, true, true, false, false, true, false]
  | 25, _ => exact nsub hn [false, false, false, false, true, true, false, false, true, true]
  | 26, _ => exact nsub hn [false, false, false, false, true, true, false, true, false]
  | 27, _ => exact nsub hn [false, false, false, false, true, true, false, true, true, false]
  | 28, _ => exact nsub hn [false, false, false, false, true, true, false, true, true, true]
  | 29, _ => exact nsub hn [false, false, false, false, true, true, true, false, false]
  | 30, _ => exact nsub hn [false, false, false, false, true, true, true, false, true, false]
  | 31, _ => exact nsub hn [false, false, false, false, true, true, true, false, true, true]
  | 32, _ => exact nsub hn [false, false, false, false, true, true, true, true, false, false]
  | 33, _ => exact nsub hn [false, false, false, false, true, true, true, true, false, true]
  | 34, _ => exact nsub hn [false, false, false, false, true, true, true, true, true, false]
  | 35, _ => exact nsub hn [false, false, false, false, true, true, true, true, true, true]
  | 36, _ => exact nsub hn [false, false, false, true, false, false, false, false, false]
  | 37, _ => exact nsub hn [false, false, false, true, false, false, false, false, true, false]
  | 38, _ => exact nsub hn [false, false, false, true, false, false, false, false, true, true]
  | 39, _ => exact nsub hn [false, false, false, true, false, false, false, true, false]
  | 40, _ => exact nsub hn [false, false, false, true, false, false, false, true, true, false]
  | 41, _ => exact nsub hn [false, false, false, true, false, false, false, true, true, true]
  | 42, _ => exact nsub hn [false, false, false, true, false, false, true, false, false]
  | 43, _ => exact nsub hn [false, false, false, true, false, false, true, false, true, false]
  | i + 44, h => omega
theorem e_swi (hn : narrow_1.before #[Value.ref b] s = true) : ∀ i, i < 44 → (Cond.eq (.elem (.static "HedgeNews$1" "$SwitchMap$HedgeNews$Kind" "[I") (.int (Int32.ofNat i))) (.int (swT.getD i 0))).before #[Value.ref b] s = true := fun i hi => by
  match i, hi with
  | 0, _ => exact nsub hn [false, false, true, false, false, true, false, false, false]
  | 1, _ => exact nsub hn [false, false, true, false, false, true, false, false, true, false]
  | 2, _ => exact nsub hn [false, false, true, false, false, true, false, false, true, true]
  | 3, _ => exact nsub hn [false, false, true, false, false, true, false, true, false]
  | 4, _ => exact nsub hn [false, false, true, false, false, true, false, true, true, false]
  | 5, _ => exact nsub hn [false, false, true, false, false, true, false, true, true, true]
  | 6, _ => exact nsub hn [false, false, true, false, false, true, true, false, false]
  | 7, _ => exact nsub hn [false, false, true, false, false, true, true, false, true, false]
  | 8, _ => exact nsub hn [false, false, true, false, false, true, true, false, true, true]
  | 9, _ => exact nsub hn [false, false, true, false, false, true, true, true, false, false]
  | 10, _ => exact nsub hn [false, false, true, false, false, true, true, true, false, true]
  | 11, _ => exact nsub hn [false, false, true, false, false, true, true, true, true, false]
  | 12, _ => exact nsub hn [false, false, true, false, false, true, true, true, true, true]
  | 13, _ => exact nsub hn [false, false, true, false, true, false, false, false, false]
  | 14, _ => exact nsub hn [false, false, true, false, true, false, false, false, true, false]
  | 15, _ => exact nsub hn [false, false, true, false, true, false, false, false, true, true]
  | 16, _ => exact nsub hn [false, false, true, false, true, false, false, true, false]
  | 17, _ => exact nsub hn [false, false, true, false, true, false, false, true, true, false]
  | 18, _ => exact nsub hn [false, false, true, false, true, false, false, true, true, true]
  | 19, _ => exact nsub hn [false, false, true, false, true, false, true, false, false]
  | 20, _ => exact nsub hn [false, false, true, false, true, false, true, false, true, false]
  | 21, _ => exact nsub hn [false, false, true, false, true, false, true, false, true, true]
  | 22, _ => exact nsub hn [false, false, true, false, true, false, true, true, false]
  | 23, _ => exact nsub hn [false, false, true, false, true, false, true, true, true, false]
  | 24, _ => exact nsub hn [false, false, true, false, true, false, true, true, true, true]
  | 25, _ => exact nsub hn [false, false, true, false, true, true, false, false, false]
  | 26, _ => exact nsub hn [false, false, true, false, true, true, false, false, true, false]
  | 27, _ => exact nsub hn [false, false, true, false, true, true, false, false, true, true]
  | 28, _ => exact nsub hn [false, false, true, false, true, true, false, true, false]
  | 29, _ => exact nsub hn [false, false, true, false, true, true, false, true, true, false]
  | 30, _ => exact nsub hn [false, false, true, false, true, true, false, true, true, true]
  | 31, _ => exact nsub hn [false, false, true, false, true, true, true, false, false]
  | 32, _ => exact nsub hn [false, false, true, false, true, true, true, false, true, false]
  | 33, _ => exact nsub hn [false, false, true, false, true, true, true, false, true, true]
  | 34, _ => exact nsub hn [false, false, true, false, true, true, true, true, false, false]
  | 35, _ => exact nsub hn [false, false, true, false, true, true, true, true, false, true]
  | 36, _ => exact nsub hn [false, false, true, false, true, true, true, true, true, false]
  | 37, _ => exact nsub hn [false, false, true, false, true, true, true, true, true, true]
  | 38, _ => exact nsub hn [false, false, true, true, false, false, false, false, false]
  | 39, _ => exact nsub hn [false, false, true, true, false, false, false, false, true, false]
  | 40, _ => exact nsub hn [false, false, true, true, false, false, false, false, true, true]
  | 41, _ => exact nsub hn [false, false, true, true, false, false, false, true, false]
  | 42, _ => exact nsub hn [false, false, true, true, false, false, false, true, true, false]
  | 43, _ => exact nsub hn [false, false, true, true, false, false, false, true, true, true]
  | i + 44, h => omega
theorem e_a1 (hn : narrow_1.before #[Value.ref b] s = true) : (Cond.arrayOf (.static "HedgeNews$Kind" "ALL" "[LHedgeNews$Kind;") (.object "HedgeNews$Kind")).before #[Value.ref b] s = true := nsub hn [false, false, false, false, false, false, true, true, true, false]
theorem e_a2 (hn : narrow_1.before #[Value.ref b] s = true) : (Cond.eq (.length (.static "HedgeNews$Kind" "ALL" "[LHedgeNews$Kind;")) (.int (Int32.ofNat 44))).before #[Value.ref b] s = true := nsub hn [false, false, false, false, false, false, true, true, true, true]
theorem e_a3 (hn : narrow_1.before #[Value.ref b] s = true) : (Cond.arrayOf (.static "HedgeNews$1" "$SwitchMap$HedgeNews$Kind" "[I") .int).before #[Value.ref b] s = true := nsub hn [false, false, true, false, false, false, true, true, true, false]
theorem e_a4 (hn : narrow_1.before #[Value.ref b] s = true) : (Cond.eq (.length (.static "HedgeNews$1" "$SwitchMap$HedgeNews$Kind" "[I")) (.int (Int32.ofNat 44))).before #[Value.ref b] s = true := nsub hn [false, false, true, false, false, false, true, true, true, true]
theorem e_a5 (hn : narrow_1.before #[Value.ref b] s = true) : (Cond.arrayOf (.static "HedgeNewsModel" "WORDS" "[Ljava/lang/String;") (.object "java/lang/String")).before #[Value.ref b] s = true := nsub hn [false, true, false, false, false, true, false, false, true, false]
theorem e_a6 (hn : narrow_1.before #[Value.ref b] s = true) : (Cond.eq (.length (.static "HedgeNewsModel" "WORDS" "[Ljava/lang/String;")) (.int (Int32.ofNat 23))).before #[Value.ref b] s = true := nsub hn [false, true, false, false, false, true, false, false, true, true]
theorem e_wor (hn : narrow_1.before #[Value.ref b] s = true) : ∀ i, i < 23 → (Cond.eq (.elem (.static "HedgeNewsModel" "WORDS" "[Ljava/lang/String;") (.int (Int32.ofNat i))) (tmS i)).before #[Value.ref b] s = true := fun i hi => by
  match i, hi with
  | 0, _ => exact nsub hn [false, true, false, false, false, true, false, true, false]
  | 1, _ => exact nsub hn [false, true, false, false, false, true, false, true, true, false]
  | 2, _ => exact nsub hn [false, true, false, false, false, true, false, true, true, true]
  | 3, _ => exact nsub hn [false, true, false, false, false, true, true, false, false]
  | 4, _ => exact nsub hn [false, true, false, false, false, true, true, false, true, false]
  | 5, _ => exact nsub hn [false, true, false, false, false, true, true, false, true, true]
  | 6, _ => exact nsub hn [false, true, false, false, false, true, true, true, false]
  | 7, _ => exact nsub hn [false, true, false, false, false, true, true, true, true, false]
  | 8, _ => exact nsub hn [false, true, false, false, false, true, true, true, true, true]
  | 9, _ => exact nsub hn [false, true, false, false, true, false, false, false, false]
  | 10, _ => exact nsub hn [false, true, false, false, true, false, false, false, true, false]
  | 11, _ => exact nsub hn [false, true, false, false, true, false, false, false, true, true]
  | 12, _ => exact nsub hn [false, true, false, false, true, false, false, true, false]
  | 13, _ => exact nsub hn [false, true, false, false, true, false, false, true, true, false]
  | 14, _ => exact nsub hn [false, true, false, false, true, false, false, true, true, true]
  | 15, _ => exact nsub hn [false, true, false, false, true, false, true, false, false]
  | 16, _ => exact nsub hn [false, true, false, false, true, false, true, false, true, false]
  | 17, _ => exact nsub hn [false, true, false, false, true, false, true, false, true, true]
  | 18, _ => exact nsub hn [false, true, false, false, true, false, true, true, false]
  | 19, _ => exact nsub hn [false, true, false, false, true, false, true, true, true, false]
  | 20, _ => exact nsub hn [false, true, false, false, true, false, true, true, true, true]
  | 21, _ => exact nsub hn [false, true, false, false, true, true, false, false, false]
  | 22, _ => exact nsub hn [false, true, false, false, true, true, false, false, true, false]
  | i + 23, h => omega
theorem e_r1 (hn : narrow_1.before #[Value.ref b] s = true) : (Cond.isRef (.static "java/lang/Throwable" "UNASSIGNED_STACK" "[Ljava/lang/StackTraceElement;")).before #[Value.ref b] s = true := nsub hn [false, true, false, false, false, false, true, true, true, false]
theorem e_r2 (hn : narrow_1.before #[Value.ref b] s = true) : (Cond.isRef (.static "java/lang/Throwable" "SUPPRESSED_SENTINEL" "Ljava/util/List;")).before #[Value.ref b] s = true := nsub hn [false, true, false, false, false, false, true, true, true, true]
theorem e_r3 (hn : narrow_1.before #[Value.ref b] s = true) : (Cond.isRef (.static "jdk/internal/util/Preconditions" "SIOOBE_FORMATTER" "Ljava/util/function/BiFunction;")).before #[Value.ref b] s = true := nsub hn [false, true, false, false, true, true, false, true, false]
theorem e_r4 (hn : narrow_1.before #[Value.ref b] s = true) : (Cond.eq (.static "java/lang/String" "COMPACT_STRINGS" "Z") (.int 1)).before #[Value.ref b] s = true := nsub hn [false, true, false, false, true, true, false, false, true, true]
theorem e_nwx (hn : narrow_1.before #[Value.ref b] s = true) : ∀ q ∈ NWX, va_Nc q.1 q.2 s := List.forall_mem_cons.mpr ⟨va_Nc.of (args := #[Value.ref b]) (nsub hn [false, true, false, true, true, false, true, false, false]), List.forall_mem_cons.mpr ⟨va_Nc.of (args := #[Value.ref b]) (nsub hn [false, true, false, true, true, true, true, true, true, false]), List.forall_mem_cons.mpr ⟨va_Nc.of (args := #[Value.ref b]) (nsub hn [false, true, true, false, false, true, false, false, true, true]), List.forall_mem_cons.mpr ⟨va_Nc.of (args := #[Value.ref b]) (nsub hn [false, true, false, true, true, true, true, true, false, true]), List.forall_mem_cons.mpr ⟨va_Nc.of (args := #[Value.ref b]) (nsub hn [false, true, true, false, false, true, false, true, false]), List.forall_mem_cons.mpr ⟨va_Nc.of (args := #[Value.ref b]) (nsub hn [false, true, false, true, true, false, false, true, true, true]), fun _ h => absurd h List.not_mem_nil⟩⟩⟩⟩⟩⟩
theorem e_s1 (hn : narrow_1.before #[Value.ref b] s = true) : ∀ i, i < 24 → (Cond.exactly (tmS i) "java/lang/String").before #[Value.ref b] s = true := fun i hi => by
  match i, hi with
  | 0, _ => exact nsub hn [true, true, false, false, false, false, true, false, false]
  | 1, _ => exact nsub hn [true, true, false, false, false, true, false, true, false]
  | 2, _ => exact nsub hn [true, true, false, false, false, true, true, true, true, false]
  | 3, _ => exact nsub hn [true, true, false, false, true, false, true, false, false]
  | 4, _ => exact nsub hn [true, true, false, false, true, true, true, false, false]
  | 5, _ => exact nsub hn [true, true, false, true, false, false, false, true, false]
  | 6, _ => exact nsub hn [true, true, false, true, false, true, false, false, false]
  | 7, _ => exact nsub hn [true, true, false, true, false, true, true, false, false]
  | 8, _ => exact nsub hn [true, true, false, true, true, false, false, false, true, false]
  | 9, _ => exact nsub hn [true, true, false, true, true, false, true, true, false]
  | 10, _ => exact nsub hn [true, true, false, true, true, true, false, true, true, true]
  | 11, _ => exact nsub hn [true, true, false, true, true, true, true, true, true, true]
  | 12, _ => exact nsub hn [true, true, true, false, false, false, true, true, false]
  | 13, _ => exact nsub hn [true, true, true, false, false, true, true, true, false, false]
  | 14, _ => exact nsub hn [true, true, true, false, true, false, false, true, true, true]
  | 15, _ => exact nsub hn [true, true, true, false, true, true, false, true, false]
  | 16, _ => exact nsub hn [true, true, true, true, false, false, false, false, false]
  | 17, _ => exact nsub hn [true, true, true, true, false, false, true, false, false]
  | 18, _ => exact nsub hn [true, true, true, true, false, true, false, true, false]
  | 19, _ => exact nsub hn [true, true, true, true, false, true, true, true, false, true]
  | 20, _ => exact nsub hn [true, true, true, true, true, false, false, true, true, false]
  | 21, _ => exact nsub hn [true, true, true, true, true, false, true, true, true, false]
  | 22, _ => exact nsub hn [true, true, true, true, true, true, false, true, true, true]
  | 23, _ => exact nsub hn [true, false, true, true, true, true, false, false, true, true]
  | i + 24, h => omega
theorem e_s2 (hn : narrow_1.before #[Value.ref b] s = true) : ∀ i, i < 24 → (Cond.eq (.field (tmS i) "java/lang/String" "coder" "B") (.int 0)).before #[Value.ref b] s = true := fun i hi => by
  match i, hi with
  | 0, _ => exact nsub hn [true, true, false, false, false, false, true, false, true, false]
  | 1, _ => exact nsub hn [true, true, false, false, false, true, false, true, true, false]
  | 2, _ => exact nsub hn [true, true, false, false, false, true, true, true, true, true]
  | 3, _ => exact nsub hn [true, true, false, false, true, false, true, false, true, false]
  | 4, _ => exact nsub hn [true, true, false, false, true, true, true, false, true, false]
  | 5, _ => exact nsub hn [true, true, false, true, false, false, false, true, true, false]
  | 6, _ => exact nsub hn [true, true, false, true, false, true, false, false, true, false]
  | 7, _ => exact nsub hn [true, true, false, true, false, true, true, false, true, false]
  | 8, _ => exact nsub hn [true, true, false, true, true, false, false, false, true, true]
  | 9, _ => exact nsub hn [true, true, false, true, true, false, true, true, true, false]
  | 10, _ => exact nsub hn [true, true, false, true, true, true, true, false, false]
  | 11, _ => exact nsub hn [true, true, true, false, false, false, false, false, false]
  | 12, _ => exact nsub hn [true, true, true, false, false, false, true, true, true, false]
  | 13, _ => exact nsub hn [true, true, true, false, false, true, true, true, false, true]
  | 14, _ => exact nsub hn [true, true, true, false, true, false, true, false, false]
  | 15, _ => exact nsub hn [true, true, true, false, true, true, false, true, true, false]
  | 16, _ => exact nsub hn [true, true, true, true, false, false, false, false, true, false]
  | 17, _ => exact nsub hn [true, true, true, true, false, false, true, false, true, false]
  | 18, _ => exact nsub hn [true, true, true, true, false, true, false, true, true, false]
  | 19, _ => exact nsub hn [true, true, true, true, false, true, true, true, true, false]
  | 20, _ => exact nsub hn [true, true, true, true, true, false, false, true, true, true]
  | 21, _ => exact nsub hn [true, true, true, true, true, false, true, true, true, true]
  | 22, _ => exact nsub hn [true, true, true, true, true, true, true, false, false]
  | 23, _ => exact nsub hn [true, false, true, true, true, true, false, true, false]
  | i + 24, h => omega
theorem e_s3 (hn : narrow_1.before #[Value.ref b] s = true) : ∀ i, i < 24 → (Cond.arrayOf (fVal (tmS i)) .byte).before #[Value.ref b] s = true := fun i hi => by
  match i, hi with
  | 0, _ => exact nsub hn [true, true, false, false, false, false, true, false, true, true]
  | 1, _ => exact nsub hn [true, true, false, false, false, true, false, true, true, true]
  | 2, _ => exact nsub hn [true, true, false, false, true, false, false, false, false]
  | 3, _ => exact nsub hn [true, true, false, false, true, false, true, false, true, true]
  | 4, _ => exact nsub hn [true, true, false, false, true, true, true, false, true, true]
  | 5, _ => exact nsub hn [true, true, false, true, false, false, false, true, true, true]
  | 6, _ => exact nsub hn [true, true, false, true, false, true, false, false, true, true]
  | 7, _ => exact nsub hn [true, true, false, true, false, true, true, false, true, true]
  | 8, _ => exact nsub hn [true, true, false, true, true, false, false, true, false]
  | 9, _ => exact nsub hn [true, true, false, true, true, false, true, true, true, true]
  | 10, _ => exact nsub hn [true, true, false, true, true, true, true, false, true, false]
  | 11, _ => exact nsub hn [true, true, true, false, false, false, false, false, true, false]
  | 12, _ => exact nsub hn [true, true, true, false, false, false, true, true, true, true]
  | 13, _ => exact nsub hn [true, true, true, false, false, true, true, true, true, false]
  | 14, _ => exact nsub hn [true, true, true, false, true, false, true, false, true, false]
  | 15, _ => exact nsub hn [true, true, true, false, true, true, false, true, true, true]
  | 16, _ => exact nsub hn [true, true, true, true, false, false, false, false, true, true]
  | 17, _ => exact nsub hn [true, true, true, true, false, false, true, false, true, true]
  | 18, _ => exact nsub hn [true, true, true, true, false, true, false, true, true, true]
  | 19, _ => exact nsub hn [true, true, true, true, false, true, true, true, true, true]
  | 20, _ => exact nsub hn [true, true, true, true, true, false, true, false, false]
  | 21, _ => exact nsub hn [true, true, true, true, true, true, false, false, false]
  | 22, _ => exact nsub hn [true, true, true, true, true, true, true, false, true, false]
  | 23, _ => exact nsub hn [true, false, true, true, true, true, false, true, true, false]
  | i + 24, h => omega
theorem e_s4 (hn : narrow_1.before #[Value.ref b] s = true) : ∀ i, i < 24 → (Cond.eq (.length (fVal (tmS i))) (.int (Int32.ofNat (lenS.getD i 0)))).before #[Value.ref b] s = true := fun i hi => by
  match i, hi with
  | 0, _ => exact nsub hn [true, true, false, false, false, false, true, true, false]
  | 1, _ => exact nsub hn [true, true, false, false, false, true, true, false, false]
  | 2, _ => exact nsub hn [true, true, false, false, true, false, false, false, true, false]
  | 3, _ => exact nsub hn [true, true, false, false, true, false, true, true, false]
  | 4, _ => exact nsub hn [true, true, false, false, true, true, true, true, false, false]
  | 5, _ => exact nsub hn [true, true, false, true, false, false, true, false, false]
  | 6, _ => exact nsub hn [true, true, false, true, false, true, false, true, false]
  | 7, _ => exact nsub hn [true, true, false, true, false, true, true, true, false, false]
  | 8, _ => exact nsub hn [true, true, false, true, true, false, false, true, true, false]
  | 9, _ => exact nsub hn [true, true, false, true, true, true, false, false, false]
  | 10, _ => exact nsub hn [true, true, false, true, true, true, true, false, true, true]
  | 11, _ => exact nsub hn [true, true, true, false, false, false, false, false, true, true]
  | 12, _ => exact nsub hn [true, true, true, false, false, true, false, false, false]
  | 13, _ => exact nsub hn [true, true, true, false, false, true, true, true, true, true]
  | 14, _ => exact nsub hn [true, true, true, false, true, false, true, false, true, true]
  | 15, _ => exact nsub hn [true, true, true, false, true, true, true, false, false]
  | 16, _ => exact nsub hn [true, true, true, true, false, false, false, true, false]
  | 17, _ => exact nsub hn [true, true, true, true, false, false, true, true, false]
  | 18, _ => exact nsub hn [true, true, true, true, false, true, true, false, false]
  | 19, _ => exact nsub hn [true, true, true, true, true, false, false, false, false]
  | 20, _ => exact nsub hn [true, true, true, true, true, false, true, false, true, false]
  | 21, _ => exact nsub hn [true, true, true, true, true, true, false, false, true, false]
  | 22, _ => exact nsub hn [true, true, true, true, true, true, true, false, true, true]
  | 23, _ => exact nsub hn [true, false, true, true, true, true, false, true, true, true]
  | i + 24, h => omega
theorem e_t0 (hn : narrow_1.before #[Value.ref b] s = true) : ∀ i, i < 5 → (Cond.eq (.elem (fVal (tmS 0)) (.int (Int32.ofNat i))) (.int ((bytS.getD 0 []).getD i 0))).before #[Value.ref b] s = true := fun i hi => by
  match i, hi with
  | 0, _ => exact nsub hn [true, true, false, false, false, false, true, true, true, false]
  | 1, _ => exact nsub hn [true, true, false, false, false, false, true, true, true, true]
  | 2, _ => exact nsub hn [true, true, false, false, false, true, false, false, false]
  | 3, _ => exact nsub hn [true, true, false, false, false, true, false, false, true, false]
  | 4, _ => exact nsub hn [true, true, false, false, false, true, false, false, true, true]
  | i + 5, h => omega
theorem e_t1 (hn : narrow_1.before #[Value.ref b] s = true) : ∀ i, i < 4 → (Cond.eq (.elem (fVal (tmS 1)) (.int (Int32.ofNat i))) (.int ((bytS.getD 1 []).getD i 0))).before #[Value.ref b] s = true := fun i hi => by
  match i, hi with
  | 0, _ => exact nsub hn [true, true, false, false, false, true, true, false, true, false]
  | 1, _ => exact nsub hn [true, true, false, false, false, true, true, false, true, true]
  | 2, _ => exact nsub hn [true, true, false, false, false, true, true, true, false, false]
  | 3, _ => exact nsub hn [true, true, false, false, false, true, true, true, false, true]
  | i + 4, h => omega
theorem e_t2 (hn : narrow_1.before #[Value.ref b] s = true) : ∀ i, i < 4 → (Cond.eq (.elem (fVal (tmS 2)) (.int (Int32.ofNat i))) (.int ((bytS.getD 2 []).getD i 0))).before #[Value.ref b] s = true := fun i hi => by
  match i, hi with
  | 0, _ => exact nsub hn [true, true, false, false, true, false, false, false, true, true]
  | 1, _ => exact nsub hn [true, true, false, false, true, false, false, true, false]
  | 2, _ => exact nsub hn [true, true, false, false, true, false, false, true, true, false]
  | 3, _ => exact nsub hn [true, true, false, false, true, false, false, true, true, true]
  | i + 4, h => omega
theorem e_t3 (hn : narrow_1.before #[Value.ref b] s = true) : ∀ i, i < 8 → (Cond.eq (.elem (fVal (tmS 3)) (.int (Int32.ofNat i))) (.int ((bytS.getD 3 []).getD i 0))).before #[Value.ref b] s = true := fun i hi => by
  match i, hi with
  | 0, _ => exact nsub hn [true, true, false, false, true, false, true, true, true, false]
  | 1, _ => exact nsub hn [true, true, false, false, true, false, true, true, true, true]
  | 2, _ => exact nsub hn [true, true, false, false, true, true, false, false, false]
  | 3, _ => exact nsub hn [true, true, false, false, true, true, false, false, true, false]
  | 4, _ => exact nsub hn [true, true, false, false, true, true, false, false, true, true]
  | 5, _ => exact nsub hn [true, true, false, false, true, true, false, true, false]
  | 6, _ => exact nsub hn [true, true, false, false, true, true, false, true, true, false]
  | 7, _ => exact nsub hn [true, true, false, false, true, true, false, true, true, true]
  | i + 8, h => omega
theorem e_t4 (hn : narrow_1.before #[Value.ref b] s = true) : ∀ i, i < 6 → (Cond.eq (.elem (fVal (tmS 4)) (.int (Int32.ofNat i))) (.int ((bytS.getD 4 []).getD i 0))).before #[Value.ref b] s = true := fun i hi => by
  match i, hi with
  | 0, _ => exact nsub hn [true, true, false, false, true, true, true, true, false, true]
  | 1, _ => exact nsub hn [true, true, false, false, true, true, true, true, true, false]
  | 2, _ => exact nsub hn [true, true, false, false, true, true, true, true, true, true]
  | 3, _ => exact nsub hn [true, true, false, true, false, false, false, false, false]
  | 4, _ => exact nsub hn [true, true, false, true, false, false, false, false, true, false]
  | 5, _ => exact nsub hn [true, true, false, true, false, false, false, false, true, true]
  | i + 6, h => omega
theorem e_t5 (hn : narrow_1.before #[Value.ref b] s = true) : ∀ i, i < 5 → (Cond.eq (.elem (fVal (tmS 5)) (.int (Int32.ofNat i))) (.int ((bytS.getD 5 []).getD i 0))).before #[Value.ref b] s = true := fun i hi => by
  match i, hi with
  | 0, _ => exact nsub hn [true, true, false, true, false, false, true, false, true, false]
  | 1, _ => exact nsub hn [true, true, false, true, false, false, true, false, true, true]
  | 2, _ => exact nsub hn [true, true, false, true, false, false, true, true, false]
  | 3, _ => exact nsub hn [true, true, false, true, false, false, true, true, true, false]
  | 4, _ => exact nsub hn [true, true, false, true, false, false, true, true, true, true]
  | i + 5, h => omega
theorem e_t6 (hn : narrow_1.before #[Value.ref b] s = true) : ∀ i, i < 2 → (Cond.eq (.elem (fVal (tmS 6)) (.int (Int32.ofNat i))) (.int ((bytS.getD 6 []).getD i 0))).before #[Value.ref b] s = true := fun i hi => by
  match i, hi with
  | 0, _ => exact nsub hn [true, true, false, true, false, true, false, true, true, false]
  | 1, _ => exact nsub hn [true, true, false, true, false, true, false, true, true, true]
  | i + 2, h => omega
theorem e_t7 (hn : narrow_1.before #[Value.ref b] s = true) : ∀ i, i < 4 → (Cond.eq (.elem (fVal (tmS 7)) (.int (Int32.ofNat i))) (.int ((bytS.getD 7 []).getD i 0))).before #[Value.ref b] s = true := fun i hi => by
  match i, hi with
  | 0, _ => exact nsub hn [true, true, false, true, false, true, true, true, false, true]
  | 1, _ => exact nsub hn [true, true, false, true, false, true, true, true, true, false]
  | 2, _ => exact nsub hn [true, true, false, true, false, true, true, true, true, true]
  | 3, _ => exact nsub hn [true, true, false, true, true, false, false, false, false]
  | i + 4, h => omega
theorem e_t8 (hn : narrow_1.before #[Value.ref b] s = true) : ∀ i, i < 4 → (Cond.eq (.elem (fVal (tmS 8)) (.int (Int32.ofNat i))) (.int ((bytS.getD 8 []).getD i 0))).before #[Value.ref b] s = true := fun i hi => by
  match i, hi with
  | 0, _ => exact nsub hn [true, true, false, true, true, false, false, true, true, true]
  | 1, _ => exact nsub hn [true, true, false, true, true, false, true, false, false]
  | 2, _ => exact nsub hn [true, true, false, true, true, false, true, false, true, false]
  | 3, _ => exact nsub hn [true, true, false, true, true, false, true, false, true, true]
  | i + 4, h => omega
theorem e_t9 (hn : narrow_1.before #[Value.ref b] s = true) : ∀ i, i < 4 → (Cond.eq (.elem (fVal (tmS 9)) (.int (Int32.ofNat i))) (.int ((bytS.getD 9 []).getD i 0))).before #[Value.ref b] s = true := fun i hi => by
  match i, hi with
  | 0, _ => exact nsub hn [true, true, false, true, true, true, false, false, true, false]
  | 1, _ => exact nsub hn [true, true, false, true, true, true, false, false, true, true]
  | 2, _ => exact nsub hn [true, true, false, true, true, true, false, true, false]
  | 3, _ => exact nsub hn [true, true, false, true, true, true, false, true, true, false]
  | i + 4, h => omega
theorem e_t10 (hn : narrow_1.before #[Value.ref b] s = true) : ∀ i, i < 3 → (Cond.eq (.elem (fVal (tmS 10)) (.int (Int32.ofNat i))) (.int ((bytS.getD 10 []).getD i 0))).before #[Value.ref b] s = true := fun i hi => by
  match i, hi with
  | 0, _ => exact nsub hn [true, true, false, true, true, true, true, true, false, false]
  | 1, _ => exact nsub hn [true, true, false, true, true, true, true, true, false, true]
  | 2, _ => exact nsub hn [true, true, false, true, true, true, true, true, true, false]
  | i + 3, h => omega
theorem e_t11 (hn : narrow_1.before #[Value.ref b] s = true) : ∀ i, i < 6 → (Cond.eq (.elem (fVal (tmS 11)) (.int (Int32.ofNat i))) (.int ((bytS.getD 11 []).getD i 0))).before #[Value.ref b] s = true := fun i hi => by
  match i, hi with
  | 0, _ => exact nsub hn [true, true, true, false, false, false, false, true, false]
  | 1, _ => exact nsub hn [true, true, true, false, false, false, false, true, true, false]
  | 2, _ => exact nsub hn [true, true, true, false, false, false, false, true, true, true]
  | 3, _ => exact nsub hn [true, true, true, false, false, false, true, false, false]
  | 4, _ => exact nsub hn [true, true, true, false, false, false, true, false, true, false]
  | 5, _ => exact nsub hn [true, true, true, false, false, false, true, false, true, true]
  | i + 6, h => omega
theorem e_t12 (hn : narrow_1.before #[Value.ref b] s = true) : ∀ i, i < 8 → (Cond.eq (.elem (fVal (tmS 12)) (.int (Int32.ofNat i))) (.int ((bytS.getD 12 []).getD i 0))).before #[Value.ref b] s = true := fun i hi => by
  match i, hi with
  | 0, _ => exact nsub hn [true, true, true, false, false, true, false, false, true, false]
  | 1, _ => exact nsub hn [true, true, true, false, false, true, false, false, true, true]
  | 2, _ => exact nsub hn [true, true, true, false, false, true, false, true, false]
  | 3, _ => exact nsub hn [true, true, true, false, false, true, false, true, true, false]
  | 4, _ => exact nsub hn [true, true, true, false, false, true, false, true, true, true]
  | 5, _ => exact nsub hn [true, true, true, false, false, true, true, false, false]
  | 6, _ => exact nsub hn [true, true, true, false, false, true, true, false, true, false]
  | 7, _ => exact nsub hn [true, true, true, false, false, true, true, false, true, true]
  | i + 8, h => omega
theorem e_t13 (hn : narrow_1.before #[Value.ref b] s = true) : ∀ i, i < 5 → (Cond.eq (.elem (fVal (tmS 13)) (.int (Int32.ofNat i))) (.int ((bytS.getD 13 []).getD i 0))).before #[Value.ref b] s = true := fun i hi => by
  match i, hi with
  | 0, _ => exact nsub hn [true, true, true, false, true, false, false, false, false]
  | 1, _ => exact nsub hn [true, true, true, false, true, false, false, false, true, false]
  | 2, _ => exact nsub hn [true, true, true, false, true, false, false, false, true, true]
  | 3, _ => exact nsub hn [true, true, true, false, true, false, false, true, false]
  | 4, _ => exact nsub hn [true, true, true, false, true, false, false, true, true, false]
  | i + 5, h => omega
theorem e_t14 (hn : narrow_1.before #[Value.ref b] s = true) : ∀ i, i < 6 → (Cond.eq (.elem (fVal (tmS 14)) (.int (Int32.ofNat i))) (.int ((bytS.getD 14 []).getD i 0))).before #[Value.ref b] s = true := fun i hi => by
  match i, hi with
  | 0, _ => exact nsub hn [true, true, true, false, true, false, true, true, false]
  | 1, _ => exact nsub hn [true, true, true, false, true, false, true, true, true, false]
  | 2, _ => exact nsub hn [true, true, true, false, true, false, true, true, true, true]
  | 3, _ => exact nsub hn [true, true, true, false, true, true, false, false, false]
  | 4, _ => exact nsub hn [true, true, true, false, true, true, false, false, true, false]
  | 5, _ => exact nsub hn [true, true, true, false, true, true, false, false, true, true]
  | i + 6, h => omega
theorem e_t15 (hn : narrow_1.before #[Value.ref b] s = true) : ∀ i, i < 6 → (Cond.eq (.elem (fVal (tmS 15)) (.int (Int32.ofNat i))) (.int ((bytS.getD 15 []).getD i 0))).before #[Value.ref b] s = true := fun i hi => by
  match i, hi with
  | 0, _ => exact nsub hn [true, true, true, false, true, true, true, false, true, false]
  | 1, _ => exact nsub hn [true, true, true, false, true, true, true, false, true, true]
  | 2, _ => exact nsub hn [true, true, true, false, true, true, true, true, false, false]
  | 3, _ => exact nsub hn [true, true, true, false, true, true, true, true, false, true]
  | 4, _ => exact nsub hn [true, true, true, false, true, true, true, true, true, false]
  | 5, _ => exact nsub hn [true, true, true, false, true, true, true, true, true, true]
  | i + 6, h => omega
theorem e_t16 (hn : narrow_1.before #[Value.ref b] s = true) : ∀ i, i < 2 → (Cond.eq (.elem (fVal (tmS 16)) (.int (Int32.ofNat i))) (.int ((bytS.getD 16 []).getD i 0))).before #[Value.ref b] s = true := fun i hi => by
  match i, hi with
  | 0, _ => exact nsub hn [true, true, true, true, false, false, false, true, true, false]
  | 1, _ => exact nsub hn [true, true, true, true, false, false, false, true, true, true]
  | i + 2, h => omega
theorem e_t17 (hn : narrow_1.before #[Value.ref b] s = true) : ∀ i, i < 5 → (Cond.eq (.elem (fVal (tmS 17)) (.int (Int32.ofNat i))) (.int ((bytS.getD 17 []).getD i 0))).before #[Value.ref b] s = true := fun i hi => by
  match i, hi with
  | 0, _ => exact nsub hn [true, true, true, true, false, false, true, true, true, false]
  | 1, _ => exact nsub hn [true, true, true, true, false, false, true, true, true, true]
  | 2, _ => exact nsub hn [true, true, true, true, false, true, false, false, false]
  | 3, _ => exact nsub hn [true, true, true, true, false, true, false, false, true, false]
  | 4, _ => exact nsub hn [true, true, true, true, false, true, false, false, true, true]
  | i + 5, h => omega
theorem e_t18 (hn : narrow_1.before #[Value.ref b] s = true) : ∀ i, i < 3 → (Cond.eq (.elem (fVal (tmS 18)) (.int (Int32.ofNat i))) (.int ((bytS.getD 18 []).getD i 0))).before #[Value.ref b] s = true := fun i hi => by
  match i, hi with
  | 0, _ => exact nsub hn [true, true, true, true, false, true, true, false, true, false]
  | 1, _ => exact nsub hn [true, true, true, true, false, true, true, false, true, true]
  | 2, _ => exact nsub hn [true, true, true, true, false, true, true, true, false, false]
  | i + 3, h => omega
theorem e_t19 (hn : narrow_1.before #[Value.ref b] s = true) : ∀ i, i < 3 → (Cond.eq (.elem (fVal (tmS 19)) (.int (Int32.ofNat i))) (.int ((bytS.getD 19 []).getD i 0))).before #[Value.ref b] s = true := fun i hi => by
  match i, hi with
  | 0, _ => exact nsub hn [true, true, true, true, true, false, false, false, true, false]
  | 1, _ => exact nsub hn [true, true, true, true, true, false, false, false, true, true]
  | 2, _ => exact nsub hn [true, true, true, true, true, false, false, true, false]
  | i + 3, h => omega
theorem e_t20 (hn : narrow_1.before #[Value.ref b] s = true) : ∀ i, i < 2 → (Cond.eq (.elem (fVal (tmS 20)) (.int (Int32.ofNat i))) (.int ((bytS.getD 20 []).getD i 0))).before #[Value.ref b] s = true := fun i hi => by
  match i, hi with
  | 0, _ => exact nsub hn [true, true, true, true, true, false, true, false, true, true]
  | 1, _ => exact nsub hn [true, true, true, true, true, false, true, true, false]
  | i + 2, h => omega
theorem e_t21 (hn : narrow_1.before #[Value.ref b] s = true) : ∀ i, i < 3 → (Cond.eq (.elem (fVal (tmS 21)) (.int (Int32.ofNat i))) (.int ((bytS.getD 21 []).getD i 0))).before #[Value.ref b] s = true := fun i hi => by
  match i, hi with
  | 0, _ => exact nsub hn [true, true, true, true, true, true, false, false, true, true]
  | 1, _ => exact nsub hn [true, true, true, true, true, true, false, true, false]
  | 2, _ => exact nsub hn [true, true, true, true, true, true, false, true, true, false]
  | i + 3, h => omega
theorem e_t22 (hn : narrow_1.before #[Value.ref b] s = true) : ∀ i, i < 3 → (Cond.eq (.elem (fVal (tmS 22)) (.int (Int32.ofNat i))) (.int ((bytS.getD 22 []).getD i 0))).before #[Value.ref b] s = true := fun i hi => by
  match i, hi with
  | 0, _ => exact nsub hn [true, true, true, true, true, true, true, true, false, false]
  | 1, _ => exact nsub hn [true, true, true, true, true, true, true, true, false, true]
  | 2, _ => exact nsub hn [true, true, true, true, true, true, true, true, true, false]
  | i + 3, h => omega
theorem e_t23 (hn : narrow_1.before #[Value.ref b] s = true) : ∀ i, i < 13 → (Cond.eq (.elem (fVal (tmS 23)) (.int (Int32.ofNat i))) (.int ((bytS.getD 23 []).getD i 0))).before #[Value.ref b] s = true := fun i hi => by
  match i, hi with
  | 0, _ => exact nsub hn [true, false, true, true, true, true, true, false, false]
  | 1, _ => exact nsub hn [true, false, true, true, true, true, true, false, true, false]
  | 2, _ => exact nsub hn [true, false, true, true, true, true, true, false, true, true]
  | 3, _ => exact nsub hn [true, false, true, true, true, true, true, true, false, false]
  | 4, _ => exact nsub hn [true, false, true, true, true, true, true, true, false, true]
  | 5, _ => exact nsub hn [true, false, true, true, true, true, true, true, true, false]
  | 6, _ => exact nsub hn [true, false, true, true, true, true, true, true, true, true]
  | 7, _ => exact nsub hn [true, true, false, false, false, false, false, false, false]
  | 8, _ => exact nsub hn [true, true, false, false, false, false, false, false, true, false]
  | 9, _ => exact nsub hn [true, true, false, false, false, false, false, false, true, true]
  | 10, _ => exact nsub hn [true, true, false, false, false, false, false, true, false]
  | 11, _ => exact nsub hn [true, true, false, false, false, false, false, true, true, false]
  | 12, _ => exact nsub hn [true, true, false, false, false, false, false, true, true, true]
  | i + 13, h => omega
theorem e_sel (hn : narrow_1.before #[Value.ref b] s = true) : ∀ i, i < 24 → ∀ j, j < lenS.getD i 0 → (Cond.eq (.elem (fVal (tmS i)) (.int (Int32.ofNat j))) (.int ((bytS.getD i []).getD j 0))).before #[Value.ref b] s = true := fun i hi => by
  match i, hi with
  | 0, _ => exact e_t0 hn
  | 1, _ => exact e_t1 hn
  | 2, _ => exact e_t2 hn
  | 3, _ => exact e_t3 hn
  | 4, _ => exact e_t4 hn
  | 5, _ => exact e_t5 hn
  | 6, _ => exact e_t6 hn
  | 7, _ => exact e_t7 hn
  | 8, _ => exact e_t8 hn
  | 9, _ => exact e_t9 hn
  | 10, _ => exact e_t10 hn
  | 11, _ => exact e_t11 hn
  | 12, _ => exact e_t12 hn
  | 13, _ => exact e_t13 hn
  | 14, _ => exact e_t14 hn
  | 15, _ => exact e_t15 hn
  | 16, _ => exact e_t16 hn
  | 17, _ => exact e_t17 hn
  | 18, _ => exact e_t18 hn
  | 19, _ => exact e_t19 hn
  | 20, _ => exact e_t20 hn
  | 21, _ => exact e_t21 hn
  | 22, _ => exact e_t22 hn
  | 23, _ => exact e_t23 hn
  | i + 24, h => omega
theorem e_msg (hn : narrow_1.before #[Value.ref b] s = true) : ∀ q ∈ MSG, (Cond.exactly (.string q.1 q.2.1) "java/lang/String").before #[Value.ref b] s = true := List.forall_mem_cons.mpr ⟨nsub hn [false, true, true, true, false, true, true, true, true, false], List.forall_mem_cons.mpr ⟨nsub hn [false, true, true, true, true, true, true, true, true, false], List.forall_mem_cons.mpr ⟨nsub hn [true, false, false, false, false, true, false, true, false], List.forall_mem_cons.mpr ⟨nsub hn [true, false, false, false, true, false, true, false, true, false], List.forall_mem_cons.mpr ⟨nsub hn [true, false, false, true, false, true, false, false, false], List.forall_mem_cons.mpr ⟨nsub hn [true, false, false, true, true, true, true, true, true, false], List.forall_mem_cons.mpr ⟨nsub hn [true, false, true, false, true, true, false, true, true, false], List.forall_mem_cons.mpr ⟨nsub hn [true, false, true, true, false, true, true, false, true, false], fun _ h => absurd h List.not_mem_nil⟩⟩⟩⟩⟩⟩⟩⟩
end NARROW
set_option maxRecDepth 100000 in
theorem e_len : ∀ i, i < 24 → lenS.getD i 0 ≤ 13 := by decide +kernel
set_option maxRecDepth 100000 in
theorem e_dis : ∀ i, i < 24 → ∀ j, j < 24 → lenS.getD i 0 = lenS.getD j 0 → (∀ k, k < 13 → k < lenS.getD i 0 → (bytS.getD i []).getD k 0 = (bytS.getD j []).getD k 0) → i = j := by decide +kernel
set_option maxRecDepth 100000 in
theorem e_ord : ∀ i, i < 44 → ∀ j, j < 44 → kOr.getD i 0 = kOr.getD j 0 → i = j := by decide +kernel
section START
variable {s : State} {b : Nat} {A : Nat → Prop}
theorem st_kst (hts : ∀ w ∈ lw_tbl, w.before #[Value.ref b] s = true) : ∀ i, i < 44 → (Cond.laysStatic "HedgeNews$Kind" (kNm.getD i "") "LHedgeNews$Kind;").before #[Value.ref b] s = true := fun i hi => by
  match i, hi with
  | 0, _ => exact hts _ (w1_64)
  | 1, _ => exact hts _ (w2_155)
  | 2, _ => exact hts _ (w2_162)
  | 3, _ => exact hts _ (w2_168)
  | 4, _ => exact hts _ (w3_20)
  | 5, _ => exact hts _ (w3_68)
  | 6, _ => exact hts _ (w3_121)
  | 7, _ => exact hts _ (w2_233)
  | 8, _ => exact hts _ (w3_123)
  | 9, _ => exact hts _ (w2_236)
  | 10, _ => exact hts _ (w3_96)
  | 11, _ => exact hts _ (w3_98)
  | 12, _ => exact hts _ (w3_37)
  | 13, _ => exact hts _ (w3_2)
  | 14, _ => exact hts _ (w3_4)
  | 15, _ => exact hts _ (w3_39)
  | 16, _ => exact hts _ (w9_20)
  | 17, _ => exact hts _ (w9_21)
  | 18, _ => exact hts _ (w9_22)
  | 19, _ => exact hts _ (w9_23)
  | 20, _ => exact hts _ (w9_24)
  | 21, _ => exact hts _ (w3_145)
  | 22, _ => exact hts _ (w3_18)
  | 23, _ => exact hts _ (w3_53)
  | 24, _ => exact hts _ (w3_49)
  | 25, _ => exact hts _ (w3_64)
  | 26, _ => exact hts _ (w3_66)
  | 27, _ => exact hts _ (w9_25)
  | 28, _ => exact hts _ (w9_26)
  | 29, _ => exact hts _ (w2_174)
  | 30, _ => exact hts _ (w2_176)
  | 31, _ => exact hts _ (w2_178)
  | 32, _ => exact hts _ (w2_180)
  | 33, _ => exact hts _ (w2_182)
  | 34, _ => exact hts _ (w2_184)
  | 35, _ => exact hts _ (w2_186)
  | 36, _ => exact hts _ (w2_188)
  | 37, _ => exact hts _ (w2_190)
  | 38, _ => exact hts _ (w2_192)
  | 39, _ => exact hts _ (w2_202)
  | 40, _ => exact hts _ (w2_206)
  | 41, _ => exact hts _ (w2_194)
  | 42, _ => exact hts _ (w2_200)
  | 43, _ => exact hts _ (w2_204)
  | i + 44, h => omega
theorem st_nwf (hts : ∀ w ∈ lw_tbl, w.before #[Value.ref b] s = true) : ∀ q ∈ NWF, va_Nw (.fieldLinkNest q.1 q.2.1 q.2.2.1 q.2.2.2.1 q.2.2.2.2.1 q.2.2.2.2.2) s := List.forall_mem_cons.mpr ⟨va_tabs rfl rfl (hts _ w1_66), List.forall_mem_cons.mpr ⟨va_tabs rfl rfl (hts _ w2_29), List.forall_mem_cons.mpr ⟨va_tabs rfl rfl (hts _ w2_31), List.forall_mem_cons.mpr ⟨va_tabs rfl rfl (hts _ w2_33), List.forall_mem_cons.mpr ⟨va_tabs rfl rfl (hts _ w2_34), List.forall_mem_cons.mpr ⟨va_tabs rfl rfl (hts _ w2_36), List.forall_mem_cons.mpr ⟨va_tabs rfl rfl (hts _ w2_37), List.forall_mem_cons.mpr ⟨va_tabs rfl rfl (hts _ w2_39), List.forall_mem_cons.mpr ⟨va_tabs rfl rfl (hts _ w2_41), List.forall_mem_cons.mpr ⟨va_tabs rfl rfl (hts _ w2_43), List.forall_mem_cons.mpr ⟨va_tabs rfl rfl (hts _ w2_44), List.forall_mem_cons.mpr ⟨va_tabs rfl rfl (hts _ w5_231), List.forall_mem_cons.mpr ⟨va_tabs rfl rfl (hts _ w5_232), List.forall_mem_cons.mpr ⟨va_tabs rfl rfl (hts _ w5_233), List.forall_mem_cons.mpr ⟨va_tabs rfl rfl (hts _ w5_234), List.forall_mem_cons.mpr ⟨va_tabs rfl rfl (hts _ w5_236), List.forall_mem_cons.mpr ⟨va_tabs rfl rfl (hts _ w5_237), List.forall_mem_cons.mpr ⟨va_tabs rfl rfl (hts _ w5_239), List.forall_mem_cons.mpr ⟨va_tabs rfl rfl (hts _ w6_0), List.forall_mem_cons.mpr ⟨va_tabs rfl rfl (hts _ w6_1), List.forall_mem_cons.mpr ⟨va_tabs rfl rfl (hts _ w6_2), List.forall_mem_cons.mpr ⟨va_tabs rfl rfl (hts _ w6_3), List.forall_mem_cons.mpr ⟨va_tabs rfl rfl (hts _ w6_5), List.forall_mem_cons.mpr ⟨va_tabs rfl rfl (hts _ w6_6), List.forall_mem_cons.mpr ⟨va_tabs rfl rfl (hts _ w6_8), List.forall_mem_cons.mpr ⟨va_tabs rfl rfl (hts _ w6_9), List.forall_mem_cons.mpr ⟨va_tabs rfl rfl (hts _ w6_11), List.forall_mem_cons.mpr ⟨va_tabs rfl rfl (hts _ w6_12), List.forall_mem_cons.mpr ⟨va_tabs rfl rfl (hts _ w6_14), List.forall_mem_cons.mpr ⟨va_tabs rfl rfl (hts _ w6_15), List.forall_mem_cons.mpr ⟨va_tabs rfl rfl (hts _ w6_17), List.forall_mem_cons.mpr ⟨va_tabs rfl rfl (hts _ w6_18), List.forall_mem_cons.mpr ⟨va_tabs rfl rfl (hts _ w6_20), List.forall_mem_cons.mpr ⟨va_tabs rfl rfl (hts _ w6_21), List.forall_mem_cons.mpr ⟨va_tabs rfl rfl (hts _ w6_23), List.forall_mem_cons.mpr ⟨va_tabs rfl rfl (hts _ w6_24), List.forall_mem_cons.mpr ⟨va_tabs rfl rfl (hts _ w6_25), List.forall_mem_cons.mpr ⟨va_tabs rfl rfl (hts _ w6_27), List.forall_mem_cons.mpr ⟨va_tabs rfl rfl (hts _ w6_28), List.forall_mem_cons.mpr ⟨va_tabs rfl rfl (hts _ w6_69), List.forall_mem_cons.mpr ⟨va_tabs rfl rfl (hts _ w6_71), List.forall_mem_cons.mpr ⟨va_tabs rfl rfl (hts _ w6_73), List.forall_mem_cons.mpr ⟨va_tabs rfl rfl (hts _ w6_75), List.forall_mem_cons.mpr ⟨va_tabs rfl rfl (hts _ w6_78), List.forall_mem_cons.mpr ⟨va_tabs rfl rfl (hts _ w6_80), List.forall_mem_cons.mpr ⟨va_tabs rfl rfl (hts _ w6_82), List.forall_mem_cons.mpr ⟨va_tabs rfl rfl (hts _ w6_84), List.forall_mem_cons.mpr ⟨va_tabs rfl rfl (hts _ w6_86), List.forall_mem_cons.mpr ⟨va_tabs rfl rfl (hts _ w6_126), List.forall_mem_cons.mpr ⟨va_tabs rfl rfl (hts _ w6_129), List.forall_mem_cons.mpr ⟨va_tabs rfl rfl (hts _ w6_131), List.forall_mem_cons.mpr ⟨va_tabs rfl rfl (hts _ w6_133), List.forall_mem_cons.mpr ⟨va_tabs rfl rfl (hts _ w6_135), List.forall_mem_cons.mpr ⟨va_tabs rfl rfl (hts _ w6_137), List.forall_mem_cons.mpr ⟨va_tabs rfl rfl (hts _ w6_138), List.forall_mem_cons.mpr ⟨va_tabs rfl rfl (hts _ w6_139), List.forall_mem_cons.mpr ⟨va_tabs rfl rfl (hts _ w6_140), fun _ h => absurd h List.not_mem_nil⟩⟩⟩⟩⟩⟩⟩⟩⟩⟩⟩⟩⟩⟩⟩⟩⟩⟩⟩⟩⟩⟩⟩⟩⟩⟩⟩⟩⟩⟩⟩⟩⟩⟩⟩⟩⟩⟩⟩⟩⟩⟩⟩⟩⟩⟩⟩⟩⟩⟩⟩⟩⟩⟩⟩⟩⟩
theorem st_nwm (hts : ∀ w ∈ lw_tbl, w.before #[Value.ref b] s = true) : ∀ q ∈ NWM, va_Nw (.methodLinkNest q.1 q.2.1 q.2.2.1 q.2.2.2) s := List.forall_mem_cons.mpr ⟨va_tabs rfl rfl (hts _ w1_41), List.forall_mem_cons.mpr ⟨va_tabs rfl rfl (hts _ w1_95), List.forall_mem_cons.mpr ⟨va_tabs rfl rfl (hts _ w1_112), List.forall_mem_cons.mpr ⟨va_tabs rfl rfl (hts _ w1_163), List.forall_mem_cons.mpr ⟨va_tabs rfl rfl (hts _ w1_194), List.forall_mem_cons.mpr ⟨va_tabs rfl rfl (hts _ w5_227), List.forall_mem_cons.mpr ⟨va_tabs rfl rfl (hts _ w6_64), List.forall_mem_cons.mpr ⟨va_tabs rfl rfl (hts _ w8_186), fun _ h => absurd h List.not_mem_nil⟩⟩⟩⟩⟩⟩⟩⟩
theorem st_nwd (hts : ∀ w ∈ lw_tbl, w.before #[Value.ref b] s = true) : ∀ q ∈ NWD, va_Nw (.declares q) s := List.forall_mem_cons.mpr ⟨va_tabs rfl rfl (hts _ w2_223), List.forall_mem_cons.mpr ⟨va_tabs rfl rfl (hts _ w4_6), List.forall_mem_cons.mpr ⟨va_tabs rfl rfl (hts _ w4_7), List.forall_mem_cons.mpr ⟨va_tabs rfl rfl (hts _ w4_8), List.forall_mem_cons.mpr ⟨va_tabs rfl rfl (hts _ w4_9), List.forall_mem_cons.mpr ⟨va_tabs rfl rfl (hts _ w4_10), List.forall_mem_cons.mpr ⟨va_tabs rfl rfl (hts _ w4_11), fun _ h => absurd h List.not_mem_nil⟩⟩⟩⟩⟩⟩⟩
theorem st_nwc (hts : ∀ w ∈ lw_tbl, w.before #[Value.ref b] s = true) : ∀ q ∈ NWC, va_Nw (.castable q.1 q.2) s := List.forall_mem_cons.mpr ⟨va_tabs rfl rfl (hts _ w4_5), List.forall_mem_cons.mpr ⟨va_tabs rfl rfl (hts _ w4_139), List.forall_mem_cons.mpr ⟨va_tabs rfl rfl (hts _ w4_206), fun _ h => absurd h List.not_mem_nil⟩⟩⟩
theorem st_nwa (hts : ∀ w ∈ lw_tbl, w.before #[Value.ref b] s = true) : ∀ C ∈ NWA, va_AO C s := List.forall_mem_cons.mpr ⟨va_AO.of (A := #[Value.ref b]) (hts _ (w1_159)), List.forall_mem_cons.mpr ⟨va_AO.of (A := #[Value.ref b]) (hts _ (w1_161)), List.forall_mem_cons.mpr ⟨va_AO.of (A := #[Value.ref b]) (hts _ (w1_62)), fun _ h => absurd h List.not_mem_nil⟩⟩⟩
theorem st_msg (hts : ∀ w ∈ lw_tbl, w.before #[Value.ref b] s = true) : ∀ q ∈ MSG, (Cond.stringRef q.1 q.2.1 q.2.2).before #[Value.ref b] s = true := List.forall_mem_cons.mpr ⟨hts _ (w4_44), List.forall_mem_cons.mpr ⟨hts _ (w4_146), List.forall_mem_cons.mpr ⟨hts _ (w4_175), List.forall_mem_cons.mpr ⟨hts _ (w4_213), List.forall_mem_cons.mpr ⟨hts _ (w4_232), List.forall_mem_cons.mpr ⟨hts _ (w5_59), List.forall_mem_cons.mpr ⟨hts _ (w5_79), List.forall_mem_cons.mpr ⟨hts _ (w5_104), fun _ h => absurd h List.not_mem_nil⟩⟩⟩⟩⟩⟩⟩⟩
theorem st_kn0 (hts : ∀ w ∈ lw_tbl, w.before #[Value.ref b] s = true) : ∀ k : Nat, k < 14 → ∃ p : ClassId × (Nat → Nat), ∀ q : vw_C, vwCl[k]? = some q → u_Kn s q.1 q.2.1 q.2.2 p.1 p.2 := fun k hk => by
  match k, hk with
  | 0, _ =>
    obtain ⟨c, i, h⟩ := u_known (C := RX1) (T := TX1) (N := 9) (n := 9) hts (fun w hw => tb_of (inX1 w hw)) (hts _ (tb_of w1_153))
    exact ⟨(c, i), fun q e => by cases e; exact h⟩
  | 1, _ =>
    obtain ⟨c, i, h⟩ := u_known (C := RX2) (T := TX2) (N := 3) (n := 3) hts (fun w hw => tb_of (inX2 w hw)) (hts _ (tb_of w1_137))
    exact ⟨(c, i), fun q e => by cases e; exact h⟩
  | 2, _ =>
    obtain ⟨c, i, h⟩ := u_known (C := RX3) (T := TX3) (N := 5) (n := 5) hts (fun w hw => tb_of (inX3 w hw)) (hts _ (tb_of w1_162))
    exact ⟨(c, i), fun q e => by cases e; exact h⟩
  | 3, _ =>
    obtain ⟨c, i, h⟩ := u_known (C := RX5) (T := TX5) (N := 3) (n := 3) hts (fun w hw => tb_of (inX5 w hw)) (hts _ (tb_of w1_94))
    exact ⟨(c, i), fun q e => by cases e; exact h⟩
  | 4, _ =>
    obtain ⟨c, i, h⟩ := u_known (C := RX6) (T := TX6) (N := 6) (n := 6) hts (fun w hw => tb_of (inX6 w hw)) (hts _ (tb_of w1_111))
    exact ⟨(c, i), fun q e => by cases e; exact h⟩
  | 5, _ =>
    obtain ⟨c, i, h⟩ := u_known (C := RX7) (T := TX7) (N := 4) (n := 4) hts (fun w hw => tb_of (inX7 w hw)) (hts _ (tb_of w2_64))
    exact ⟨(c, i), fun q e => by cases e; exact h⟩
  | 6, _ =>
    obtain ⟨c, i, h⟩ := u_known (C := RX8) (T := TX8) (N := 8) (n := 8) hts (fun w hw => tb_of (inX8 w hw)) (hts _ (tb_of w2_21))
    exact ⟨(c, i), fun q e => by cases e; exact h⟩
  | 7, _ =>
    obtain ⟨c, i, h⟩ := u_known (C := RX9) (T := TX9) (N := 4) (n := 4) hts (fun w hw => tb_of (inX9 w hw)) (hts _ (tb_of w1_193))
    exact ⟨(c, i), fun q e => by cases e; exact h⟩
  | 8, _ =>
    obtain ⟨c, i, h⟩ := u_known (C := RX10) (T := TX10) (N := 2) (n := 2) hts (fun w hw => tb_of (inX10 w hw)) (hts _ (tb_of w1_40))
    exact ⟨(c, i), fun q e => by cases e; exact h⟩
  | 9, _ =>
    obtain ⟨c, i, h⟩ := u_known (C := RX11) (T := TX11) (N := 8) (n := 8) hts (fun w hw => tb_of (inX11 w hw)) (hts _ (tb_of w1_56))
    exact ⟨(c, i), fun q e => by cases e; exact h⟩
  | 10, _ =>
    obtain ⟨c, i, h⟩ := u_known (C := RX12) (T := TX12) (N := 11) (n := 11) hts (fun w hw => tb_of (inX12 w hw)) (hts _ (tb_of w1_32))
    exact ⟨(c, i), fun q e => by cases e; exact h⟩
  | 11, _ =>
    obtain ⟨c, i, h⟩ := u_known (C := RX13) (T := TX13) (N := 16) (n := 16) hts (fun w hw => tb_of (inX13 w hw)) (hts _ (tb_of w5_226))
    exact ⟨(c, i), fun q e => by cases e; exact h⟩
  | 12, _ =>
    obtain ⟨c, i, h⟩ := u_known (C := RX14) (T := TX14) (N := 12) (n := 12) hts (fun w hw => tb_of (inX14 w hw)) (hts _ (tb_of w6_63))
    exact ⟨(c, i), fun q e => by cases e; exact h⟩
  | 13, _ =>
    obtain ⟨c, i, h⟩ := u_known (C := RX15) (T := TX15) (N := 23) (n := 23) hts (fun w hw => tb_of (inX15 w hw)) (hts _ (tb_of w5_220))
    exact ⟨(c, i), fun q e => by cases e; exact h⟩
  | k + 14, h => omega
theorem st_kn (hts : ∀ w ∈ lw_tbl, w.before #[Value.ref b] s = true) : ∃ D : va_G, ∀ (c : Nat) (q : vw_C), vwCl[c]? = some q → u_Kn s q.1 q.2.1 q.2.2 (D.1 c) (D.2 c) := by
  have h0 : ∀ k : Nat, ∃ p : ClassId × (Nat → Nat), ∀ q : vw_C, vwCl[k]? = some q → u_Kn s q.1 q.2.1 q.2.2 p.1 p.2 := by
    intro k
    by_cases hk : k < 14
    · exact st_kn0 hts k hk
    · exact ⟨(0, fun _ => 0), fun q e => by
        have := (List.getElem?_eq_some_iff.mp e).1
        have h14 : vwCl.length = 14 := rfl
        omega⟩
  obtain ⟨f, hf⟩ := Classical.axiomOfChoice h0
  exact ⟨(fun k => (f k).1, fun k => (f k).2), fun c q e => hf c q e⟩
def tyL : List FieldType := [.int, .long, .byte, .boolean, .object "HedgeNews$Hedge", .object "HedgeNews$Rose", .object "HedgeNews$Kind"]
theorem st_ty0 (hts : ∀ w ∈ lw_tbl, w.before #[Value.ref b] s = true) : ∀ k : Nat, k < 7 → ∃ c : ClassId, ∀ t : FieldType, tyL[k]? = some t → ArrOfT s c t ∧ va_RA s c t := fun k hk => by
  match k, hk with
  | 0, _ =>
    obtain ⟨c, kA, comp, h1, h2, h3⟩ := Cond.arrayClass_spec (hts _ (tb_of w_arrI))
    exact ⟨c, fun t e => by cases e; exact ⟨fun N z => ⟨(fun k h => by cases h), kA, h2, comp, h3⟩, h1⟩⟩
  | 1, _ =>
    obtain ⟨c, kA, comp, h1, h2, h3⟩ := Cond.arrayClass_spec (hts _ (tb_of w_arrJ))
    exact ⟨c, fun t e => by cases e; exact ⟨fun N z => ⟨(fun k h => by cases h), kA, h2, comp, h3⟩, h1⟩⟩
  | 2, _ =>
    obtain ⟨c, kA, comp, h1, h2, h3⟩ := Cond.arrayClass_spec (hts _ (tb_of w_arrB))
    exact ⟨c, fun t e => by cases e; exact ⟨fun N z => ⟨(fun k h => by cases h), kA, h2, comp, h3⟩, h1⟩⟩
  | 3, _ =>
    obtain ⟨c, kA, comp, h1, h2, h3⟩ := Cond.arrayClass_spec (hts _ (tb_of w_arrZ))
    exact ⟨c, fun t e => by cases e; exact ⟨fun N z => ⟨(fun k h => by cases h), kA, h2, comp, h3⟩, h1⟩⟩
  | 4, _ =>
    obtain ⟨comp, c, kA, h1, h2, h3, h4, h5⟩ := Cond.arrayOver_spec (hts _ w1_159)
    exact ⟨c, fun t e => by cases e; exact ⟨fun N z => ⟨(fun k h => by cases h), kA, h3, comp, h4⟩, kA, comp, h3, h4, h1, h5⟩⟩
  | 5, _ =>
    obtain ⟨comp, c, kA, h1, h2, h3, h4, h5⟩ := Cond.arrayOver_spec (hts _ w1_161)
    exact ⟨c, fun t e => by cases e; exact ⟨fun N z => ⟨(fun k h => by cases h), kA, h3, comp, h4⟩, kA, comp, h3, h4, h1, h5⟩⟩
  | 6, _ =>
    obtain ⟨comp, c, kA, h1, h2, h3, h4, h5⟩ := Cond.arrayOver_spec (hts _ w1_62)
    exact ⟨c, fun t e => by cases e; exact ⟨fun N z => ⟨(fun k h => by cases h), kA, h3, comp, h4⟩, kA, comp, h3, h4, h1, h5⟩⟩
  | k + 7, h => omega
theorem st_ty (hts : ∀ w ∈ lw_tbl, w.before #[Value.ref b] s = true) : ∃ f : Nat → ClassId, ∀ (k : Nat) (t : FieldType), tyL[k]? = some t → ArrOfT s (f k) t ∧ va_RA s (f k) t := by
  have h0 : ∀ k : Nat, ∃ c : ClassId, ∀ t : FieldType, tyL[k]? = some t → ArrOfT s c t ∧ va_RA s c t := by
    intro k
    by_cases hk : k < 7
    · exact st_ty0 hts k hk
    · exact ⟨0, fun t e => by
        have := (List.getElem?_eq_some_iff.mp e).1
        have h7 : tyL.length = 7 := rfl
        omega⟩
  exact Classical.axiomOfChoice h0
/-- the kinds -/
theorem st_enum (hts : ∀ w ∈ lw_tbl, w.before #[Value.ref b] s = true) (hn : narrow_1.before #[Value.ref b] s = true) (hA : ∀ a : Nat, a < s.heap.size → ¬ A a) : ∃ ad : Nat → Nat, (∀ i, i < 44 → (Term.static "HedgeNews$Kind" (kNm.getD i "") "LHedgeNews$Kind;").eval #[Value.ref b] s none [] s = some (.ref (ad i)) ∧ ad i < s.heap.size) ∧ va_Ec "HedgeNews$Kind" "HedgeNews$Kind" "LHedgeNews$Kind;" kNm [("java/lang/Enum", "ordinal", "I", kOr)] ad A s s.heap ∧ va_Ef 44 "HedgeNews$Kind" "key" "J" (fun i => .long (keyL.getD i 0)) ad A s s.heap := by
  have h0 : ∀ i : Nat, ∃ t : Nat, i < 44 → (Term.static "HedgeNews$Kind" (kNm.getD i "") "LHedgeNews$Kind;").eval #[Value.ref b] s none [] s = some (.ref t) ∧ va_Z "HedgeNews$Kind" (kNm.getD i "") "LHedgeNews$Kind;" (.ref t) A s s.heap ∧ va_O "HedgeNews$Kind" t A s s.heap ∧ va_OF "java/lang/Enum" "ordinal" "I" (.int (kOr.getD i 0)) t A s s.heap := by
    intro i
    by_cases hi : i < 44
    · obtain ⟨ad, ⟨h1, _⟩, h2⟩ := va_Enof2 (E := "HedgeNews$Kind") (d := "LHedgeNews$Kind;") (nm := [kNm.getD i ""]) (F := [("java/lang/Enum", "ordinal", "I", [kOr.getD i 0])]) (A := A) (args := #[Value.ref b]) (s := s) (fun j hj => by
        have : j = 0 := by simpa using hj
        subst this; exact st_kst hts i hi) (hts _ (tb_of w1_5)) (fun j hj => by
        have : j = 0 := by simpa using hj
        subst this; exact e_kex hn i hi) (fun q hq j hj => by
        have : j = 0 := by simpa using hj
        subst this
        rw [List.mem_singleton] at hq
        subst hq; exact e_kor hn i hi) (fun j k hj hk hjk => by
        have h1 : j = 0 := by simpa using hj
        have h2 : k = 0 := by simpa using hk
        exact (hjk (by omega)).elim) hA
      obtain ⟨g1, g2, g3⟩ := h1 0 (by simp)
      exact ⟨ad 0, fun _ => ⟨h2 0 (by simp), g1, g2, g3 _ (List.mem_singleton.mpr rfl)⟩⟩
    · exact ⟨0, fun h => absurd h hi⟩
  obtain ⟨ad, had⟩ := Classical.axiomOfChoice h0
  have hlt : ∀ i, i < 44 → ad i < s.heap.size := fun i hi => by
    obtain ⟨cell, g, _⟩ := (had i hi).2.2.1
    exact (Array.getElem?_eq_some_iff.mp g).1
  refine ⟨ad, fun i hi => ⟨(had i hi).1, hlt i hi⟩, ⟨fun i hi => ⟨(had i hi).2.1, (had i hi).2.2.1, fun q hq => ?_⟩, fun i j hi hj e => ?_⟩, ?_⟩
  · rw [List.mem_singleton] at hq
    subst hq; exact (had i hi).2.2.2
  · obtain ⟨cf, k, fi, f, cell, x1, x2, x3, x4, x5, x6⟩ := (had i hi).2.2.2
    obtain ⟨cf', k', fi', f', cell', y1, y2, y3, y4, y5, y6⟩ := (had j hj).2.2.2
    rw [x1] at y1
    cases y1
    rw [e, y3] at x3
    cases x3
    rw [x5] at y5
    have y5 := Option.some.inj y5
    have : kOr.getD i 0 = kOr.getD j 0 := by injection y5
    exact e_ord i hi j hj this
  · exact va_Efof (E := "HedgeNews$Kind") (d0 := "LHedgeNews$Kind;") (nm := kNm) (tm := fun i => .long (keyL.getD i 0)) (fun i hi => (had i hi).1) (fun i hi => e_kke hn i hi) (fun i hi => rfl) hA
/-- the texts -/
theorem st_text (hts : ∀ w ∈ lw_tbl, w.before #[Value.ref b] s = true) (hn : narrow_1.before #[Value.ref b] s = true) (hA : ∀ a : Nat, a < s.heap.size → ¬ A a) : ∃ ak av : Nat → Nat, vk_S 24 lenS bytS ak av A s s.heap ∧ ∀ i, i < 24 → (tmS i).eval #[Value.ref b] s none [] s = some (.ref (ak i)) := by
  have h0 : ∀ i : Nat, ∃ q : Nat × Nat, i < 24 → (tmS i).eval #[Value.ref b] s none [] s = some (.ref q.1) ∧ va_O "java/lang/String" q.1 A s s.heap ∧ va_OF "java/lang/String" "coder" "B" (.int 0) q.1 A s s.heap ∧ va_OF "java/lang/String" "value" "[B" (.ref q.2) q.1 A s s.heap ∧ va_T .byte q.2 (lenS.getD i 0) (fun j => .int ((bytS.getD i []).getD j 0)) A s s.heap := by
    intro i
    by_cases hi : i < 24
    · have gl := e_len i hi
      obtain ⟨ak, av, ⟨h1, _⟩, h2⟩ := vk_Sof (N := 1) (tm := fun _ => tmS i) (len := [lenS.getD i 0]) (byt := [bytS.getD i []]) (A := A) (args := #[Value.ref b]) (s := s) (fun j hj => by
        have : j = 0 := by omega
        subst this
        show lenS.getD i 0 < _
        omega) (fun j hj => e_s1 hn i hi) (fun j hj => e_s2 hn i hi) (fun j hj => e_s3 hn i hi) (fun j hj => by
        have : j = 0 := by omega
        subst this; exact e_s4 hn i hi) (fun j hj k hk => by
        have : j = 0 := by omega
        subst this
        have hk : k < lenS.getD i 0 := hk
        exact e_sel hn i hi k hk) (fun j k hj hk hjk => (hjk (by omega)).elim) hA
      exact ⟨(ak 0, av 0), fun _ => ⟨h2 0 (by omega), h1 0 (by omega)⟩⟩
    · exact ⟨(0, 0), fun h => absurd h hi⟩
  obtain ⟨ad, had⟩ := Classical.axiomOfChoice h0
  refine ⟨fun i => (ad i).1, fun i => (ad i).2, ⟨fun i hi => (had i hi).2, fun i j hi hj e => ?_⟩, fun i hi => (had i hi).1⟩
  have e : (ad i).1 = (ad j).1 := e
  obtain ⟨cf, k, fi, f, cell, x1, x2, x3, x4, x5, x6⟩ := (had i hi).2.2.2.1
  obtain ⟨cf', k', fi', f', cell', y1, y2, y3, y4, y5, y6⟩ := (had j hj).2.2.2.1
  rw [x1] at y1
  cases y1
  rw [e, y3] at x3
  cases x3
  rw [x5] at y5
  have y5 := Option.some.inj y5
  have ev : (ad i).2 = (ad j).2 := by injection y5
  obtain ⟨c1, t1, t2, t3, t4, t5, t6, t7⟩ := (had i hi).2.2.2.2
  obtain ⟨c2, u1, u2, u3, u4, u5, u6, u7⟩ := (had j hj).2.2.2.2
  rw [ev, u1] at t1
  cases t1
  have li := e_len i hi
  have lj := e_len j hj
  have el : lenS.getD i 0 = lenS.getD j 0 := (nI_eq (by omega) (by omega)).mp (t5.symm.trans u5)
  refine e_dis i hi j hj el fun k _ hk => ?_
  have q1 := t6 k hk
  rw [u6 k (by omega)] at q1
  have q1 := Option.some.inj q1
  have : (bytS.getD j []).getD k 0 = (bytS.getD i []).getD k 0 := by injection q1
  exact this.symm
end START
