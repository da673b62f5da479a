/-! ===== the orders of the tasks of m in dictionary order (draft: not compiled yet) ===== -/
def rd_fac : Nat → Nat
  | 0 => 1
  | n + 1 => rd_fac n * (n + 1)
theorem rd_facB : ∀ n, n < 6 → rd_fac n ≤ 120 ∧ 0 < rd_fac n := by decide +kernel
/-- the skip-th task of m that used lacks, from k on (d to look at), q counted so far; 0 if there is none -/
def rd_unA (m used skip : Nat) : Nat → Nat → Nat → Nat
  | 0, _, _ => 0
  | d + 1, k, q => if m.testBit k = true ∧ used.testBit k = false then (if q = skip then k else rd_unA m used skip d (k + 1) (q + 1)) else rd_unA m used skip d (k + 1) q
def rd_unu (m used skip : Nat) : Nat := rd_unA m used skip 5 0 0
/-- block, rest and used after i places -/
def rd_ss (m n code : Nat) : Nat → Nat × Nat × Nat
  | 0 => (rd_fac n, code, 0)
  | i + 1 => ((rd_ss m n code i).1 / (n - i), (rd_ss m n code i).2.1 % ((rd_ss m n code i).1 / (n - i)),
      (rd_ss m n code i).2.2 ||| 2 ^ (rd_unu m (rd_ss m n code i).2.2 ((rd_ss m n code i).2.1 / ((rd_ss m n code i).1 / (n - i)))))
/-- the task at place i of the order with number code -/
def rd_pe (m code i : Nat) : Nat :=
  rd_unu m (rd_ss m (rd_n m) code i).2.2 ((rd_ss m (rd_n m) code i).2.1 / ((rd_ss m (rd_n m) code i).1 / (rd_n m - i)))
/-! the next order, as the desk finds it -/
/-- 1 + the last place i below the given one with tr i < tr (i + 1); 0 if there is none -/
def rd_ni (tr : Nat → Nat) : Nat → Nat
  | 0 => 0
  | i + 1 => if tr (i + 1) < tr i then rd_ni tr i else i + 1
def rd_nj (tr : Nat → Nat) (i : Nat) : Nat → Nat
  | 0 => 0
  | j + 1 => if i < j + 1 ∧ tr (j + 1) < tr i then rd_nj tr i j else j + 1
def rd_sw (tr : Nat → Nat) (i j : Nat) : Nat → Nat := rd_up (rd_up tr i (tr j)) j (tr i)
/-- turned round between low and high (f: fuel) -/
def rd_rev : Nat → (Nat → Nat) → Nat → Nat → Nat → Nat
  | 0, tr, _, _ => tr
  | f + 1, tr, low, high => if low < high then rd_rev f (rd_sw tr low high) (low + 1) (high - 1) else tr
def rd_next (n : Nat) (tr : Nat → Nat) : Nat → Nat :=
  if rd_ni tr (n - 1) = 0 then tr
  else rd_rev 5 (rd_sw tr (rd_ni tr (n - 1) - 1) (rd_nj tr (rd_ni tr (n - 1) - 1) (n - 1))) (rd_ni tr (n - 1)) (n - 1)
/-! the tables -/
theorem rd_peIn : ∀ m, m < 32 → ∀ code, code < rd_fac (rd_n m) → ∀ i, i < rd_n m → rd_pe m code i < 5 ∧ m.testBit (rd_pe m code i) = true := by decide +kernel
theorem rd_peInj : ∀ m, m < 32 → ∀ code, code < rd_fac (rd_n m) → ∀ i, i < rd_n m → ∀ j, j < i → rd_pe m code j ≠ rd_pe m code i := by decide +kernel
theorem rd_peSur : ∀ m, m < 32 → ∀ code, code < rd_fac (rd_n m) → ∀ k, k < 5 → m.testBit k = true → (List.range (rd_n m)).any (fun i => rd_pe m code i == k) = true := by decide +kernel
theorem rd_peNext : ∀ m, m < 32 → ∀ code, code < rd_fac (rd_n m) → code + 1 < rd_fac (rd_n m) → ∀ i, i < rd_n m → rd_next (rd_n m) (rd_pe m code) i = rd_pe m (code + 1) i := by decide +kernel
/-- the first order: the tasks by their numbers; after k numbers q are placed -/
def rd_ft (m : Nat) (tr : Nat → Nat) : Nat → (Nat → Nat) × Nat
  | 0 => (tr, 0)
  | k + 1 => if m.testBit k = true then (rd_up (rd_ft m tr k).1 (rd_ft m tr k).2 k, (rd_ft m tr k).2 + 1) else rd_ft m tr k
theorem rd_ftC (m : Nat) (tr : Nat → Nat) : ∀ k, (rd_ft m tr k).2 = (rd_ft m (fun _ => 0) k).2 ∧ ∀ i, i < (rd_ft m tr k).2 → (rd_ft m tr k).1 i = (rd_ft m (fun _ => 0) k).1 i := by
  intro k
  induction k with
  | zero => exact ⟨rfl, fun i h => absurd h (Nat.not_lt_zero i)⟩
  | succ k ih =>
    by_cases e : m.testBit k = true
    · have a : rd_ft m tr (k + 1) = (rd_up (rd_ft m tr k).1 (rd_ft m tr k).2 k, (rd_ft m tr k).2 + 1) := if_pos e
      have b : rd_ft m (fun _ => 0) (k + 1) = (rd_up (rd_ft m (fun _ => 0) k).1 (rd_ft m (fun _ => 0) k).2 k, (rd_ft m (fun _ => 0) k).2 + 1) := if_pos e
      rw [a, b]
      refine ⟨congrArg (· + 1) ih.1, fun i hi => ?_⟩
      show rd_up (rd_ft m tr k).1 (rd_ft m tr k).2 k i = rd_up (rd_ft m (fun _ => 0) k).1 (rd_ft m (fun _ => 0) k).2 k i
      by_cases z : i = (rd_ft m tr k).2
      · rw [z, rd_us, ih.1, rd_us]
      · rw [rd_un z, rd_un (by rw [← ih.1]; exact z)]
        exact ih.2 i (by have : i < (rd_ft m tr k).2 + 1 := hi; omega)
    · have a : rd_ft m tr (k + 1) = rd_ft m tr k := if_neg e
      have b : rd_ft m (fun _ => 0) (k + 1) = rd_ft m (fun _ => 0) k := if_neg e
      rw [a, b]
      exact ih
theorem rd_ft0 : ∀ m, m < 32 → (rd_ft m (fun _ => 0) 5).2 = rd_n m ∧ ∀ i, i < rd_n m → (rd_ft m (fun _ => 0) 5).1 i = rd_pe m 0 i := by decide +kernel
theorem rd_ftB : ∀ m, m < 32 → ∀ k, k < 5 → m.testBit k = true → (rd_ft m (fun _ => 0) k).2 < 5 := by decide +kernel
/-! rd_next looks at the first n places alone -/
theorem rd_niC {f g : Nat → Nat} : ∀ i, (∀ j, j ≤ i → f j = g j) → rd_ni f i = rd_ni g i := by
  intro i
  induction i with
  | zero => intro h; rfl
  | succ i ih =>
    intro h
    show (if f (i + 1) < f i then rd_ni f i else i + 1) = (if g (i + 1) < g i then rd_ni g i else i + 1)
    rw [h (i + 1) (Nat.le_refl _), h i (by omega), ih (fun j hj => h j (by omega))]
theorem rd_niB (f : Nat → Nat) : ∀ i, rd_ni f i ≤ i := by
  intro i
  induction i with
  | zero => exact Nat.le_refl 0
  | succ i ih =>
    show (if f (i + 1) < f i then rd_ni f i else i + 1) ≤ i + 1
    by_cases e : f (i + 1) < f i
    · rw [if_pos e]; omega
    · rw [if_neg e]; exact Nat.le_refl _
theorem rd_njC {f g : Nat → Nat} {q : Nat} (hq : f q = g q) : ∀ i, (∀ j, j ≤ i → f j = g j) → rd_nj f q i = rd_nj g q i := by
  intro i
  induction i with
  | zero => intro h; rfl
  | succ i ih =>
    intro h
    show (if q < i + 1 ∧ f (i + 1) < f q then rd_nj f q i else i + 1) = (if q < i + 1 ∧ g (i + 1) < g q then rd_nj g q i else i + 1)
    rw [h (i + 1) (Nat.le_refl _), hq, ih (fun j hj => h j (by omega))]
theorem rd_njB (f : Nat → Nat) (q : Nat) : ∀ i, rd_nj f q i ≤ i := by
  intro i
  induction i with
  | zero => exact Nat.le_refl 0
  | succ i ih =>
    show (if q < i + 1 ∧ f (i + 1) < f q then rd_nj f q i else i + 1) ≤ i + 1
    by_cases e : q < i + 1 ∧ f (i + 1) < f q
    · rw [if_pos e]; omega
    · rw [if_neg e]; exact Nat.le_refl _
theorem rd_swC {f g : Nat → Nat} {n i j : Nat} (hi : i < n) (hj : j < n) (h : ∀ q, q < n → f q = g q) : ∀ q, q < n → rd_sw f i j q = rd_sw g i j q := by
  intro q hq
  show rd_up (rd_up f i (f j)) j (f i) q = rd_up (rd_up g i (g j)) j (g i) q
  by_cases e : q = j
  · rw [e, rd_us, rd_us]; exact h i hi
  · rw [rd_un e, rd_un e]
    by_cases z : q = i
    · rw [z, rd_us, rd_us]; exact h j hj
    · rw [rd_un z, rd_un z]; exact h q hq
theorem rd_revC {n : Nat} : ∀ (d : Nat) (f g : Nat → Nat) (low high : Nat), high < n → (∀ q, q < n → f q = g q) → ∀ q, q < n → rd_rev d f low high q = rd_rev d g low high q := by
  intro d
  induction d with
  | zero => intro f g low high _ h q hq; exact h q hq
  | succ d ih =>
    intro f g low high hh h q hq
    show (if low < high then rd_rev d (rd_sw f low high) (low + 1) (high - 1) else f) q = (if low < high then rd_rev d (rd_sw g low high) (low + 1) (high - 1) else g) q
    by_cases e : low < high
    · rw [if_pos e, if_pos e]
      exact ih _ _ _ _ (by omega) (rd_swC (by omega) hh h) q hq
    · rw [if_neg e, if_neg e]; exact h q hq
theorem rd_nextC {f g : Nat → Nat} {n : Nat} (hn : 0 < n) (h : ∀ q, q < n → f q = g q) : ∀ q, q < n → rd_next n f q = rd_next n g q := by
  intro q hq
  have e : rd_ni f (n - 1) = rd_ni g (n - 1) := rd_niC (n - 1) (fun j hj => h j (by omega))
  have b := rd_niB g (n - 1)
  unfold rd_next
  rw [e]
  by_cases z : rd_ni g (n - 1) = 0
  · rw [if_pos z, if_pos z]; exact h q hq
  · rw [if_neg z, if_neg z]
    have e2 : rd_nj f (rd_ni g (n - 1) - 1) (n - 1) = rd_nj g (rd_ni g (n - 1) - 1) (n - 1) := rd_njC (h _ (by omega)) (n - 1) (fun j hj => h j (by omega))
    have b2 := rd_njB g (rd_ni g (n - 1) - 1) (n - 1)
    rw [e2]
    exact rd_revC 5 _ _ _ _ (by omega) (rd_swC (by omega) (by omega) h) q hq
