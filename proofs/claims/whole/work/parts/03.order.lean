/-! ===== the well-formed state; taking out and putting in; searches (draft: not compiled yet) ===== -/
/-- row lists the tasks of m, each once -/
def rd_Row (m n : Nat) (row : Nat → Nat) : Prop :=
  (∀ i, i < n → row i < 5 ∧ m.testBit (row i) = true) ∧ (∀ i, i < n → ∀ j, j < n → row i = row j → i = j) ∧ (∀ k, k < 5 → m.testBit k = true → ∃ i, i < n ∧ row i = k)
def rd_Num (m : Nat) (c d p : Nat → Nat) : Prop := ∀ k, m.testBit k = true → 1 ≤ c k ∧ c k ≤ d k ∧ d k ≤ p k ∧ p k ≤ 15
def rd_WF (m n : Nat) (c d p o : Nat → Nat) : Prop := m < 32 ∧ n = rd_n m ∧ rd_Row m n o ∧ rd_Num m c d p
theorem rd_peRow {m code : Nat} (hm : m < 32) (hc : code < rd_fac (rd_n m)) : rd_Row m (rd_n m) (rd_pe m code) := by
  refine ⟨fun i hi => rd_peIn m hm code hc i hi, fun i hi j hj e => ?_, fun k hk hb => ?_⟩
  · rcases Nat.lt_trichotomy i j with h | h | h
    · exact absurd e (rd_peInj m hm code hc j hj i h)
    · exact h
    · exact absurd e.symm (rd_peInj m hm code hc i hi j h)
  · have h := rd_peSur m hm code hc k hk hb
    rw [List.any_eq_true] at h
    obtain ⟨i, hi, e⟩ := h
    exact ⟨i, List.mem_range.mp hi, eq_of_beq e⟩
theorem rd_RowC {m n : Nat} {f g : Nat → Nat} (h : ∀ i, i < n → f i = g i) (H : rd_Row m n f) : rd_Row m n g := by
  obtain ⟨h1, h2, h3⟩ := H
  refine ⟨fun i hi => by rw [← h i hi]; exact h1 i hi, fun i hi j hj e => h2 i hi j hj (by rw [h i hi, h j hj]; exact e), fun k hk hb => ?_⟩
  obtain ⟨i, hi, e⟩ := h3 k hk hb
  exact ⟨i, hi, by rw [← h i hi]; exact e⟩
/-- the place j taken out of n -/
def rd_take (o : Nat → Nat) (n j : Nat) : Nat → Nat := fun i => if j ≤ i ∧ i + 1 < n then o (i + 1) else o i
/-- k put in at place i of n -/
def rd_put (o : Nat → Nat) (n k i : Nat) : Nat → Nat := fun q => if q = i then k else if i < q ∧ q ≤ n then o (q - 1) else o q
theorem rd_takeRow {m n j k : Nat} {o : Nat → Nat} (hm : m < 32) (H : rd_Row m (n + 1) o) (hj : j < n + 1) (hk : o j = k) : rd_Row (rd_cl m k) n (rd_take o (n + 1) j) := by
  obtain ⟨h1, h2, h3⟩ := H
  have hk5 : k < 5 := hk ▸ (h1 j hj).1
  have lo : ∀ i, i < n → i < j → rd_take o (n + 1) j i = o i := fun i hi h => if_neg (by omega)
  have hi' : ∀ i, i < n → j ≤ i → rd_take o (n + 1) j i = o (i + 1) := fun i hi h => if_pos ⟨h, by omega⟩
  have key : ∀ i, i < n → ∃ q, q < n + 1 ∧ q ≠ j ∧ rd_take o (n + 1) j i = o q ∧ (q = i ∧ i < j ∨ q = i + 1 ∧ j ≤ i) := by
    intro i hi
    rcases Nat.lt_or_ge i j with h | h
    · exact ⟨i, by omega, by omega, lo i hi h, Or.inl ⟨rfl, h⟩⟩
    · exact ⟨i + 1, by omega, by omega, hi' i hi h, Or.inr ⟨rfl, h⟩⟩
  refine ⟨fun i hi => ?_, fun a ha b hb e => ?_, fun q hq hb => ?_⟩
  · obtain ⟨q, hq, hne, e, _⟩ := key i hi
    rw [e]
    refine ⟨(h1 q hq).1, ?_⟩
    rw [rd_clB m hm k hk5 _ (h1 q hq).1, (h1 q hq).2]
    have : o q ≠ k := fun z => hne (h2 q hq j hj (z.trans hk.symm))
    simp [this]
  · obtain ⟨x, hx, _, ex, cx⟩ := key a ha
    obtain ⟨y, hy, _, ey, cy⟩ := key b hb
    have := h2 x hx y hy (by rw [← ex, ← ey]; exact e)
    omega
  · rw [rd_clB m hm k hk5 q hq] at hb
    have hb1 : m.testBit q = true := by
      cases z : m.testBit q with
      | true => rfl
      | false => rw [z] at hb; exact nomatch hb
    have hne : q ≠ k := by
      intro z
      rw [z] at hb
      simp at hb
    obtain ⟨i, hi, e⟩ := h3 q hq hb1
    have hij : i ≠ j := fun z => hne (by rw [← e, z, hk])
    rcases Nat.lt_or_ge i j with h | h
    · exact ⟨i, by omega, (lo i (by omega) h).trans e⟩
    · exact ⟨i - 1, by omega, (hi' (i - 1) (by omega) (by omega)).trans (by rw [show i - 1 + 1 = i by omega]; exact e)⟩
theorem rd_putRow {m n k i : Nat} {o : Nat → Nat} (hm : m < 32) (H : rd_Row m n o) (hk : k < 5) (hf : m.testBit k = false) (hi : i ≤ n) : rd_Row (m ||| 2 ^ k) (n + 1) (rd_put o n k i) := by
  obtain ⟨h1, h2, h3⟩ := H
  have hat : rd_put o n k i i = k := if_pos rfl
  have lo : ∀ q, q < i → rd_put o n k i q = o q := fun q h => by
    show (if q = i then k else if i < q ∧ q ≤ n then o (q - 1) else o q) = o q
    rw [if_neg (by omega), if_neg (by omega)]
  have hi' : ∀ q, i < q → q ≤ n → rd_put o n k i q = o (q - 1) := fun q h h' => by
    show (if q = i then k else if i < q ∧ q ≤ n then o (q - 1) else o q) = o (q - 1)
    rw [if_neg (by omega), if_pos ⟨h, h'⟩]
  have key : ∀ q, q < n + 1 → q = i ∨ ∃ x, x < n ∧ rd_put o n k i q = o x ∧ (x = q ∧ q < i ∨ x + 1 = q ∧ i < q) := by
    intro q hq
    rcases Nat.lt_trichotomy q i with h | h | h
    · exact Or.inr ⟨q, by omega, lo q h, Or.inl ⟨rfl, h⟩⟩
    · exact Or.inl h
    · exact Or.inr ⟨q - 1, by omega, hi' q h (by omega), Or.inr ⟨by omega, h⟩⟩
  have ne : ∀ x, x < n → o x ≠ k := by
    intro x hx e
    have := (h1 x hx).2
    rw [e, hf] at this
    exact nomatch this
  refine ⟨fun q hq => ?_, fun a ha b hb e => ?_, fun q hq hb => ?_⟩
  · rcases key q hq with z | ⟨x, hx, e, _⟩
    · rw [z, hat]
      exact ⟨hk, by rw [rd_orB m hm k hk k hk]; simp⟩
    · rw [e]
      exact ⟨(h1 x hx).1, by rw [rd_orB m hm k hk _ (h1 x hx).1, (h1 x hx).2]; rfl⟩
  · rcases key a ha with za | ⟨x, hx, ex, cx⟩
    · rcases key b hb with zb | ⟨y, hy, ey, cy⟩
      · omega
      · rw [za, hat, ey] at e
        exact absurd e.symm (ne y hy)
    · rcases key b hb with zb | ⟨y, hy, ey, cy⟩
      · rw [zb, hat, ex] at e
        exact absurd e (ne x hx)
      · have := h2 x hx y hy (by rw [← ex, ← ey]; exact e)
        omega
  · by_cases z : q = k
    · exact ⟨i, by omega, hat.trans z.symm⟩
    · rw [rd_orB m hm k hk q hq] at hb
      have hb1 : m.testBit q = true := by
        cases y : m.testBit q with
        | true => rfl
        | false => rw [y] at hb; simp [z] at hb
      obtain ⟨x, hx, e⟩ := h3 q hq hb1
      rcases Nat.lt_or_ge x i with h | h
      · exact ⟨x, by omega, (lo x h).trans e⟩
      · exact ⟨x + 1, by omega, (hi' (x + 1) (by omega) (by omega)).trans e⟩
/-! the tasks in time -/
/-- by places, as the desk does -/
def rd_tx (f : Nat → Bool) (row : Nat → Nat) : Nat → Nat
  | 0 => 0
  | i + 1 => if f (row i) = true then rd_tx f row i ||| 2 ^ row i else rd_tx f row i
/-- by numbers, as the reference does -/
def rd_ty (f : Nat → Bool) (m : Nat) : Nat → Nat
  | 0 => 0
  | k + 1 => if m.testBit k = true ∧ f k = true then rd_ty f m k ||| 2 ^ k else rd_ty f m k
theorem rd_txB {f : Nat → Bool} {row : Nat → Nat} : ∀ i, (∀ j, j < i → row j < 5) → rd_tx f row i < 32 ∧ ∀ k, k < 5 → ((rd_tx f row i).testBit k = true ↔ f k = true ∧ ∃ j, j < i ∧ row j = k) := by
  intro i
  induction i with
  | zero =>
    intro h
    refine ⟨show (0 : Nat) < 32 by decide, fun k hk => ⟨fun z => ?_, fun z => ?_⟩⟩
    · have : (0 : Nat).testBit k = true := z
      rw [Nat.zero_testBit] at this
      exact nomatch this
    · obtain ⟨_, j, hj, _⟩ := z
      exact absurd hj (Nat.not_lt_zero j)
  | succ i ih =>
    intro h
    obtain ⟨b, H⟩ := ih (fun j hj => h j (by omega))
    have hr := h i (Nat.lt_succ_self i)
    by_cases e : f (row i) = true
    · have a : rd_tx f row (i + 1) = rd_tx f row i ||| 2 ^ row i := if_pos e
      rw [a]
      refine ⟨rd_orL _ b _ hr, fun k hk => ?_⟩
      rw [rd_orB _ b _ hr k hk, Bool.or_eq_true, H k hk, decide_eq_true_eq]
      constructor
      · rintro (⟨h1, j, h2, h3⟩ | h1)
        · exact ⟨h1, j, by omega, h3⟩
        · rw [h1]; exact ⟨e, i, by omega, rfl⟩
      · rintro ⟨h1, j, h2, h3⟩
        rcases Nat.lt_or_ge j i with z | z
        · exact Or.inl ⟨h1, j, z, h3⟩
        · rw [show j = i by omega] at h3
          exact Or.inr h3.symm
    · have a : rd_tx f row (i + 1) = rd_tx f row i := if_neg e
      rw [a]
      refine ⟨b, fun k hk => ?_⟩
      rw [H k hk]
      constructor
      · rintro ⟨h1, j, h2, h3⟩
        exact ⟨h1, j, by omega, h3⟩
      · rintro ⟨h1, j, h2, h3⟩
        rcases Nat.lt_or_ge j i with z | z
        · exact ⟨h1, j, z, h3⟩
        · rw [show j = i by omega] at h3
          rw [h3] at e
          exact absurd h1 e
theorem rd_tyB {f : Nat → Bool} {m : Nat} : ∀ i, i ≤ 5 → rd_ty f m i < 32 ∧ ∀ k, k < 5 → ((rd_ty f m i).testBit k = true ↔ (m.testBit k = true ∧ f k = true) ∧ k < i) := by
  intro i
  induction i with
  | zero =>
    intro h
    refine ⟨show (0 : Nat) < 32 by decide, fun k hk => ⟨fun z => ?_, fun z => absurd z.2 (Nat.not_lt_zero k)⟩⟩
    have : (0 : Nat).testBit k = true := z
    rw [Nat.zero_testBit] at this
    exact nomatch this
  | succ i ih =>
    intro h
    obtain ⟨b, H⟩ := ih (by omega)
    have hr : i < 5 := by omega
    by_cases e : m.testBit i = true ∧ f i = true
    · have a : rd_ty f m (i + 1) = rd_ty f m i ||| 2 ^ i := if_pos e
      rw [a]
      refine ⟨rd_orL _ b _ hr, fun k hk => ?_⟩
      rw [rd_orB _ b _ hr k hk, Bool.or_eq_true, H k hk, decide_eq_true_eq]
      constructor
      · rintro (⟨h1, h2⟩ | h1)
        · exact ⟨h1, by omega⟩
        · rw [h1]; exact ⟨e, by omega⟩
      · rintro ⟨h1, h2⟩
        rcases Nat.lt_or_ge k i with z | z
        · exact Or.inl ⟨h1, z⟩
        · exact Or.inr (by omega)
    · have a : rd_ty f m (i + 1) = rd_ty f m i := if_neg e
      rw [a]
      refine ⟨b, fun k hk => ?_⟩
      rw [H k hk]
      constructor
      · rintro ⟨h1, h2⟩
        exact ⟨h1, by omega⟩
      · rintro ⟨h1, h2⟩
        rcases Nat.lt_or_ge k i with z | z
        · exact ⟨h1, z⟩
        · rw [show k = i by omega] at h1
          exact absurd h1 e
theorem rd_txty {f : Nat → Bool} {m n : Nat} {row : Nat → Nat} (H : rd_Row m n row) : rd_tx f row n = rd_ty f m 5 := by
  obtain ⟨h1, h2, h3⟩ := H
  obtain ⟨a, A⟩ := rd_txB (f := f) (row := row) n (fun j hj => (h1 j hj).1)
  obtain ⟨b, B⟩ := rd_tyB (f := f) (m := m) 5 (Nat.le_refl 5)
  apply rd_mext a b
  intro k hk
  apply Bool.eq_iff_iff.mpr
  rw [A k hk, B k hk]
  constructor
  · rintro ⟨x, j, hj, e⟩
    exact ⟨⟨e ▸ (h1 j hj).2, x⟩, hk⟩
  · rintro ⟨⟨x, y⟩, _⟩
    exact ⟨y, h3 k hk x⟩
/-- all tasks of m below i have f -/
def rd_all (f : Nat → Bool) (m : Nat) : Nat → Bool
  | 0 => true
  | k + 1 => rd_all f m k && (!m.testBit k || f k)
theorem rd_allS {f : Nat → Bool} {m : Nat} : ∀ i, rd_all f m i = true ↔ ∀ k, k < i → m.testBit k = true → f k = true := by
  intro i
  induction i with
  | zero => exact ⟨fun _ k h => absurd h (Nat.not_lt_zero k), fun _ => rfl⟩
  | succ i ih =>
    show (rd_all f m i && (!m.testBit i || f i)) = true ↔ _
    rw [Bool.and_eq_true, ih]
    constructor
    · rintro ⟨h1, h2⟩ k hk hb
      rcases Nat.lt_or_ge k i with z | z
      · exact h1 k z hb
      · rw [show k = i by omega] at hb ⊢
        rw [hb] at h2
        simpa using h2
    · intro h
      refine ⟨fun k hk hb => h k (by omega) hb, ?_⟩
      cases z : m.testBit i with
      | false => rfl
      | true => rw [h i (by omega) z]; rfl
theorem rd_txAll {f : Nat → Bool} {m n : Nat} {row : Nat → Nat} (hm : m < 32) (H : rd_Row m n row) : rd_tx f row n = m ↔ rd_all f m 5 = true := by
  rw [rd_txty H, rd_allS]
  obtain ⟨b, B⟩ := rd_tyB (f := f) (m := m) 5 (Nat.le_refl 5)
  constructor
  · intro e k hk hb
    rw [← e] at hb
    exact ((B k hk).mp hb).1.2
  · intro h
    apply rd_mext b hm
    intro k hk
    apply Bool.eq_iff_iff.mpr
    rw [B k hk]
    exact ⟨fun z => z.1.1, fun z => ⟨⟨z, h k hk z⟩, hk⟩⟩
/-! searches -/
/-- the number of i < e with f -/
def rd_cnt (f : Nat → Bool) : Nat → Nat
  | 0 => 0
  | i + 1 => if f i = true then rd_cnt f i + 1 else rd_cnt f i
theorem rd_cntB (f : Nat → Bool) : ∀ i, rd_cnt f i ≤ i := by
  intro i
  induction i with
  | zero => exact Nat.le_refl 0
  | succ i ih =>
    show (if f i = true then rd_cnt f i + 1 else rd_cnt f i) ≤ i + 1
    by_cases e : f i = true
    · rw [if_pos e]; omega
    · rw [if_neg e]; omega
/-- the set of e i for i with f -/
def rd_ls (f : Nat → Bool) (e : Nat → Nat) : Nat → Nat
  | 0 => 0
  | i + 1 => if f i = true then rd_ls f e i ||| 2 ^ e i else rd_ls f e i
/-- the greatest i from 1 up to d with f, 0 if there is none -/
def rd_last (f : Nat → Bool) : Nat → Nat
  | 0 => 0
  | i + 1 => if f (i + 1) = true then i + 1 else rd_last f i
/-- the least i from a on (e to look at) with f, 0 if there is none -/
def rd_frst (f : Nat → Bool) : Nat → Nat → Nat
  | 0, _ => 0
  | e + 1, a => if f a = true then a else rd_frst f e (a + 1)
/-- whether the order row is good -/
def rd_good (m : Nat) (c d p row : Nat → Nat) (n : Nat) : Bool := rd_all (rd_ok m c d p row n) m 5
