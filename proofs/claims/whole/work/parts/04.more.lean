/-! ===== rows that agree in n places; positions; copies; shifts (draft: not compiled yet) ===== -/
section
variable {m : Nat} {c d p : Nat → Nat} {row row' : Nat → Nat} {n : Nat}
theorem rd_simR (h : ∀ j, j < n → row j = row' j) : ∀ t, rd_sim m c p row n t = rd_sim m c p row' n t := by
  intro t
  induction t with
  | zero => rfl
  | succ t ih =>
    have e : rd_to m c p row n t = rd_to m c p row' n t := by
      show rd_who row (rd_rel m c p t (rd_sim m c p row n t).1) n 0 = rd_who row' (rd_rel m c p t (rd_sim m c p row' n t).1) n 0
      rw [ih]
      exact rd_whoR n 0 (fun j _ hj => h j (by omega))
    have eJ : rd_J m c p row n t = rd_J m c p row' n t := by
      show rd_rel m c p t (rd_sim m c p row n t).1 = rd_rel m c p t (rd_sim m c p row' n t).1
      rw [ih]
    cases z : rd_to m c p row n t with
    | none => rw [rd_simN z, rd_simN (e.symm.trans z), eJ, ih]
    | some k => rw [rd_simS z, rd_simS (e.symm.trans z), eJ, ih]
theorem rd_toR (h : ∀ j, j < n → row j = row' j) (t : Nat) : rd_to m c p row n t = rd_to m c p row' n t := by
  show rd_who row (rd_rel m c p t (rd_sim m c p row n t).1) n 0 = rd_who row' (rd_rel m c p t (rd_sim m c p row' n t).1) n 0
  rw [rd_simR h]
  exact rd_whoR n 0 (fun j _ hj => h j (by omega))
theorem rd_fdR (h : ∀ j, j < n → row j = row' j) (t k : Nat) : rd_fd m c p row n t k = rd_fd m c p row' n t k := by
  induction t with
  | zero => rfl
  | succ t ih =>
    show (if rd_to m c p row n t = some k ∧ (rd_sim m c p row n (t + 1)).2 k = c k then t + 1 else rd_fd m c p row n t k) = (if rd_to m c p row' n t = some k ∧ (rd_sim m c p row' n (t + 1)).2 k = c k then t + 1 else rd_fd m c p row' n t k)
    rw [rd_toR h, rd_simR h, ih]
theorem rd_okR (h : ∀ j, j < n → row j = row' j) : rd_ok m c d p row n = rd_ok m c d p row' n := by
  funext k
  unfold rd_ok
  rw [rd_fdR h]
theorem rd_goodR (h : ∀ j, j < n → row j = row' j) : rd_good m c d p row n = rd_good m c d p row' n := by
  unfold rd_good
  rw [rd_okR h]
/-- whom a unit is given is a task of the row -/
theorem rd_toIn {t k : Nat} (h : rd_to m c p row n t = some k) : 0 < rd_J m c p row n t k ∧ ∃ j, j < n ∧ row j = k := by
  obtain ⟨a, j, _, h2, h3⟩ := rd_whoIn n 0 h
  exact ⟨a, j, by omega, h3⟩
end
theorem rd_txR {f : Nat → Bool} {row row' : Nat → Nat} : ∀ i, (∀ j, j < i → row j = row' j) → rd_tx f row i = rd_tx f row' i := by
  intro i
  induction i with
  | zero => intro h; rfl
  | succ i ih =>
    intro h
    show (if f (row i) = true then rd_tx f row i ||| 2 ^ row i else rd_tx f row i) = (if f (row' i) = true then rd_tx f row' i ||| 2 ^ row' i else rd_tx f row' i)
    rw [h i (Nat.lt_succ_self i), ih (fun j hj => h j (by omega))]
/-- a truth value as the machine holds it -/
def rd_b (x : Bool) : Int32 := if x = true then 1 else 0
theorem rd_bt {x : Bool} (h : x = true) : rd_b x = 1 := if_pos h
theorem rd_bf {x : Bool} (h : ¬ x = true) : rd_b x = 0 := if_neg h
/-! positions -/
theorem rd_pos {m n : Nat} {o : Nat → Nat} (H : rd_Row m n o) {k : Nat} (hk : k < 5) (hb : m.testBit k = true) : ∃ j, j < n ∧ o j = k ∧ (∀ i, i < n → i ≠ j → o i ≠ k) := by
  obtain ⟨h1, h2, h3⟩ := H
  obtain ⟨j, hj, e⟩ := h3 k hk hb
  exact ⟨j, hj, e, fun i hi ne z => ne (h2 i hi j hj (z.trans e.symm))⟩
/-- the first n places of src over o -/
def rd_cp (o src : Nat → Nat) (n : Nat) : Nat → Nat := fun i => if i < n then src i else o i
theorem rd_cp0 (o src : Nat → Nat) : rd_cp o src 0 = o := funext fun i => if_neg (Nat.not_lt_zero i)
theorem rd_cpS (o src : Nat → Nat) (i : Nat) : rd_up (rd_cp o src i) i (src i) = rd_cp o src (i + 1) := by
  funext q
  show (if q = i then src i else if q < i then src q else o q) = if q < i + 1 then src q else o q
  by_cases e : q = i
  · rw [if_pos e, if_pos (by omega), e]
  · rw [if_neg e]
    by_cases z : q < i
    · rw [if_pos z, if_pos (by omega)]
    · rw [if_neg z, if_neg (by omega)]
theorem rd_cpC {o src src' : Nat → Nat} {n : Nat} (h : ∀ i, i < n → src i = src' i) : rd_cp o src n = rd_cp o src' n := by
  funext q
  show (if q < n then src q else o q) = if q < n then src' q else o q
  by_cases e : q < n
  · rw [if_pos e, if_pos e, h q e]
  · rw [if_neg e, if_neg e]
theorem rd_cpI {o src : Nat → Nat} {n i : Nat} (h : i < n) : rd_cp o src n i = src i := if_pos h
/-! taking out: the desk's steps -/
theorem rd_tkLo {o : Nat → Nat} {i j : Nat} (h : i ≤ j + 1) : rd_take o i j = o := funext fun q => if_neg (by omega)
theorem rd_tkHi {o : Nat → Nat} {i j : Nat} (h : j < i) : rd_up (rd_take o i j) (i - 1) (o i) = rd_take o (i + 1) j := by
  funext q
  show (if q = i - 1 then o i else if j ≤ q ∧ q + 1 < i then o (q + 1) else o q) = if j ≤ q ∧ q + 1 < i + 1 then o (q + 1) else o q
  by_cases e : q = i - 1
  · rw [if_pos e, if_pos (by omega), show q + 1 = i by omega]
  · rw [if_neg e]
    by_cases z : j ≤ q ∧ q + 1 < i
    · rw [if_pos z, if_pos (by omega)]
    · rw [if_neg z, if_neg (by omega)]
theorem rd_tkAt {o : Nat → Nat} {i j : Nat} : rd_take o i j i = o i := if_neg (by omega)
/-! putting in -/
def rd_shr (o : Nat → Nat) (n i : Nat) : Nat → Nat := fun q => if i < q ∧ q ≤ n then o (q - 1) else o q
theorem rd_shr0 (o : Nat → Nat) (n : Nat) : rd_shr o n n = o := funext fun q => if_neg (by omega)
theorem rd_shrS {o : Nat → Nat} {n i : Nat} (h : i + 1 ≤ n) : rd_up (rd_shr o n (i + 1)) (i + 1) (rd_shr o n (i + 1) i) = rd_shr o n i := by
  funext q
  have a : rd_shr o n (i + 1) i = o i := if_neg (by omega)
  rw [a]
  show (if q = i + 1 then o i else if i + 1 < q ∧ q ≤ n then o (q - 1) else o q) = if i < q ∧ q ≤ n then o (q - 1) else o q
  by_cases e : q = i + 1
  · rw [if_pos e, if_pos (by omega), show q - 1 = i by omega]
  · rw [if_neg e]
    by_cases z : i + 1 < q ∧ q ≤ n
    · rw [if_pos z, if_pos (by omega)]
    · rw [if_neg z, if_neg (by omega)]
theorem rd_shrE (o : Nat → Nat) (n k i : Nat) : rd_up (rd_shr o n i) i k = rd_put o n k i := rfl
theorem rd_putN (o : Nat → Nat) (n k : Nat) : rd_put o n k n = rd_up o n k := by
  funext q
  show (if q = n then k else if n < q ∧ q ≤ n then o (q - 1) else o q) = if q = n then k else o q
  by_cases e : q = n
  · rw [if_pos e, if_pos e]
  · rw [if_neg e, if_neg e, if_neg (by omega)]
/-! the least free number -/
def rd_lf (m : Nat) : Nat → Nat → Nat
  | 0, k => k
  | d + 1, k => if m.testBit k = true then rd_lf m d (k + 1) else k
def rd_fr (m : Nat) : Nat := rd_lf m 4 0
theorem rd_fr1 : ∀ m, m < 32 → rd_n m < 5 → rd_fr m < 5 ∧ m.testBit (rd_fr m) = false := by decide +kernel
theorem rd_fr2 : ∀ m, m < 32 → ∀ k, k < rd_fr m → m.testBit k = true := by decide +kernel
theorem rd_31 : ∀ k, k < 5 → (31 : Nat).testBit k = true := by decide +kernel
theorem rd_clor : ∀ m, m < 32 → ∀ k, k < 5 → m.testBit k = true → rd_cl m k ||| 2 ^ k = m := by decide +kernel
theorem rd_orcl : ∀ m, m < 32 → ∀ k, k < 5 → m.testBit k = false → rd_cl (m ||| 2 ^ k) k = m := by decide +kernel
theorem rd_clbk : ∀ m, m < 32 → ∀ k, k < 5 → (rd_cl m k).testBit k = false := by decide +kernel
theorem rd_usd : ∀ u, u < 32 → ∀ k, k < 5 → ((nI u >>> (nI k &&& 31)) &&& 1 = 0 ↔ u.testBit k = false) := by decide +kernel
/-- the mask of a set read bit by bit is the set -/
def rd_ms (m : Nat) : Nat → Nat
  | 0 => 0
  | k + 1 => if m.testBit k = true then rd_ms m k ||| 2 ^ k else rd_ms m k
theorem rd_ms5 : ∀ m, m < 32 → rd_ms m 5 = m := by decide +kernel
theorem rd_msL : ∀ m, m < 32 → ∀ k, k < 6 → rd_ms m k < 32 := by decide +kernel
/-! numbers kept when a number of a task is changed -/
theorem rd_NumC {m : Nat} {c d p : Nat → Nat} {k x : Nat} (H : rd_Num m c d p) (h1 : 1 ≤ x) (h2 : x ≤ d k) : rd_Num m (rd_up c k x) d p := by
  intro j hj
  obtain ⟨a, b, e, f⟩ := H j hj
  by_cases z : j = k
  · subst z
    rw [rd_us]
    exact ⟨h1, h2, e, f⟩
  · rw [rd_un z]
    exact ⟨a, b, e, f⟩
theorem rd_NumP {m : Nat} {c d p : Nat → Nat} {k x : Nat} (H : rd_Num m c d p) (h1 : d k ≤ x) (h2 : x ≤ 15) : rd_Num m c d (rd_up p k x) := by
  intro j hj
  obtain ⟨a, b, e, f⟩ := H j hj
  by_cases z : j = k
  · subst z
    rw [rd_us]
    exact ⟨a, b, h1, h2⟩
  · rw [rd_un z]
    exact ⟨a, b, e, f⟩
theorem rd_NumCl {m k : Nat} {c d p : Nat → Nat} (hm : m < 32) (hk : k < 5) (H : rd_Num m c d p) : rd_Num (rd_cl m k) c d p := by
  intro j hj
  rcases Nat.lt_or_ge j 5 with h | h
  · rw [rd_clB m hm k hk j h] at hj
    apply H j
    cases z : m.testBit j with
    | true => rfl
    | false => rw [z] at hj; exact nomatch hj
  · rw [rd_hi (rd_clL m hm k hk) h] at hj
    exact nomatch hj
theorem rd_NumOr {m k x y z : Nat} {c d p : Nat → Nat} (hm : m < 32) (hk : k < 5) (H : rd_Num m c d p) (h1 : 1 ≤ x) (h2 : x ≤ y) (h3 : y ≤ z) (h4 : z ≤ 15) : rd_Num (m ||| 2 ^ k) (rd_up c k x) (rd_up d k y) (rd_up p k z) := by
  intro j hj
  by_cases e : j = k
  · subst e
    rw [rd_us, rd_us, rd_us]
    exact ⟨h1, h2, h3, h4⟩
  · rw [rd_un e, rd_un e, rd_un e]
    rcases Nat.lt_or_ge j 5 with h | h
    · rw [rd_orB m hm k hk j h] at hj
      apply H j
      cases y : m.testBit j with
      | true => rfl
      | false => rw [y] at hj; simp [e] at hj
    · rw [rd_hi (rd_orL m hm k hk) h] at hj
      exact nomatch hj
/-! searches from above and from below -/
theorem rd_lastU {f : Nat → Bool} {i : Nat} (h : f (i + 1) = true) : rd_last f (i + 1) = i + 1 := if_pos h
theorem rd_lastN {f : Nat → Bool} {i : Nat} (h : ¬ f (i + 1) = true) : rd_last f (i + 1) = rd_last f i := if_neg h
theorem rd_lastB (f : Nat → Bool) : ∀ i, rd_last f i ≤ i := by
  intro i
  induction i with
  | zero => exact Nat.le_refl 0
  | succ i ih =>
    by_cases e : f (i + 1) = true
    · rw [rd_lastU e]; exact Nat.le_refl _
    · rw [rd_lastN e]; omega
/-- the last one that a search downwards from a + e meets, r if there is none: what rd_frst tells -/
theorem rd_frstU {f : Nat → Bool} {e a : Nat} (h : f a = true) : rd_frst f (e + 1) a = a := if_pos h
theorem rd_frstN {f : Nat → Bool} {e a : Nat} (h : ¬ f a = true) : rd_frst f (e + 1) a = rd_frst f e (a + 1) := if_neg h
/-- whether one of i < e has f -/
theorem rd_cntP {f : Nat → Bool} : ∀ e, 0 < rd_cnt f e ↔ ∃ i, i < e ∧ f i = true := by
  intro e
  induction e with
  | zero => exact ⟨fun h => absurd h (Nat.lt_irrefl 0), fun ⟨i, h, _⟩ => absurd h (Nat.not_lt_zero i)⟩
  | succ e ih =>
    by_cases z : f e = true
    · have a : rd_cnt f (e + 1) = rd_cnt f e + 1 := if_pos z
      rw [a]
      exact ⟨fun _ => ⟨e, Nat.lt_succ_self e, z⟩, fun _ => Nat.succ_pos _⟩
    · have a : rd_cnt f (e + 1) = rd_cnt f e := if_neg z
      rw [a, ih]
      constructor
      · rintro ⟨i, h1, h2⟩
        exact ⟨i, by omega, h2⟩
      · rintro ⟨i, h1, h2⟩
        rcases Nat.lt_or_ge i e with q | q
        · exact ⟨i, q, h2⟩
        · rw [show i = e by omega] at h2
          exact absurd h2 z
/-- the first i below e with f, none if there is none, from i on -/
def rd_fst (f : Nat → Bool) : Nat → Nat → Option Nat
  | 0, _ => none
  | e + 1, i => if f i = true then some i else rd_fst f e (i + 1)
