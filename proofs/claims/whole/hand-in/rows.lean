section
/-! rows of kit/rows/PURE-ROWS (pasted) -/
theorem pk_us {f : Nat → Int32} {k : Nat} {x : Int32} : upd f k x k = x := if_pos rfl
theorem pk_un {f : Nat → Int32} {k j : Nat} {x : Int32} (h : j ≠ k) : upd f k x j = f j := if_neg h
theorem pk_uLs {f : Nat → Int64} {k : Nat} {x : Int64} : vp_updL f k x k = x := if_pos rfl
theorem pk_uLn {f : Nat → Int64} {k j : Nat} {x : Int64} (h : j ≠ k) : vp_updL f k x j = f j := if_neg h
theorem pk_sub {a b : Nat} (h : b ≤ a) : nI a - nI b = nI (a - b) := by
  obtain ⟨c, rfl⟩ : ∃ c, a = c + b := ⟨a - b, by omega⟩
  rw [← nI_add, Int32.add_sub_cancel, Nat.add_sub_cancel]
theorem pk_m1 (n : Nat) : nI (n + 1) + (-1) = nI n := by
  rw [← nI_1, Int32.add_assoc, show (1 : Int32) + (-1) = 0 from rfl, Int32.add_zero]
theorem pk_mul (a b : Nat) : nI a * nI b = nI (a * b) := (Int32.ofNat_mul a b).symm
theorem pk_div {a d : Nat} (ha : a < 2 ^ 31) (h0 : 0 < d) (hd : d < 2 ^ 31) : nI a / nI d = nI (a / d) := by
  apply Int32.toInt_inj.mp
  rw [lg_idiv_nonneg (by rw [nI_toInt ha]; omega) (by rw [nI_toInt hd]; omega), nI_toInt ha, nI_toInt hd, nI_toInt (Nat.lt_of_le_of_lt (Nat.div_le_self a d) ha)]
  first | rfl | exact (Int.natCast_ediv _ _).symm
theorem pk_rem {a d : Nat} (ha : a < 2 ^ 31) (h0 : 0 < d) (hd : d < 2 ^ 31) : nI a - nI a / nI d * nI d = nI (a % d) := by
  rw [pk_div ha h0 hd, pk_mul, pk_sub (Nat.div_mul_le_self a d)]
  exact congrArg nI (by have := Nat.div_add_mod' a d; omega)
theorem pk_sub_toInt {a b : Nat} (ha : a < 2 ^ 30) (hb : b < 2 ^ 30) : (nI a - nI b).toInt = (a : Int) - b := by
  rw [Int32.toInt_sub, nI_toInt (by omega), nI_toInt (by omega)]
  exact Int.bmod_eq_of_le (by omega) (by omega)
theorem pk_sneg {a b : Nat} (hb : b < 2 ^ 30) (h : a < b) : nI a - nI b < 0 := by
  rw [Int32.lt_iff_toInt_lt, pk_sub_toInt (by omega) hb, show (0 : Int32).toInt = 0 from by decide]
  omega
theorem pk_ix (x : Int32) {n : Nat} (hn : n < 2 ^ 31) : x < 0 ∨ nI n ≤ x ∨ ∃ j : Nat, j < n ∧ x = nI j := by
  by_cases h : x < 0
  · exact Or.inl h
  · obtain ⟨j, hj, rfl⟩ := nI_of h
    by_cases h2 : j < n
    · exact Or.inr (Or.inr ⟨j, h2, rfl⟩)
    · exact Or.inr (Or.inl (nI_le (by omega) hj))
theorem pk_le {x y : Int32} {A B : Prop} (a b : Nat) (f : a ≤ b → A) (g : b < a → B) (hx : x = nI a := by rfl) (hy : y = nI b := by rfl) (ha : a < 2 ^ 31 := by omega) (hb : b < 2 ^ 31 := by omega) : (x ≤ y → A) ∧ (¬ x ≤ y → B) := by
  subst hx hy
  rw [nI_leI ha hb]
  exact ⟨f, fun z => g (by omega)⟩
theorem pk_lt {x y : Int32} {A B : Prop} (a b : Nat) (f : a < b → A) (g : b ≤ a → B) (hx : x = nI a := by rfl) (hy : y = nI b := by rfl) (ha : a < 2 ^ 31 := by omega) (hb : b < 2 ^ 31 := by omega) : (x < y → A) ∧ (¬ x < y → B) := by
  subst hx hy
  rw [nI_ltI ha hb]
  exact ⟨f, fun z => g (by omega)⟩
theorem pk_eq {x y : Int32} {A B : Prop} (a b : Nat) (f : a = b → A) (g : a ≠ b → B) (hx : x = nI a := by rfl) (hy : y = nI b := by rfl) (ha : a < 2 ^ 31 := by omega) (hb : b < 2 ^ 31 := by omega) : (x = y → A) ∧ (¬ x = y → B) := by
  subst hx hy
  rw [nI_eq ha hb]
  exact ⟨f, g⟩
theorem pk_in {x : Int32} (n N : Nat) (h : n < N) (hx : x = nI n := by rfl) (hN : N < 2 ^ 31 := by omega) : vp_in x N := by
  subst hx
  exact vp_in_nI h hN
theorem pk_cl {x : Int32} (n : Nat) (hx : x = nI n := by rfl) (h : n < 2 ^ 31 := by omega) : x.toNatClampNeg = n := by
  subst hx
  exact nI_clamp h
/-! ===== arrays of naturals, sets of tasks as masks (draft: not compiled yet) ===== -/
def rd_A (f : Nat → Nat) : Nat → Int32 := fun k => nI (f k)
def rd_up (f : Nat → Nat) (j x : Nat) : Nat → Nat := fun k => if k = j then x else f k
theorem rd_us {f : Nat → Nat} {j x : Nat} : rd_up f j x j = x := if_pos rfl
theorem rd_un {f : Nat → Nat} {j x k : Nat} (h : k ≠ j) : rd_up f j x k = f k := if_neg h
theorem rd_get (f : Nat → Nat) {j : Nat} (h : j < 2 ^ 31) : rd_A f (nI j).toNatClampNeg = nI (f j) := by
  rw [nI_clamp h]
  rfl
theorem rd_setN (f : Nat → Nat) (j x : Nat) : upd (rd_A f) j (nI x) = rd_A (rd_up f j x) := by
  funext k
  show (if k = j then nI x else nI (f k)) = nI (if k = j then x else f k)
  by_cases e : k = j
  · rw [if_pos e, if_pos e]
  · rw [if_neg e, if_neg e]
theorem rd_set (f : Nat → Nat) {j : Nat} (x : Nat) (h : j < 2 ^ 31) : upd (rd_A f) (nI j).toNatClampNeg (nI x) = rd_A (rd_up f j x) := by
  rw [nI_clamp h]
  exact rd_setN f j x
theorem rd_upup (f : Nat → Nat) (j x y : Nat) : rd_up (rd_up f j x) j y = rd_up f j y := by
  funext k
  by_cases e : k = j
  · rw [e, rd_us, rd_us]
  · rw [rd_un e, rd_un e, rd_un e]
theorem rd_upid (f : Nat → Nat) (j : Nat) : rd_up f j (f j) = f := by
  funext k
  by_cases e : k = j
  · rw [e, rd_us]
  · rw [rd_un e]
theorem rd_A0 : (fun _ => 0 : Nat → Int32) = rd_A (fun _ => 0) := funext fun _ => nI_0.symm
/-- the boolean array of a set of tasks -/
def rd_B (m : Nat) : Nat → Int32 := fun k => if m.testBit k = true then 1 else 0
def rd_cl (m k : Nat) : Nat := if m.testBit k = true then m - 2 ^ k else m
/-- the number of tasks -/
def rd_n (m : Nat) : Nat := (m.testBit 0).toNat + (m.testBit 1).toNat + (m.testBit 2).toNat + (m.testBit 3).toNat + (m.testBit 4).toNat
theorem rd_bit : ∀ m, m < 32 → ∀ k, k < 5 → ((nI m &&& ((1 : Int32) <<< (nI k &&& 31))) = 0 ↔ m.testBit k = false) := by decide +kernel
theorem rd_or : ∀ m, m < 32 → ∀ k, k < 5 → nI m ||| ((1 : Int32) <<< (nI k &&& 31)) = nI (m ||| 2 ^ k) := by decide +kernel
theorem rd_clr : ∀ m, m < 32 → ∀ k, k < 5 → nI m &&& (((1 : Int32) <<< (nI k &&& 31)) ^^^ (-1)) = nI (rd_cl m k) := by decide +kernel
theorem rd_orL : ∀ m, m < 32 → ∀ k, k < 5 → m ||| 2 ^ k < 32 := by decide +kernel
theorem rd_clL : ∀ m, m < 32 → ∀ k, k < 5 → rd_cl m k < 32 := by decide +kernel
theorem rd_orB : ∀ m, m < 32 → ∀ k, k < 5 → ∀ j, j < 5 → (m ||| 2 ^ k).testBit j = (m.testBit j || decide (j = k)) := by decide +kernel
theorem rd_clB : ∀ m, m < 32 → ∀ k, k < 5 → ∀ j, j < 5 → (rd_cl m k).testBit j = (m.testBit j && !decide (j = k)) := by decide +kernel
theorem rd_nor : ∀ m, m < 32 → ∀ k, k < 5 → m.testBit k = false → rd_n (m ||| 2 ^ k) = rd_n m + 1 := by decide +kernel
theorem rd_ncl : ∀ m, m < 32 → ∀ k, k < 5 → m.testBit k = true → rd_n (rd_cl m k) + 1 = rd_n m := by decide +kernel
theorem rd_n5 : ∀ m, m < 32 → rd_n m ≤ 5 ∧ (rd_n m = 5 → m = 31) := by decide +kernel
theorem rd_hi {m j : Nat} (hm : m < 32) (hj : 5 ≤ j) : m.testBit j = false :=
  Nat.testBit_lt_two_pow (Nat.lt_of_lt_of_le hm (Nat.pow_le_pow_right (n := 2) (by decide) hj))
theorem rd_mext {a b : Nat} (ha : a < 32) (hb : b < 32) (h : ∀ j, j < 5 → a.testBit j = b.testBit j) : a = b := by
  apply Nat.eq_of_testBit_eq
  intro i
  rcases Nat.lt_or_ge i 5 with hi | hi
  · exact h i hi
  · rw [rd_hi ha hi, rd_hi hb hi]
theorem rd_Bor {m k : Nat} (hm : m < 32) (hk : k < 5) : upd (rd_B m) k 1 = rd_B (m ||| 2 ^ k) := by
  funext j
  show (if j = k then 1 else if m.testBit j = true then 1 else 0) = if (m ||| 2 ^ k).testBit j = true then (1 : Int32) else 0
  rcases Nat.lt_or_ge j 5 with hj | hj
  · rw [rd_orB m hm k hk j hj]
    by_cases e : j = k
    · simp [e]
    · simp [e]
  · rw [rd_hi hm hj, rd_hi (rd_orL m hm k hk) hj, if_neg (by omega)]
theorem rd_Bcl {m k : Nat} (hm : m < 32) (hk : k < 5) : upd (rd_B m) k 0 = rd_B (rd_cl m k) := by
  funext j
  show (if j = k then 0 else if m.testBit j = true then 1 else 0) = if (rd_cl m k).testBit j = true then (1 : Int32) else 0
  rcases Nat.lt_or_ge j 5 with hj | hj
  · rw [rd_clB m hm k hk j hj]
    by_cases e : j = k
    · simp [e]
    · simp [e]
  · rw [rd_hi hm hj, rd_hi (rd_clL m hm k hk) hj, if_neg (by omega)]
theorem rd_B0 {m k : Nat} : rd_B m k = 0 ↔ m.testBit k = false := by
  unfold rd_B
  cases m.testBit k
  · simp
  · simp
/-! ===== one row of units ===== -/
/-- the work left once the jobs of unit t are there -/
def rd_rel (m : Nat) (c p : Nat → Nat) (t : Nat) (L : Nat → Nat) : Nat → Nat :=
  fun k => if m.testBit k = true ∧ t % p k = 0 then L k + c k else L k
/-- the first of the d tasks from place i on that has work -/
def rd_who (row L : Nat → Nat) : Nat → Nat → Option Nat
  | 0, _ => none
  | d + 1, i => if 0 < L (row i) then some (row i) else rd_who row L d (i + 1)
def rd_o : Option Nat → Int32
  | none => -1
  | some k => nI k
theorem rd_whoC {row L L' : Nat → Nat} : ∀ (d i : Nat), (∀ j, i ≤ j → j < i + d → L (row j) = L' (row j)) → rd_who row L d i = rd_who row L' d i := by
  intro d
  induction d with
  | zero => intro i h; rfl
  | succ d ih =>
    intro i h
    show (if 0 < L (row i) then some (row i) else rd_who row L d (i + 1)) = (if 0 < L' (row i) then some (row i) else rd_who row L' d (i + 1))
    rw [h i (Nat.le_refl i) (by omega), ih (i + 1) (fun j a b => h j (by omega) (by omega))]
theorem rd_whoR {row row' L : Nat → Nat} : ∀ (d i : Nat), (∀ j, i ≤ j → j < i + d → row j = row' j) → rd_who row L d i = rd_who row' L d i := by
  intro d
  induction d with
  | zero => intro i h; rfl
  | succ d ih =>
    intro i h
    show (if 0 < L (row i) then some (row i) else rd_who row L d (i + 1)) = (if 0 < L (row' i) then some (row' i) else rd_who row' L d (i + 1))
    rw [h i (Nat.le_refl i) (by omega), ih (i + 1) (fun j a b => h j (by omega) (by omega))]
theorem rd_whoIn {row L : Nat → Nat} {k : Nat} : ∀ (d i : Nat), rd_who row L d i = some k → 0 < L k ∧ ∃ j, i ≤ j ∧ j < i + d ∧ row j = k := by
  intro d
  induction d with
  | zero => intro i h; exact nomatch h
  | succ d ih =>
    intro i h
    by_cases z : 0 < L (row i)
    · have h' : some (row i) = some k := by rw [← h]; exact (if_pos z).symm
      have e : row i = k := Option.some.inj h'
      exact ⟨e ▸ z, i, Nat.le_refl i, by omega, e⟩
    · have h' : rd_who row L d (i + 1) = some k := by rw [← h]; exact (if_neg z).symm
      obtain ⟨a, j, h1, h2, h3⟩ := ih (i + 1) h'
      exact ⟨a, j, by omega, by omega, h3⟩
def rd_sim (m : Nat) (c p row : Nat → Nat) (n : Nat) : Nat → (Nat → Nat) × (Nat → Nat)
  | 0 => (fun _ => 0, fun _ => 0)
  | t + 1 => match rd_who row (rd_rel m c p t (rd_sim m c p row n t).1) n 0 with
    | none => (rd_rel m c p t (rd_sim m c p row n t).1, (rd_sim m c p row n t).2)
    | some k => (rd_up (rd_rel m c p t (rd_sim m c p row n t).1) k (rd_rel m c p t (rd_sim m c p row n t).1 k - 1), rd_up (rd_sim m c p row n t).2 k ((rd_sim m c p row n t).2 k + 1))
def rd_J (m : Nat) (c p row : Nat → Nat) (n t : Nat) : Nat → Nat := rd_rel m c p t (rd_sim m c p row n t).1
def rd_to (m : Nat) (c p row : Nat → Nat) (n t : Nat) : Option Nat := rd_who row (rd_J m c p row n t) n 0
/-- the unit count at which the first job of k is done, 0 if not within the first t units -/
def rd_fd (m : Nat) (c p row : Nat → Nat) (n : Nat) : Nat → Nat → Nat
  | 0, _ => 0
  | t + 1, k => if rd_to m c p row n t = some k ∧ (rd_sim m c p row n (t + 1)).2 k = c k then t + 1 else rd_fd m c p row n t k
def rd_idle (m : Nat) (c p row : Nat → Nat) (n : Nat) : Nat → Nat
  | 0 => 0
  | t + 1 => if rd_to m c p row n t = none then rd_idle m c p row n t + 1 else rd_idle m c p row n t
section
variable {m : Nat} {c p row : Nat → Nat} {n : Nat}
theorem rd_simN {t : Nat} (h : rd_to m c p row n t = none) : rd_sim m c p row n (t + 1) = (rd_J m c p row n t, (rd_sim m c p row n t).2) := by
  unfold rd_to rd_J at h
  rw [rd_sim, h]
  rfl
theorem rd_simS {t k : Nat} (h : rd_to m c p row n t = some k) : rd_sim m c p row n (t + 1) = (rd_up (rd_J m c p row n t) k (rd_J m c p row n t k - 1), rd_up (rd_sim m c p row n t).2 k ((rd_sim m c p row n t).2 k + 1)) := by
  unfold rd_to rd_J at h
  rw [rd_sim, h]
  rfl
theorem rd_bndJ {t B : Nat} (hc : ∀ k, m.testBit k = true → c k ≤ 15) (h : ∀ k, (rd_sim m c p row n t).1 k ≤ B) (k : Nat) : rd_J m c p row n t k ≤ B + 15 := by
  have hk := h k
  show (if m.testBit k = true ∧ t % p k = 0 then (rd_sim m c p row n t).1 k + c k else (rd_sim m c p row n t).1 k) ≤ B + 15
  by_cases e : m.testBit k = true ∧ t % p k = 0
  · have := hc k e.1
    rw [if_pos e]; omega
  · rw [if_neg e]; omega
theorem rd_bndL (hc : ∀ k, m.testBit k = true → c k ≤ 15) : ∀ t k, (rd_sim m c p row n t).1 k ≤ 15 * t := by
  intro t
  induction t with
  | zero => intro k; exact Nat.le_refl 0
  | succ t ih =>
    intro k
    have hJ := rd_bndJ (p := p) (row := row) (n := n) hc ih
    have hk := hJ k
    cases e : rd_to m c p row n t with
    | none => rw [rd_simN e]; show rd_J m c p row n t k ≤ _; omega
    | some q =>
      rw [rd_simS e]
      show rd_up (rd_J m c p row n t) q (rd_J m c p row n t q - 1) k ≤ _
      by_cases z : k = q
      · subst z; rw [rd_us]; omega
      · rw [rd_un z]; omega
theorem rd_bndG : ∀ t k, (rd_sim m c p row n t).2 k ≤ t := by
  intro t
  induction t with
  | zero => intro k; exact Nat.le_refl 0
  | succ t ih =>
    intro k
    have hk := ih k
    cases e : rd_to m c p row n t with
    | none => rw [rd_simN e]; show (rd_sim m c p row n t).2 k ≤ _; omega
    | some q =>
      rw [rd_simS e]
      show rd_up (rd_sim m c p row n t).2 q ((rd_sim m c p row n t).2 q + 1) k ≤ _
      by_cases z : k = q
      · subst z; rw [rd_us]; omega
      · rw [rd_un z]; omega
theorem rd_mono1 (t k : Nat) : (rd_sim m c p row n t).2 k ≤ (rd_sim m c p row n (t + 1)).2 k := by
  cases e : rd_to m c p row n t with
  | none => rw [rd_simN e]; exact Nat.le_refl _
  | some q =>
    rw [rd_simS e]
    show _ ≤ rd_up (rd_sim m c p row n t).2 q ((rd_sim m c p row n t).2 q + 1) k
    by_cases z : k = q
    · subst z; rw [rd_us]; omega
    · rw [rd_un z]; exact Nat.le_refl _
theorem rd_mono {s k : Nat} : ∀ d, (rd_sim m c p row n s).2 k ≤ (rd_sim m c p row n (s + d)).2 k := by
  intro d
  induction d with
  | zero => exact Nat.le_refl _
  | succ d ih => exact Nat.le_trans ih (rd_mono1 (s + d) k)
/-- the unit t is the last one of the first job of k -/
def rd_ev (m : Nat) (c p row : Nat → Nat) (n t k : Nat) : Prop := rd_to m c p row n t = some k ∧ (rd_sim m c p row n (t + 1)).2 k = c k
theorem rd_evG {t k : Nat} (h : rd_to m c p row n t = some k) : (rd_sim m c p row n (t + 1)).2 k = (rd_sim m c p row n t).2 k + 1 := by
  rw [rd_simS h]
  exact rd_us
theorem rd_ev1 {s t k : Nat} (hs : rd_ev m c p row n s k) (ht : rd_ev m c p row n t k) : ¬ s < t := by
  intro h
  have a := rd_mono (m := m) (c := c) (p := p) (row := row) (n := n) (s := s + 1) (k := k) (t - (s + 1))
  rw [show s + 1 + (t - (s + 1)) = t by omega, hs.2] at a
  have b := rd_evG ht.1
  rw [ht.2] at b
  omega
theorem rd_fdS : ∀ t k, (rd_fd m c p row n t k = 0 ∧ ∀ s, s < t → ¬ rd_ev m c p row n s k) ∨ (∃ s, s < t ∧ rd_fd m c p row n t k = s + 1 ∧ rd_ev m c p row n s k) := by
  intro t
  induction t with
  | zero => intro k; exact Or.inl ⟨rfl, fun s h => absurd h (Nat.not_lt_zero s)⟩
  | succ t ih =>
    intro k
    by_cases e : rd_ev m c p row n t k
    · exact Or.inr ⟨t, Nat.lt_succ_self t, if_pos e, e⟩
    · have f : rd_fd m c p row n (t + 1) k = rd_fd m c p row n t k := if_neg e
      rcases ih k with ⟨h0, h1⟩ | ⟨s, h1, h2, h3⟩
      · refine Or.inl ⟨f.trans h0, fun s hs => ?_⟩
        rcases Nat.lt_or_ge s t with h | h
        · exact h1 s h
        · rw [show s = t by omega]; exact e
      · exact Or.inr ⟨s, by omega, f.trans h2, h3⟩
/-- an event within t units is what rd_fd tells -/
theorem rd_fdE {s t k : Nat} (h : rd_ev m c p row n s k) (hs : s < t) : rd_fd m c p row n t k = s + 1 := by
  rcases rd_fdS (m := m) (c := c) (p := p) (row := row) (n := n) t k with ⟨_, h1⟩ | ⟨q, h1, h2, h3⟩
  · exact absurd h (h1 s hs)
  · have a := rd_ev1 h h3
    have b := rd_ev1 h3 h
    rw [h2]; omega
/-- no event before q: rd_fd tells none, or one beyond q -/
theorem rd_fdN {q t k : Nat} (h : ∀ s, s < q → ¬ rd_ev m c p row n s k) : rd_fd m c p row n t k = 0 ∨ q < rd_fd m c p row n t k := by
  rcases rd_fdS (m := m) (c := c) (p := p) (row := row) (n := n) t k with ⟨h0, _⟩ | ⟨s, _, h2, h3⟩
  · exact Or.inl h0
  · refine Or.inr ?_
    rcases Nat.lt_or_ge s q with z | z
    · exact absurd h3 (h s z)
    · rw [h2]; omega
theorem rd_fdB (t k : Nat) : rd_fd m c p row n t k ≤ t := by
  rcases rd_fdS (m := m) (c := c) (p := p) (row := row) (n := n) t k with ⟨h0, _⟩ | ⟨s, h1, h2, _⟩
  · omega
  · omega
theorem rd_idleB : ∀ t, rd_idle m c p row n t ≤ t := by
  intro t
  induction t with
  | zero => exact Nat.le_refl 0
  | succ t ih =>
    show (if rd_to m c p row n t = none then rd_idle m c p row n t + 1 else rd_idle m c p row n t) ≤ t + 1
    by_cases e : rd_to m c p row n t = none
    · rw [if_pos e]; omega
    · rw [if_neg e]; omega
end
/-- the answer of response -/
def rd_R (f q : Nat) : Int32 := if f = 0 ∨ q < f then -3 else nI f
/-- in time: f the first job's end, q the period, d the limit -/
def rd_ok (m : Nat) (c d p row : Nat → Nat) (n k : Nat) : Bool :=
  decide (rd_fd m c p row n 15 k ≠ 0 ∧ rd_fd m c p row n 15 k ≤ p k ∧ rd_fd m c p row n 15 k ≤ d k)
/-- the next ready unit q of a task with period p, at the head of unit t -/
def rd_nx (p t q : Nat) : Prop := q % p = 0 ∧ t ≤ q ∧ q < t + p
theorem rd_nx0 {p : Nat} (h : 0 < p) : rd_nx p 0 0 := ⟨Nat.zero_mod p, Nat.le_refl 0, by omega⟩
theorem rd_nxE {p t q : Nat} (h : rd_nx p t q) : q = t ↔ t % p = 0 := by
  obtain ⟨h1, h2, h3⟩ := h
  constructor
  · intro e; rw [← e]; exact h1
  · intro e
    have a : (q - t) % p = 0 := Nat.sub_mod_eq_zero_of_mod_eq (h1.trans e.symm)
    rw [Nat.mod_eq_of_lt (by omega)] at a
    omega
theorem rd_nxT {p t q : Nat} (hp : 0 < p) (h : rd_nx p t q) (e : q = t) : rd_nx p (t + 1) (t + p) := by
  obtain ⟨h1, h2, h3⟩ := h
  refine ⟨?_, by omega, by omega⟩
  rw [Nat.add_mod_right, ← e]
  exact h1
theorem rd_nxF {p t q : Nat} (h : rd_nx p t q) (e : q ≠ t) : rd_nx p (t + 1) q := by
  obtain ⟨h1, h2, h3⟩ := h
  exact ⟨h1, by omega, by omega⟩
end
section
/-! ===== the orders of the tasks of m in dictionary order (draft: not compiled yet) ===== -/
def rd_fac : Nat → Nat
  | 0 => 1
  | n + 1 => rd_fac n * (n + 1)
theorem rd_facB : ∀ n, n < 6 → rd_fac n ≤ 120 ∧ 0 < rd_fac n := by decide +kernel
/-- the skip-th task of m that used lacks, from k on (d to look at), q counted so far; 0 if there is none -/
def rd_unA (m used skip : Nat) : Nat → Nat → Nat → Nat
  | 0, _, _ => 0
  | d + 1, k, q => if m.testBit k = true ∧ used.testBit k = false then (if q = skip then k else rd_unA m used skip d (k + 1) (q + 1)) else rd_unA m used skip d (k + 1) q
def rd_unu (m used skip : Nat) : Nat := rd_unA m used skip 5 0 0
/-- block, rest and used after i places -/
def rd_ss (m n code : Nat) : Nat → Nat × Nat × Nat
  | 0 => (rd_fac n, code, 0)
  | i + 1 => ((rd_ss m n code i).1 / (n - i), (rd_ss m n code i).2.1 % ((rd_ss m n code i).1 / (n - i)),
      (rd_ss m n code i).2.2 ||| 2 ^ (rd_unu m (rd_ss m n code i).2.2 ((rd_ss m n code i).2.1 / ((rd_ss m n code i).1 / (n - i)))))
/-- the task at place i of the order with number code -/
def rd_pe (m code i : Nat) : Nat :=
  rd_unu m (rd_ss m (rd_n m) code i).2.2 ((rd_ss m (rd_n m) code i).2.1 / ((rd_ss m (rd_n m) code i).1 / (rd_n m - i)))
/-! the next order, as the desk finds it -/
/-- 1 + the last place i below the given one with tr i < tr (i + 1); 0 if there is none -/
def rd_ni (tr : Nat → Nat) : Nat → Nat
  | 0 => 0
  | i + 1 => if tr (i + 1) < tr i then rd_ni tr i else i + 1
def rd_nj (tr : Nat → Nat) (i : Nat) : Nat → Nat
  | 0 => 0
  | j + 1 => if i < j + 1 ∧ tr (j + 1) < tr i then rd_nj tr i j else j + 1
def rd_sw (tr : Nat → Nat) (i j : Nat) : Nat → Nat := rd_up (rd_up tr i (tr j)) j (tr i)
/-- turned round between low and high (f: fuel) -/
def rd_rev : Nat → (Nat → Nat) → Nat → Nat → Nat → Nat
  | 0, tr, _, _ => tr
  | f + 1, tr, low, high => if low < high then rd_rev f (rd_sw tr low high) (low + 1) (high - 1) else tr
def rd_next (n : Nat) (tr : Nat → Nat) : Nat → Nat :=
  if rd_ni tr (n - 1) = 0 then tr
  else rd_rev 5 (rd_sw tr (rd_ni tr (n - 1) - 1) (rd_nj tr (rd_ni tr (n - 1) - 1) (n - 1))) (rd_ni tr (n - 1)) (n - 1)
/-! the tables -/
theorem rd_peIn : ∀ m, m < 32 → ∀ code, code < rd_fac (rd_n m) → ∀ i, i < rd_n m → rd_pe m code i < 5 ∧ m.testBit (rd_pe m code i) = true := by decide +kernel
theorem rd_peInj : ∀ m, m < 32 → ∀ code, code < rd_fac (rd_n m) → ∀ i, i < rd_n m → ∀ j, j < i → rd_pe m code j ≠ rd_pe m code i := by decide +kernel
theorem rd_peSur : ∀ m, m < 32 → ∀ code, code < rd_fac (rd_n m) → ∀ k, k < 5 → m.testBit k = true → (List.range (rd_n m)).any (fun i => rd_pe m code i == k) = true := by decide +kernel
theorem rd_peNext : ∀ m, m < 32 → ∀ code, code < rd_fac (rd_n m) → code + 1 < rd_fac (rd_n m) → ∀ i, i < rd_n m → rd_next (rd_n m) (rd_pe m code) i = rd_pe m (code + 1) i := by decide +kernel
/-- the first order: the tasks by their numbers; after k numbers q are placed -/
def rd_ft (m : Nat) (tr : Nat → Nat) : Nat → (Nat → Nat) × Nat
  | 0 => (tr, 0)
  | k + 1 => if m.testBit k = true then (rd_up (rd_ft m tr k).1 (rd_ft m tr k).2 k, (rd_ft m tr k).2 + 1) else rd_ft m tr k
theorem rd_ftC (m : Nat) (tr : Nat → Nat) : ∀ k, (rd_ft m tr k).2 = (rd_ft m (fun _ => 0) k).2 ∧ ∀ i, i < (rd_ft m tr k).2 → (rd_ft m tr k).1 i = (rd_ft m (fun _ => 0) k).1 i := by
  intro k
  induction k with
  | zero => exact ⟨rfl, fun i h => absurd h (Nat.not_lt_zero i)⟩
  | succ k ih =>
    by_cases e : m.testBit k = true
    · have a : rd_ft m tr (k + 1) = (rd_up (rd_ft m tr k).1 (rd_ft m tr k).2 k, (rd_ft m tr k).2 + 1) := if_pos e
      have b : rd_ft m (fun _ => 0) (k + 1) = (rd_up (rd_ft m (fun _ => 0) k).1 (rd_ft m (fun _ => 0) k).2 k, (rd_ft m (fun _ => 0) k).2 + 1) := if_pos e
      rw [a, b]
      refine ⟨congrArg (· + 1) ih.1, fun i hi => ?_⟩
      show rd_up (rd_ft m tr k).1 (rd_ft m tr k).2 k i = rd_up (rd_ft m (fun _ => 0) k).1 (rd_ft m (fun _ => 0) k).2 k i
      by_cases z : i = (rd_ft m tr k).2
      · rw [z, rd_us, ih.1, rd_us]
      · rw [rd_un z, rd_un (by rw [← ih.1]; exact z)]
        exact ih.2 i (by have : i < (rd_ft m tr k).2 + 1 := hi; omega)
    · have a : rd_ft m tr (k + 1) = rd_ft m tr k := if_neg e
      have b : rd_ft m (fun _ => 0) (k + 1) = rd_ft m (fun _ => 0) k := if_neg e
      rw [a, b]
      exact ih
theorem rd_ft0 : ∀ m, m < 32 → (rd_ft m (fun _ => 0) 5).2 = rd_n m ∧ ∀ i, i < rd_n m → (rd_ft m (fun _ => 0) 5).1 i = rd_pe m 0 i := by decide +kernel
theorem rd_ftB : ∀ m, m < 32 → ∀ k, k < 5 → m.testBit k = true → (rd_ft m (fun _ => 0) k).2 < 5 := by decide +kernel
/-! rd_next looks at the first n places alone -/
theorem rd_niC {f g : Nat → Nat} : ∀ i, (∀ j, j ≤ i → f j = g j) → rd_ni f i = rd_ni g i := by
  intro i
  induction i with
  | zero => intro h; rfl
  | succ i ih =>
    intro h
    show (if f (i + 1) < f i then rd_ni f i else i + 1) = (if g (i + 1) < g i then rd_ni g i else i + 1)
    rw [h (i + 1) (Nat.le_refl _), h i (by omega), ih (fun j hj => h j (by omega))]
theorem rd_niB (f : Nat → Nat) : ∀ i, rd_ni f i ≤ i := by
  intro i
  induction i with
  | zero => exact Nat.le_refl 0
  | succ i ih =>
    show (if f (i + 1) < f i then rd_ni f i else i + 1) ≤ i + 1
    by_cases e : f (i + 1) < f i
    · rw [if_pos e]; omega
    · rw [if_neg e]; exact Nat.le_refl _
theorem rd_njC {f g : Nat → Nat} {q : Nat} (hq : f q = g q) : ∀ i, (∀ j, j ≤ i → f j = g j) → rd_nj f q i = rd_nj g q i := by
  intro i
  induction i with
  | zero => intro h; rfl
  | succ i ih =>
    intro h
    show (if q < i + 1 ∧ f (i + 1) < f q then rd_nj f q i else i + 1) = (if q < i + 1 ∧ g (i + 1) < g q then rd_nj g q i else i + 1)
    rw [h (i + 1) (Nat.le_refl _), hq, ih (fun j hj => h j (by omega))]
theorem rd_njB (f : Nat → Nat) (q : Nat) : ∀ i, rd_nj f q i ≤ i := by
  intro i
  induction i with
  | zero => exact Nat.le_refl 0
  | succ i ih =>
    show (if q < i + 1 ∧ f (i + 1) < f q then rd_nj f q i else i + 1) ≤ i + 1
    by_cases e : q < i + 1 ∧ f (i + 1) < f q
    · rw [if_pos e]; omega
    · rw [if_neg e]; exact Nat.le_refl _
theorem rd_swC {f g : Nat → Nat} {n i j : Nat} (hi : i < n) (hj : j < n) (h : ∀ q, q < n → f q = g q) : ∀ q, q < n → rd_sw f i j q = rd_sw g i j q := by
  intro q hq
  show rd_up (rd_up f i (f j)) j (f i) q = rd_up (rd_up g i (g j)) j (g i) q
  by_cases e : q = j
  · rw [e, rd_us, rd_us]; exact h i hi
  · rw [rd_un e, rd_un e]
    by_cases z : q = i
    · rw [z, rd_us, rd_us]; exact h j hj
    · rw [rd_un z, rd_un z]; exact h q hq
theorem rd_revC {n : Nat} : ∀ (d : Nat) (f g : Nat → Nat) (low high : Nat), high < n → (∀ q, q < n → f q = g q) → ∀ q, q < n → rd_rev d f low high q = rd_rev d g low high q := by
  intro d
  induction d with
  | zero => intro f g low high _ h q hq; exact h q hq
  | succ d ih =>
    intro f g low high hh h q hq
    show (if low < high then rd_rev d (rd_sw f low high) (low + 1) (high - 1) else f) q = (if low < high then rd_rev d (rd_sw g low high) (low + 1) (high - 1) else g) q
    by_cases e : low < high
    · rw [if_pos e, if_pos e]
      exact ih _ _ _ _ (by omega) (rd_swC (by omega) hh h) q hq
    · rw [if_neg e, if_neg e]; exact h q hq
theorem rd_nextC {f g : Nat → Nat} {n : Nat} (hn : 0 < n) (h : ∀ q, q < n → f q = g q) : ∀ q, q < n → rd_next n f q = rd_next n g q := by
  intro q hq
  have e : rd_ni f (n - 1) = rd_ni g (n - 1) := rd_niC (n - 1) (fun j hj => h j (by omega))
  have b := rd_niB g (n - 1)
  unfold rd_next
  rw [e]
  by_cases z : rd_ni g (n - 1) = 0
  · rw [if_pos z, if_pos z]; exact h q hq
  · rw [if_neg z, if_neg z]
    have e2 : rd_nj f (rd_ni g (n - 1) - 1) (n - 1) = rd_nj g (rd_ni g (n - 1) - 1) (n - 1) := rd_njC (h _ (by omega)) (n - 1) (fun j hj => h j (by omega))
    have b2 := rd_njB g (rd_ni g (n - 1) - 1) (n - 1)
    rw [e2]
    exact rd_revC 5 _ _ _ _ (by omega) (rd_swC (by omega) (by omega) h) q hq
end
section
/-! ===== the well-formed state; taking out and putting in; searches (draft: not compiled yet) ===== -/
/-- row lists the tasks of m, each once -/
def rd_Row (m n : Nat) (row : Nat → Nat) : Prop :=
  (∀ i, i < n → row i < 5 ∧ m.testBit (row i) = true) ∧ (∀ i, i < n → ∀ j, j < n → row i = row j → i = j) ∧ (∀ k, k < 5 → m.testBit k = true → ∃ i, i < n ∧ row i = k)
def rd_Num (m : Nat) (c d p : Nat → Nat) : Prop := ∀ k, m.testBit k = true → 1 ≤ c k ∧ c k ≤ d k ∧ d k ≤ p k ∧ p k ≤ 15
def rd_WF (m n : Nat) (c d p o : Nat → Nat) : Prop := m < 32 ∧ n = rd_n m ∧ rd_Row m n o ∧ rd_Num m c d p
theorem rd_peRow {m code : Nat} (hm : m < 32) (hc : code < rd_fac (rd_n m)) : rd_Row m (rd_n m) (rd_pe m code) := by
  refine ⟨fun i hi => rd_peIn m hm code hc i hi, fun i hi j hj e => ?_, fun k hk hb => ?_⟩
  · rcases Nat.lt_trichotomy i j with h | h | h
    · exact absurd e (rd_peInj m hm code hc j hj i h)
    · exact h
    · exact absurd e.symm (rd_peInj m hm code hc i hi j h)
  · have h := rd_peSur m hm code hc k hk hb
    rw [List.any_eq_true] at h
    obtain ⟨i, hi, e⟩ := h
    exact ⟨i, List.mem_range.mp hi, eq_of_beq e⟩
theorem rd_RowC {m n : Nat} {f g : Nat → Nat} (h : ∀ i, i < n → f i = g i) (H : rd_Row m n f) : rd_Row m n g := by
  obtain ⟨h1, h2, h3⟩ := H
  refine ⟨fun i hi => by rw [← h i hi]; exact h1 i hi, fun i hi j hj e => h2 i hi j hj (by rw [h i hi, h j hj]; exact e), fun k hk hb => ?_⟩
  obtain ⟨i, hi, e⟩ := h3 k hk hb
  exact ⟨i, hi, by rw [← h i hi]; exact e⟩
/-- the place j taken out of n -/
def rd_take (o : Nat → Nat) (n j : Nat) : Nat → Nat := fun i => if j ≤ i ∧ i + 1 < n then o (i + 1) else o i
/-- k put in at place i of n -/
def rd_put (o : Nat → Nat) (n k i : Nat) : Nat → Nat := fun q => if q = i then k else if i < q ∧ q ≤ n then o (q - 1) else o q
theorem rd_takeRow {m n j k : Nat} {o : Nat → Nat} (hm : m < 32) (H : rd_Row m (n + 1) o) (hj : j < n + 1) (hk : o j = k) : rd_Row (rd_cl m k) n (rd_take o (n + 1) j) := by
  obtain ⟨h1, h2, h3⟩ := H
  have hk5 : k < 5 := hk ▸ (h1 j hj).1
  have lo : ∀ i, i < n → i < j → rd_take o (n + 1) j i = o i := fun i hi h => if_neg (by omega)
  have hi' : ∀ i, i < n → j ≤ i → rd_take o (n + 1) j i = o (i + 1) := fun i hi h => if_pos ⟨h, by omega⟩
  have key : ∀ i, i < n → ∃ q, q < n + 1 ∧ q ≠ j ∧ rd_take o (n + 1) j i = o q ∧ (q = i ∧ i < j ∨ q = i + 1 ∧ j ≤ i) := by
    intro i hi
    rcases Nat.lt_or_ge i j with h | h
    · exact ⟨i, by omega, by omega, lo i hi h, Or.inl ⟨rfl, h⟩⟩
    · exact ⟨i + 1, by omega, by omega, hi' i hi h, Or.inr ⟨rfl, h⟩⟩
  refine ⟨fun i hi => ?_, fun a ha b hb e => ?_, fun q hq hb => ?_⟩
  · obtain ⟨q, hq, hne, e, _⟩ := key i hi
    rw [e]
    refine ⟨(h1 q hq).1, ?_⟩
    rw [rd_clB m hm k hk5 _ (h1 q hq).1, (h1 q hq).2]
    have : o q ≠ k := fun z => hne (h2 q hq j hj (z.trans hk.symm))
    simp [this]
  · obtain ⟨x, hx, _, ex, cx⟩ := key a ha
    obtain ⟨y, hy, _, ey, cy⟩ := key b hb
    have := h2 x hx y hy (by rw [← ex, ← ey]; exact e)
    omega
  · rw [rd_clB m hm k hk5 q hq] at hb
    have hb1 : m.testBit q = true := by
      cases z : m.testBit q with
      | true => rfl
      | false => rw [z] at hb; exact nomatch hb
    have hne : q ≠ k := by
      intro z
      rw [z] at hb
      simp at hb
    obtain ⟨i, hi, e⟩ := h3 q hq hb1
    have hij : i ≠ j := fun z => hne (by rw [← e, z, hk])
    rcases Nat.lt_or_ge i j with h | h
    · exact ⟨i, by omega, (lo i (by omega) h).trans e⟩
    · exact ⟨i - 1, by omega, (hi' (i - 1) (by omega) (by omega)).trans (by rw [show i - 1 + 1 = i by omega]; exact e)⟩
theorem rd_putRow {m n k i : Nat} {o : Nat → Nat} (hm : m < 32) (H : rd_Row m n o) (hk : k < 5) (hf : m.testBit k = false) (hi : i ≤ n) : rd_Row (m ||| 2 ^ k) (n + 1) (rd_put o n k i) := by
  obtain ⟨h1, h2, h3⟩ := H
  have hat : rd_put o n k i i = k := if_pos rfl
  have lo : ∀ q, q < i → rd_put o n k i q = o q := fun q h => by
    show (if q = i then k else if i < q ∧ q ≤ n then o (q - 1) else o q) = o q
    rw [if_neg (by omega), if_neg (by omega)]
  have hi' : ∀ q, i < q → q ≤ n → rd_put o n k i q = o (q - 1) := fun q h h' => by
    show (if q = i then k else if i < q ∧ q ≤ n then o (q - 1) else o q) = o (q - 1)
    rw [if_neg (by omega), if_pos ⟨h, h'⟩]
  have key : ∀ q, q < n + 1 → q = i ∨ ∃ x, x < n ∧ rd_put o n k i q = o x ∧ (x = q ∧ q < i ∨ x + 1 = q ∧ i < q) := by
    intro q hq
    rcases Nat.lt_trichotomy q i with h | h | h
    · exact Or.inr ⟨q, by omega, lo q h, Or.inl ⟨rfl, h⟩⟩
    · exact Or.inl h
    · exact Or.inr ⟨q - 1, by omega, hi' q h (by omega), Or.inr ⟨by omega, h⟩⟩
  have ne : ∀ x, x < n → o x ≠ k := by
    intro x hx e
    have := (h1 x hx).2
    rw [e, hf] at this
    exact nomatch this
  refine ⟨fun q hq => ?_, fun a ha b hb e => ?_, fun q hq hb => ?_⟩
  · rcases key q hq with z | ⟨x, hx, e, _⟩
    · rw [z, hat]
      exact ⟨hk, by rw [rd_orB m hm k hk k hk]; simp⟩
    · rw [e]
      exact ⟨(h1 x hx).1, by rw [rd_orB m hm k hk _ (h1 x hx).1, (h1 x hx).2]; rfl⟩
  · rcases key a ha with za | ⟨x, hx, ex, cx⟩
    · rcases key b hb with zb | ⟨y, hy, ey, cy⟩
      · omega
      · rw [za, hat, ey] at e
        exact absurd e.symm (ne y hy)
    · rcases key b hb with zb | ⟨y, hy, ey, cy⟩
      · rw [zb, hat, ex] at e
        exact absurd e (ne x hx)
      · have := h2 x hx y hy (by rw [← ex, ← ey]; exact e)
        omega
  · by_cases z : q = k
    · exact ⟨i, by omega, hat.trans z.symm⟩
    · rw [rd_orB m hm k hk q hq] at hb
      have hb1 : m.testBit q = true := by
        cases y : m.testBit q with
        | true => rfl
        | false => rw [y] at hb; simp [z] at hb
      obtain ⟨x, hx, e⟩ := h3 q hq hb1
      rcases Nat.lt_or_ge x i with h | h
      · exact ⟨x, by omega, (lo x h).trans e⟩
      · exact ⟨x + 1, by omega, (hi' (x + 1) (by omega) (by omega)).trans e⟩
/-! the tasks in time -/
/-- by places, as the desk does -/
def rd_tx (f : Nat → Bool) (row : Nat → Nat) : Nat → Nat
  | 0 => 0
  | i + 1 => if f (row i) = true then rd_tx f row i ||| 2 ^ row i else rd_tx f row i
/-- by numbers, as the reference does -/
def rd_ty (f : Nat → Bool) (m : Nat) : Nat → Nat
  | 0 => 0
  | k + 1 => if m.testBit k = true ∧ f k = true then rd_ty f m k ||| 2 ^ k else rd_ty f m k
theorem rd_txB {f : Nat → Bool} {row : Nat → Nat} : ∀ i, (∀ j, j < i → row j < 5) → rd_tx f row i < 32 ∧ ∀ k, k < 5 → ((rd_tx f row i).testBit k = true ↔ f k = true ∧ ∃ j, j < i ∧ row j = k) := by
  intro i
  induction i with
  | zero =>
    intro h
    refine ⟨show (0 : Nat) < 32 by decide, fun k hk => ⟨fun z => ?_, fun z => ?_⟩⟩
    · have : (0 : Nat).testBit k = true := z
      rw [Nat.zero_testBit] at this
      exact nomatch this
    · obtain ⟨_, j, hj, _⟩ := z
      exact absurd hj (Nat.not_lt_zero j)
  | succ i ih =>
    intro h
    obtain ⟨b, H⟩ := ih (fun j hj => h j (by omega))
    have hr := h i (Nat.lt_succ_self i)
    by_cases e : f (row i) = true
    · have a : rd_tx f row (i + 1) = rd_tx f row i ||| 2 ^ row i := if_pos e
      rw [a]
      refine ⟨rd_orL _ b _ hr, fun k hk => ?_⟩
      rw [rd_orB _ b _ hr k hk, Bool.or_eq_true, H k hk, decide_eq_true_eq]
      constructor
      · rintro (⟨h1, j, h2, h3⟩ | h1)
        · exact ⟨h1, j, by omega, h3⟩
        · rw [h1]; exact ⟨e, i, by omega, rfl⟩
      · rintro ⟨h1, j, h2, h3⟩
        rcases Nat.lt_or_ge j i with z | z
        · exact Or.inl ⟨h1, j, z, h3⟩
        · rw [show j = i by omega] at h3
          exact Or.inr h3.symm
    · have a : rd_tx f row (i + 1) = rd_tx f row i := if_neg e
      rw [a]
      refine ⟨b, fun k hk => ?_⟩
      rw [H k hk]
      constructor
      · rintro ⟨h1, j, h2, h3⟩
        exact ⟨h1, j, by omega, h3⟩
      · rintro ⟨h1, j, h2, h3⟩
        rcases Nat.lt_or_ge j i with z | z
        · exact ⟨h1, j, z, h3⟩
        · rw [show j = i by omega] at h3
          rw [h3] at e
          exact absurd h1 e
theorem rd_tyB {f : Nat → Bool} {m : Nat} : ∀ i, i ≤ 5 → rd_ty f m i < 32 ∧ ∀ k, k < 5 → ((rd_ty f m i).testBit k = true ↔ (m.testBit k = true ∧ f k = true) ∧ k < i) := by
  intro i
  induction i with
  | zero =>
    intro h
    refine ⟨show (0 : Nat) < 32 by decide, fun k hk => ⟨fun z => ?_, fun z => absurd z.2 (Nat.not_lt_zero k)⟩⟩
    have : (0 : Nat).testBit k = true := z
    rw [Nat.zero_testBit] at this
    exact nomatch this
  | succ i ih =>
    intro h
    obtain ⟨b, H⟩ := ih (by omega)
    have hr : i < 5 := by omega
    by_cases e : m.testBit i = true ∧ f i = true
    · have a : rd_ty f m (i + 1) = rd_ty f m i ||| 2 ^ i := if_pos e
      rw [a]
      refine ⟨rd_orL _ b _ hr, fun k hk => ?_⟩
      rw [rd_orB _ b _ hr k hk, Bool.or_eq_true, H k hk, decide_eq_true_eq]
      constructor
      · rintro (⟨h1, h2⟩ | h1)
        · exact ⟨h1, by omega⟩
        · rw [h1]; exact ⟨e, by omega⟩
      · rintro ⟨h1, h2⟩
        rcases Nat.lt_or_ge k i with z | z
        · exact Or.inl ⟨h1, z⟩
        · exact Or.inr (by omega)
    · have a : rd_ty f m (i + 1) = rd_ty f m i := if_neg e
      rw [a]
      refine ⟨b, fun k hk => ?_⟩
      rw [H k hk]
      constructor
      · rintro ⟨h1, h2⟩
        exact ⟨h1, by omega⟩
      · rintro ⟨h1, h2⟩
        rcases Nat.lt_or_ge k i with z | z
        · exact ⟨h1, z⟩
        · rw [show k = i by omega] at h1
          exact absurd h1 e
theorem rd_txty {f : Nat → Bool} {m n : Nat} {row : Nat → Nat} (H : rd_Row m n row) : rd_tx f row n = rd_ty f m 5 := by
  obtain ⟨h1, h2, h3⟩ := H
  obtain ⟨a, A⟩ := rd_txB (f := f) (row := row) n (fun j hj => (h1 j hj).1)
  obtain ⟨b, B⟩ := rd_tyB (f := f) (m := m) 5 (Nat.le_refl 5)
  apply rd_mext a b
  intro k hk
  apply Bool.eq_iff_iff.mpr
  rw [A k hk, B k hk]
  constructor
  · rintro ⟨x, j, hj, e⟩
    exact ⟨⟨e ▸ (h1 j hj).2, x⟩, hk⟩
  · rintro ⟨⟨x, y⟩, _⟩
    exact ⟨y, h3 k hk x⟩
/-- all tasks of m below i have f -/
def rd_all (f : Nat → Bool) (m : Nat) : Nat → Bool
  | 0 => true
  | k + 1 => rd_all f m k && (!m.testBit k || f k)
theorem rd_allS {f : Nat → Bool} {m : Nat} : ∀ i, rd_all f m i = true ↔ ∀ k, k < i → m.testBit k = true → f k = true := by
  intro i
  induction i with
  | zero => exact ⟨fun _ k h => absurd h (Nat.not_lt_zero k), fun _ => rfl⟩
  | succ i ih =>
    show (rd_all f m i && (!m.testBit i || f i)) = true ↔ _
    rw [Bool.and_eq_true, ih]
    constructor
    · rintro ⟨h1, h2⟩ k hk hb
      rcases Nat.lt_or_ge k i with z | z
      · exact h1 k z hb
      · rw [show k = i by omega] at hb ⊢
        rw [hb] at h2
        simpa using h2
    · intro h
      refine ⟨fun k hk hb => h k (by omega) hb, ?_⟩
      cases z : m.testBit i with
      | false => rfl
      | true => rw [h i (by omega) z]; rfl
theorem rd_txAll {f : Nat → Bool} {m n : Nat} {row : Nat → Nat} (hm : m < 32) (H : rd_Row m n row) : rd_tx f row n = m ↔ rd_all f m 5 = true := by
  rw [rd_txty H, rd_allS]
  obtain ⟨b, B⟩ := rd_tyB (f := f) (m := m) 5 (Nat.le_refl 5)
  constructor
  · intro e k hk hb
    rw [← e] at hb
    exact ((B k hk).mp hb).1.2
  · intro h
    apply rd_mext b hm
    intro k hk
    apply Bool.eq_iff_iff.mpr
    rw [B k hk]
    exact ⟨fun z => z.1.1, fun z => ⟨⟨z, h k hk z⟩, hk⟩⟩
/-! searches -/
/-- the number of i < e with f -/
def rd_cnt (f : Nat → Bool) : Nat → Nat
  | 0 => 0
  | i + 1 => if f i = true then rd_cnt f i + 1 else rd_cnt f i
theorem rd_cntB (f : Nat → Bool) : ∀ i, rd_cnt f i ≤ i := by
  intro i
  induction i with
  | zero => exact Nat.le_refl 0
  | succ i ih =>
    show (if f i = true then rd_cnt f i + 1 else rd_cnt f i) ≤ i + 1
    by_cases e : f i = true
    · rw [if_pos e]; omega
    · rw [if_neg e]; omega
/-- the set of e i for i with f -/
def rd_ls (f : Nat → Bool) (e : Nat → Nat) : Nat → Nat
  | 0 => 0
  | i + 1 => if f i = true then rd_ls f e i ||| 2 ^ e i else rd_ls f e i
/-- the greatest i from 1 up to d with f, 0 if there is none -/
def rd_last (f : Nat → Bool) : Nat → Nat
  | 0 => 0
  | i + 1 => if f (i + 1) = true then i + 1 else rd_last f i
/-- the least i from a on (e to look at) with f, 0 if there is none -/
def rd_frst (f : Nat → Bool) : Nat → Nat → Nat
  | 0, _ => 0
  | e + 1, a => if f a = true then a else rd_frst f e (a + 1)
/-- whether the order row is good -/
def rd_good (m : Nat) (c d p row : Nat → Nat) (n : Nat) : Bool := rd_all (rd_ok m c d p row n) m 5
end
section
/-! ===== rows that agree in n places; positions; copies; shifts (draft: not compiled yet) ===== -/
section
variable {m : Nat} {c d p : Nat → Nat} {row row' : Nat → Nat} {n : Nat}
theorem rd_simR (h : ∀ j, j < n → row j = row' j) : ∀ t, rd_sim m c p row n t = rd_sim m c p row' n t := by
  intro t
  induction t with
  | zero => rfl
  | succ t ih =>
    have e : rd_to m c p row n t = rd_to m c p row' n t := by
      show rd_who row (rd_rel m c p t (rd_sim m c p row n t).1) n 0 = rd_who row' (rd_rel m c p t (rd_sim m c p row' n t).1) n 0
      rw [ih]
      exact rd_whoR n 0 (fun j _ hj => h j (by omega))
    have eJ : rd_J m c p row n t = rd_J m c p row' n t := by
      show rd_rel m c p t (rd_sim m c p row n t).1 = rd_rel m c p t (rd_sim m c p row' n t).1
      rw [ih]
    cases z : rd_to m c p row n t with
    | none => rw [rd_simN z, rd_simN (e.symm.trans z), eJ, ih]
    | some k => rw [rd_simS z, rd_simS (e.symm.trans z), eJ, ih]
theorem rd_toR (h : ∀ j, j < n → row j = row' j) (t : Nat) : rd_to m c p row n t = rd_to m c p row' n t := by
  show rd_who row (rd_rel m c p t (rd_sim m c p row n t).1) n 0 = rd_who row' (rd_rel m c p t (rd_sim m c p row' n t).1) n 0
  rw [rd_simR h]
  exact rd_whoR n 0 (fun j _ hj => h j (by omega))
theorem rd_fdR (h : ∀ j, j < n → row j = row' j) (t k : Nat) : rd_fd m c p row n t k = rd_fd m c p row' n t k := by
  induction t with
  | zero => rfl
  | succ t ih =>
    show (if rd_to m c p row n t = some k ∧ (rd_sim m c p row n (t + 1)).2 k = c k then t + 1 else rd_fd m c p row n t k) = (if rd_to m c p row' n t = some k ∧ (rd_sim m c p row' n (t + 1)).2 k = c k then t + 1 else rd_fd m c p row' n t k)
    rw [rd_toR h, rd_simR h, ih]
theorem rd_okR (h : ∀ j, j < n → row j = row' j) : rd_ok m c d p row n = rd_ok m c d p row' n := by
  funext k
  unfold rd_ok
  rw [rd_fdR h]
theorem rd_goodR (h : ∀ j, j < n → row j = row' j) : rd_good m c d p row n = rd_good m c d p row' n := by
  unfold rd_good
  rw [rd_okR h]
/-- whom a unit is given is a task of the row -/
theorem rd_toIn {t k : Nat} (h : rd_to m c p row n t = some k) : 0 < rd_J m c p row n t k ∧ ∃ j, j < n ∧ row j = k := by
  obtain ⟨a, j, _, h2, h3⟩ := rd_whoIn n 0 h
  exact ⟨a, j, by omega, h3⟩
end
theorem rd_txR {f : Nat → Bool} {row row' : Nat → Nat} : ∀ i, (∀ j, j < i → row j = row' j) → rd_tx f row i = rd_tx f row' i := by
  intro i
  induction i with
  | zero => intro h; rfl
  | succ i ih =>
    intro h
    show (if f (row i) = true then rd_tx f row i ||| 2 ^ row i else rd_tx f row i) = (if f (row' i) = true then rd_tx f row' i ||| 2 ^ row' i else rd_tx f row' i)
    rw [h i (Nat.lt_succ_self i), ih (fun j hj => h j (by omega))]
/-- a truth value as the machine holds it -/
def rd_b (x : Bool) : Int32 := if x = true then 1 else 0
theorem rd_bt {x : Bool} (h : x = true) : rd_b x = 1 := if_pos h
theorem rd_bf {x : Bool} (h : ¬ x = true) : rd_b x = 0 := if_neg h
/-! positions -/
theorem rd_pos {m n : Nat} {o : Nat → Nat} (H : rd_Row m n o) {k : Nat} (hk : k < 5) (hb : m.testBit k = true) : ∃ j, j < n ∧ o j = k ∧ (∀ i, i < n → i ≠ j → o i ≠ k) := by
  obtain ⟨h1, h2, h3⟩ := H
  obtain ⟨j, hj, e⟩ := h3 k hk hb
  exact ⟨j, hj, e, fun i hi ne z => ne (h2 i hi j hj (z.trans e.symm))⟩
/-- the first n places of src over o -/
def rd_cp (o src : Nat → Nat) (n : Nat) : Nat → Nat := fun i => if i < n then src i else o i
theorem rd_cp0 (o src : Nat → Nat) : rd_cp o src 0 = o := funext fun i => if_neg (Nat.not_lt_zero i)
theorem rd_cpS (o src : Nat → Nat) (i : Nat) : rd_up (rd_cp o src i) i (src i) = rd_cp o src (i + 1) := by
  funext q
  show (if q = i then src i else if q < i then src q else o q) = if q < i + 1 then src q else o q
  by_cases e : q = i
  · rw [if_pos e, if_pos (by omega), e]
  · rw [if_neg e]
    by_cases z : q < i
    · rw [if_pos z, if_pos (by omega)]
    · rw [if_neg z, if_neg (by omega)]
theorem rd_cpC {o src src' : Nat → Nat} {n : Nat} (h : ∀ i, i < n → src i = src' i) : rd_cp o src n = rd_cp o src' n := by
  funext q
  show (if q < n then src q else o q) = if q < n then src' q else o q
  by_cases e : q < n
  · rw [if_pos e, if_pos e, h q e]
  · rw [if_neg e, if_neg e]
theorem rd_cpI {o src : Nat → Nat} {n i : Nat} (h : i < n) : rd_cp o src n i = src i := if_pos h
/-! taking out: the desk's steps -/
theorem rd_tkLo {o : Nat → Nat} {i j : Nat} (h : i ≤ j + 1) : rd_take o i j = o := funext fun q => if_neg (by omega)
theorem rd_tkHi {o : Nat → Nat} {i j : Nat} (h : j < i) : rd_up (rd_take o i j) (i - 1) (o i) = rd_take o (i + 1) j := by
  funext q
  show (if q = i - 1 then o i else if j ≤ q ∧ q + 1 < i then o (q + 1) else o q) = if j ≤ q ∧ q + 1 < i + 1 then o (q + 1) else o q
  by_cases e : q = i - 1
  · rw [if_pos e, if_pos (by omega), show q + 1 = i by omega]
  · rw [if_neg e]
    by_cases z : j ≤ q ∧ q + 1 < i
    · rw [if_pos z, if_pos (by omega)]
    · rw [if_neg z, if_neg (by omega)]
theorem rd_tkAt {o : Nat → Nat} {i j : Nat} : rd_take o i j i = o i := if_neg (by omega)
/-! putting in -/
def rd_shr (o : Nat → Nat) (n i : Nat) : Nat → Nat := fun q => if i < q ∧ q ≤ n then o (q - 1) else o q
theorem rd_shr0 (o : Nat → Nat) (n : Nat) : rd_shr o n n = o := funext fun q => if_neg (by omega)
theorem rd_shrS {o : Nat → Nat} {n i : Nat} (h : i + 1 ≤ n) : rd_up (rd_shr o n (i + 1)) (i + 1) (rd_shr o n (i + 1) i) = rd_shr o n i := by
  funext q
  have a : rd_shr o n (i + 1) i = o i := if_neg (by omega)
  rw [a]
  show (if q = i + 1 then o i else if i + 1 < q ∧ q ≤ n then o (q - 1) else o q) = if i < q ∧ q ≤ n then o (q - 1) else o q
  by_cases e : q = i + 1
  · rw [if_pos e, if_pos (by omega), show q - 1 = i by omega]
  · rw [if_neg e]
    by_cases z : i + 1 < q ∧ q ≤ n
    · rw [if_pos z, if_pos (by omega)]
    · rw [if_neg z, if_neg (by omega)]
theorem rd_shrE (o : Nat → Nat) (n k i : Nat) : rd_up (rd_shr o n i) i k = rd_put o n k i := rfl
theorem rd_putN (o : Nat → Nat) (n k : Nat) : rd_put o n k n = rd_up o n k := by
  funext q
  show (if q = n then k else if n < q ∧ q ≤ n then o (q - 1) else o q) = if q = n then k else o q
  by_cases e : q = n
  · rw [if_pos e, if_pos e]
  · rw [if_neg e, if_neg e, if_neg (by omega)]
/-! the least free number -/
def rd_lf (m : Nat) : Nat → Nat → Nat
  | 0, k => k
  | d + 1, k => if m.testBit k = true then rd_lf m d (k + 1) else k
def rd_fr (m : Nat) : Nat := rd_lf m 4 0
theorem rd_fr1 : ∀ m, m < 32 → rd_n m < 5 → rd_fr m < 5 ∧ m.testBit (rd_fr m) = false := by decide +kernel
theorem rd_fr2 : ∀ m, m < 32 → ∀ k, k < rd_fr m → m.testBit k = true := by decide +kernel
theorem rd_31 : ∀ k, k < 5 → (31 : Nat).testBit k = true := by decide +kernel
theorem rd_clor : ∀ m, m < 32 → ∀ k, k < 5 → m.testBit k = true → rd_cl m k ||| 2 ^ k = m := by decide +kernel
theorem rd_orcl : ∀ m, m < 32 → ∀ k, k < 5 → m.testBit k = false → rd_cl (m ||| 2 ^ k) k = m := by decide +kernel
theorem rd_clbk : ∀ m, m < 32 → ∀ k, k < 5 → (rd_cl m k).testBit k = false := by decide +kernel
theorem rd_usd : ∀ u, u < 32 → ∀ k, k < 5 → ((nI u >>> (nI k &&& 31)) &&& 1 = 0 ↔ u.testBit k = false) := by decide +kernel
/-- the mask of a set read bit by bit is the set -/
def rd_ms (m : Nat) : Nat → Nat
  | 0 => 0
  | k + 1 => if m.testBit k = true then rd_ms m k ||| 2 ^ k else rd_ms m k
theorem rd_ms5 : ∀ m, m < 32 → rd_ms m 5 = m := by decide +kernel
theorem rd_msL : ∀ m, m < 32 → ∀ k, k < 6 → rd_ms m k < 32 := by decide +kernel
/-! numbers kept when a number of a task is changed -/
theorem rd_NumC {m : Nat} {c d p : Nat → Nat} {k x : Nat} (H : rd_Num m c d p) (h1 : 1 ≤ x) (h2 : x ≤ d k) : rd_Num m (rd_up c k x) d p := by
  intro j hj
  obtain ⟨a, b, e, f⟩ := H j hj
  by_cases z : j = k
  · subst z
    rw [rd_us]
    exact ⟨h1, h2, e, f⟩
  · rw [rd_un z]
    exact ⟨a, b, e, f⟩
theorem rd_NumP {m : Nat} {c d p : Nat → Nat} {k x : Nat} (H : rd_Num m c d p) (h1 : d k ≤ x) (h2 : x ≤ 15) : rd_Num m c d (rd_up p k x) := by
  intro j hj
  obtain ⟨a, b, e, f⟩ := H j hj
  by_cases z : j = k
  · subst z
    rw [rd_us]
    exact ⟨a, b, h1, h2⟩
  · rw [rd_un z]
    exact ⟨a, b, e, f⟩
theorem rd_NumCl {m k : Nat} {c d p : Nat → Nat} (hm : m < 32) (hk : k < 5) (H : rd_Num m c d p) : rd_Num (rd_cl m k) c d p := by
  intro j hj
  rcases Nat.lt_or_ge j 5 with h | h
  · rw [rd_clB m hm k hk j h] at hj
    apply H j
    cases z : m.testBit j with
    | true => rfl
    | false => rw [z] at hj; exact nomatch hj
  · rw [rd_hi (rd_clL m hm k hk) h] at hj
    exact nomatch hj
theorem rd_NumOr {m k x y z : Nat} {c d p : Nat → Nat} (hm : m < 32) (hk : k < 5) (H : rd_Num m c d p) (h1 : 1 ≤ x) (h2 : x ≤ y) (h3 : y ≤ z) (h4 : z ≤ 15) : rd_Num (m ||| 2 ^ k) (rd_up c k x) (rd_up d k y) (rd_up p k z) := by
  intro j hj
  by_cases e : j = k
  · subst e
    rw [rd_us, rd_us, rd_us]
    exact ⟨h1, h2, h3, h4⟩
  · rw [rd_un e, rd_un e, rd_un e]
    rcases Nat.lt_or_ge j 5 with h | h
    · rw [rd_orB m hm k hk j h] at hj
      apply H j
      cases y : m.testBit j with
      | true => rfl
      | false => rw [y] at hj; simp [e] at hj
    · rw [rd_hi (rd_orL m hm k hk) h] at hj
      exact nomatch hj
/-! searches from above and from below -/
theorem rd_lastU {f : Nat → Bool} {i : Nat} (h : f (i + 1) = true) : rd_last f (i + 1) = i + 1 := if_pos h
theorem rd_lastN {f : Nat → Bool} {i : Nat} (h : ¬ f (i + 1) = true) : rd_last f (i + 1) = rd_last f i := if_neg h
theorem rd_lastB (f : Nat → Bool) : ∀ i, rd_last f i ≤ i := by
  intro i
  induction i with
  | zero => exact Nat.le_refl 0
  | succ i ih =>
    by_cases e : f (i + 1) = true
    · rw [rd_lastU e]; exact Nat.le_refl _
    · rw [rd_lastN e]; omega
/-- the last one that a search downwards from a + e meets, r if there is none: what rd_frst tells -/
theorem rd_frstU {f : Nat → Bool} {e a : Nat} (h : f a = true) : rd_frst f (e + 1) a = a := if_pos h
theorem rd_frstN {f : Nat → Bool} {e a : Nat} (h : ¬ f a = true) : rd_frst f (e + 1) a = rd_frst f e (a + 1) := if_neg h
/-- whether one of i < e has f -/
theorem rd_cntP {f : Nat → Bool} : ∀ e, 0 < rd_cnt f e ↔ ∃ i, i < e ∧ f i = true := by
  intro e
  induction e with
  | zero => exact ⟨fun h => absurd h (Nat.lt_irrefl 0), fun ⟨i, h, _⟩ => absurd h (Nat.not_lt_zero i)⟩
  | succ e ih =>
    by_cases z : f e = true
    · have a : rd_cnt f (e + 1) = rd_cnt f e + 1 := if_pos z
      rw [a]
      exact ⟨fun _ => ⟨e, Nat.lt_succ_self e, z⟩, fun _ => Nat.succ_pos _⟩
    · have a : rd_cnt f (e + 1) = rd_cnt f e := if_neg z
      rw [a, ih]
      constructor
      · rintro ⟨i, h1, h2⟩
        exact ⟨i, by omega, h2⟩
      · rintro ⟨i, h1, h2⟩
        rcases Nat.lt_or_ge i e with q | q
        · exact ⟨i, q, h2⟩
        · rw [show i = e by omega] at h2
          exact absurd h2 z
/-- the first i below e with f, none if there is none, from i on -/
def rd_fst (f : Nat → Bool) : Nat → Nat → Option Nat
  | 0, _ => none
  | e + 1, i => if f i = true then some i else rd_fst f e (i + 1)
end
section
/-! ===== helpers for the walks ===== -/
theorem rd_g {f : Nat → Nat} {j : Nat} (h : j < 5) : rd_A f (nI j).toNatClampNeg = nI (f j) := rd_get f (by omega)
theorem rd_s {f : Nat → Nat} {j x : Nat} {y : Int32} (h : j < 5) (e : y = nI x) : upd (rd_A f) (nI j).toNatClampNeg y = rd_A (rd_up f j x) := by
  rw [e]
  exact rd_set f x (by omega)
theorem rd_i {j : Nat} (h : j < 5) : vp_in (nI j) 5 := vp_in_nI h (by decide)
theorem rd_bc {m k : Nat} {A B : Prop} (hm : m < 32) (hk : k < 5) (f : m.testBit k = false → A) (g : m.testBit k = true → B) : ((nI m &&& ((1 : Int32) <<< (nI k &&& 31))) = 0 → A) ∧ (¬ (nI m &&& ((1 : Int32) <<< (nI k &&& 31))) = 0 → B) := by
  rw [rd_bit m hm k hk]
  refine ⟨f, fun z => g ?_⟩
  cases e : m.testBit k with
  | true => rfl
  | false => exact absurd e z
theorem rd_Bc {m k : Nat} {A B : Prop} (hk : k < 5) (f : m.testBit k = false → A) (g : m.testBit k = true → B) : (rd_B m (nI k).toNatClampNeg = 0 → A) ∧ (¬ rd_B m (nI k).toNatClampNeg = 0 → B) := by
  rw [nI_clamp (show k < 2 ^ 31 by omega), rd_B0]
  refine ⟨f, fun z => g ?_⟩
  cases e : m.testBit k with
  | true => rfl
  | false => exact absurd e z
theorem rd_tf {x : Bool} (h : ¬ x = true) : x = false := by
  cases x with
  | true => exact absurd rfl h
  | false => rfl
theorem rd_ft' {x : Bool} (h : ¬ x = false) : x = true := by
  cases x with
  | true => rfl
  | false => exact absurd rfl h
theorem rd_nft {x : Bool} (h : x = false) : ¬ x = true := by
  rw [h]
  exact nofun
/-- a counter that runs down: the place below q -/
def rd_p : Nat → Int32
  | 0 => -1
  | q + 1 => nI q
theorem rd_pm (q : Nat) : nI q + (-1) = rd_p q := by
  cases q with
  | zero => rfl
  | succ q => exact pk_m1 q
theorem rd_pm1 (q : Nat) : nI q - 1 = rd_p q := by
  cases q with
  | zero => rfl
  | succ q => exact nI_pred q
theorem rd_pm2 (q : Nat) : nI (q + 1) - 2 = rd_p q := by
  cases q with
  | zero => decide
  | succ q => exact pk_sub (a := q + 1 + 1) (b := 2) (by omega)
theorem rd_m1n {f : Nat} (h : f < 2 ^ 31) : ¬ nI f = -1 := by
  intro e
  have a := nI_toInt h
  rw [e, show (-1 : Int32).toInt = -1 by decide] at a
  omega
theorem rd_m3n {f : Nat} (h : f < 2 ^ 31) : ¬ nI f = -3 := by
  intro e
  have a := nI_toInt h
  rw [e, show (-3 : Int32).toInt = -3 by decide] at a
  omega
theorem rd_m1l : (-1 : Int32) < 0 := by decide
theorem rd_nb (x : Bool) : narrow .boolean (.int (rd_b x)) = .int (rd_b x) := by
  cases x <;> rfl
theorem rd_vb0 : vp_nar .boolean 0 = 0 := by decide
theorem rd_vb1 : vp_nar .boolean 1 = 1 := by decide
end
section
/-! ===== the desk: one run ===== -/
theorem rd_xCRl {post : SX → Prop} {m n : Nat} {c d p o tr : Nat → Nat} (h : ∀ nx wl uh fd : Nat → Nat, (∀ k, k < 5 → nx k = 0 ∧ wl k = 0 ∧ uh k = 0 ∧ fd k = 0) → post (nI m, nI n, rd_A c, rd_A d, rd_A p, rd_A o, rd_A tr, rd_A nx, rd_A wl, rd_A uh, rd_A fd)) : ∀ (e k : Nat) (nx wl uh fd : Nat → Nat), k + e = 5 → (∀ j, j < k → nx j = 0 ∧ wl j = 0 ∧ uh j = 0 ∧ fd j = 0) → wX_clearRun_2 post (nI m) (nI n) (e + 1) (nI k) (rd_A c) (rd_A d) (rd_A p) (rd_A o) (rd_A tr) (rd_A nx) (rd_A wl) (rd_A uh) (rd_A fd) := by
  intro e
  induction e with
  | zero =>
    intro k nx wl uh fd hk hj
    exact br_t (nI_le (a := 5) (by omega) (by omega)) (h nx wl uh fd (fun j z => hj j (by omega)))
  | succ e ih =>
    intro k nx wl uh fd hk hj
    have hk5 : k < 5 := by omega
    refine br_f (nI_ge (b := 5) hk5 (by decide)) ⟨rd_i hk5, nm_r (rd_s (x := 0) hk5 rfl) ⟨rd_i hk5, nm_r (rd_s (x := 0) hk5 rfl) ⟨rd_i hk5, nm_r (rd_s (x := 0) hk5 rfl) ⟨rd_i hk5, nm_r (rd_s (x := 0) hk5 rfl) (nm_r (nI_1 k) (ih (k + 1) _ _ _ _ (by omega) ?_))⟩⟩⟩⟩
    intro j hj'
    by_cases z : j = k
    · subst z
      exact ⟨rd_us, rd_us, rd_us, rd_us⟩
    · rw [rd_un z, rd_un z, rd_un z, rd_un z]
      exact hj j (by omega)
theorem rd_xCR {post : SX → Prop} {m n : Nat} {c d p o tr nx wl uh fd : Nat → Nat} (h : ∀ nx wl uh fd : Nat → Nat, (∀ k, k < 5 → nx k = 0 ∧ wl k = 0 ∧ uh k = 0 ∧ fd k = 0) → post (nI m, nI n, rd_A c, rd_A d, rd_A p, rd_A o, rd_A tr, rd_A nx, rd_A wl, rd_A uh, rd_A fd)) : wpX_clearRun post (nI m, nI n, rd_A c, rd_A d, rd_A p, rd_A o, rd_A tr, rd_A nx, rd_A wl, rd_A uh, rd_A fd) :=
  ⟨6, rd_xCRl h 5 0 nx wl uh fd rfl (fun j z => absurd z (Nat.not_lt_zero j))⟩
theorem rd_xMJl {post : SX → Prop} {m n t : Nat} {c d p o tr uh fd : Nat → Nat} (hm : m < 32) (ht : t < 2 ^ 31) : ∀ (e k : Nat) (nx wl : Nat → Nat), k + e = 5 → (∀ j, k ≤ j → j < 5 → m.testBit j = true → nx j < 2 ^ 31) →
    (∀ nx' wl' : Nat → Nat, (∀ j, j < 5 → wl' j = if k ≤ j ∧ m.testBit j = true ∧ nx j = t then wl j + c j else wl j) → (∀ j, j < 5 → nx' j = if k ≤ j ∧ m.testBit j = true ∧ nx j = t then t + p j else nx j) → post (nI m, nI n, rd_A c, rd_A d, rd_A p, rd_A o, rd_A tr, rd_A nx', rd_A wl', rd_A uh, rd_A fd)) → wX_makeJobsReady_2 post (nI t) (nI m) (nI n) (e + 1) (nI k) (rd_A c) (rd_A d) (rd_A p) (rd_A o) (rd_A tr) (rd_A nx) (rd_A wl) (rd_A uh) (rd_A fd) := by
  intro e
  induction e with
  | zero =>
    intro k nx wl hk hb h
    exact br_t (nI_le (a := 5) (by omega) (by omega)) (h nx wl (fun j z => (if_neg (by omega)).symm) (fun j z => (if_neg (by omega)).symm))
  | succ e ih =>
    intro k nx wl hk hb h
    have hk5 : k < 5 := by omega
    have skip : ¬ (m.testBit k = true ∧ nx k = t) → wX_makeJobsReady_2 post (nI t) (nI m) (nI n) (e + 1) (nI (k + 1)) (rd_A c) (rd_A d) (rd_A p) (rd_A o) (rd_A tr) (rd_A nx) (rd_A wl) (rd_A uh) (rd_A fd) := by
      intro z
      refine ih (k + 1) nx wl (by omega) (fun j h1 h2 h3 => hb j (by omega) h2 h3) (fun nx' wl' h1 h2 => h nx' wl' (fun j hj => ?_) (fun j hj => ?_))
      · rw [h1 j hj]
        by_cases q : j = k
        · subst q
          rw [if_neg (by omega), if_neg (fun y => z y.2)]
        · by_cases y : k + 1 ≤ j ∧ m.testBit j = true ∧ nx j = t
          · rw [if_pos y, if_pos ⟨by omega, y.2⟩]
          · rw [if_neg y, if_neg (fun x => y ⟨by omega, x.2⟩)]
      · rw [h2 j hj]
        by_cases q : j = k
        · subst q
          rw [if_neg (by omega), if_neg (fun y => z y.2)]
        · by_cases y : k + 1 ≤ j ∧ m.testBit j = true ∧ nx j = t
          · rw [if_pos y, if_pos ⟨by omega, y.2⟩]
          · rw [if_neg y, if_neg (fun x => y ⟨by omega, x.2⟩)]
    refine br_f (nI_ge (b := 5) hk5 (by decide)) (rd_bc hm hk5 (fun z => nm_r (nI_1 k) (skip (fun y => rd_nft z y.1))) (fun z => ⟨rd_i hk5, pk_eq (nx k) t (fun q => ?_) (fun q => nm_r (nI_1 k) (skip (fun y => q y.2))) (rd_g hk5) rfl (hb k (Nat.le_refl k) hk5 z) ht⟩))
    refine ⟨rd_i hk5, ⟨rd_i hk5, ⟨rd_i hk5, nm_r (rd_s (x := wl k + c k) hk5 (by rw [rd_g hk5, rd_g hk5, nI_add])) ⟨rd_i hk5, ⟨rd_i hk5, nm_r (rd_s (x := t + p k) hk5 (by rw [rd_g hk5, nI_add])) (nm_r (nI_1 k) (ih (k + 1) _ _ (by omega) (fun j h1 h2 h3 => ?_) (fun nx' wl' h1 h2 => h nx' wl' (fun j hj => ?_) (fun j hj => ?_))))⟩⟩⟩⟩⟩
    · rw [rd_un (by omega)]
      exact hb j (by omega) h2 h3
    · rw [h1 j hj]
      by_cases y : j = k
      · subst y
        rw [if_neg (by omega), if_pos ⟨Nat.le_refl _, z, q⟩, rd_us]
      · rw [rd_un y, rd_un y]
        by_cases x : k + 1 ≤ j ∧ m.testBit j = true ∧ nx j = t
        · rw [if_pos x, if_pos ⟨by omega, x.2⟩]
        · rw [if_neg x, if_neg (fun w => x ⟨by omega, w.2⟩)]
    · rw [h2 j hj]
      by_cases y : j = k
      · subst y
        rw [if_neg (by omega), if_pos ⟨Nat.le_refl _, z, q⟩, rd_us]
      · rw [rd_un y]
        by_cases x : k + 1 ≤ j ∧ m.testBit j = true ∧ nx j = t
        · rw [if_pos x, if_pos ⟨by omega, x.2⟩]
        · rw [if_neg x, if_neg (fun w => x ⟨by omega, w.2⟩)]
theorem rd_xMJ {post : SX → Prop} {m n t : Nat} {c d p o tr nx wl uh fd : Nat → Nat} (hm : m < 32) (ht : t < 2 ^ 31) (hb : ∀ j, j < 5 → m.testBit j = true → nx j < 2 ^ 31) (h : ∀ nx' wl' : Nat → Nat, (∀ j, j < 5 → wl' j = if m.testBit j = true ∧ nx j = t then wl j + c j else wl j) → (∀ j, j < 5 → nx' j = if m.testBit j = true ∧ nx j = t then t + p j else nx j) → post (nI m, nI n, rd_A c, rd_A d, rd_A p, rd_A o, rd_A tr, rd_A nx', rd_A wl', rd_A uh, rd_A fd)) : wpX_makeJobsReady post (nI m, nI n, rd_A c, rd_A d, rd_A p, rd_A o, rd_A tr, rd_A nx, rd_A wl, rd_A uh, rd_A fd) (nI t) := by
  refine ⟨6, rd_xMJl hm ht 5 0 nx wl rfl (fun j _ h2 h3 => hb j h2 h3) (fun nx' wl' h1 h2 => h nx' wl' (fun j hj => ?_) (fun j hj => ?_))⟩
  · rw [h1 j hj]
    by_cases y : m.testBit j = true ∧ nx j = t
    · rw [if_pos y, if_pos ⟨Nat.zero_le j, y⟩]
    · rw [if_neg y, if_neg (fun x => y x.2)]
  · rw [h2 j hj]
    by_cases y : m.testBit j = true ∧ nx j = t
    · rw [if_pos y, if_pos ⟨Nat.zero_le j, y⟩]
    · rw [if_neg y, if_neg (fun x => y x.2)]
theorem rd_xMUl_order {post : Int32 → Prop} {m n : Nat} {c d p o tr nx wl uh fd : Nat → Nat} (hn : n ≤ 5) (hr : ∀ i, i < n → o i < 5) (hw : ∀ k, k < 5 → wl k < 2 ^ 31) : ∀ (e i : Nat), i + e = n → post (rd_o (rd_who o wl e i)) → wX_mostUrgentWithWork__order_2 post (nI m) (nI n) (rd_A c) (rd_A d) (rd_A p) (rd_A o) (rd_A tr) (rd_A nx) (rd_A wl) (rd_A uh) (rd_A fd) (e + 1) (nI i) := by
  intro e
  induction e with
  | zero =>
    intro i hi h
    exact br_t (nI_le (by omega) (by omega)) h
  | succ e ih =>
    intro i hi h
    have h5 : i < 5 := by omega
    have hr5 : o i < 5 := hr i (by omega)
    refine br_f (nI_ge (by omega) (by omega)) ⟨rd_i h5, ?_⟩
    rw [rd_g h5]
    refine ⟨rd_i hr5, ?_⟩
    refine pk_le (wl (o i)) 0 (fun z => nm_r (nI_1 i) (ih (i + 1) (by omega) ?_)) (fun z => ⟨rd_i h5, ?_⟩) (rd_g hr5) rfl (hw _ hr5) (by decide)
    · have a : rd_who o wl (e + 1) i = rd_who o wl e (i + 1) := if_neg (by omega)
      rw [← a]
      exact h
    · have a : rd_who o wl (e + 1) i = some (o i) := if_pos z
      rw [a] at h
      exact h
theorem rd_xMU_order {post : Int32 → Prop} {m n : Nat} {c d p o tr nx wl uh fd : Nat → Nat} (hn : n ≤ 5) (hr : ∀ i, i < n → o i < 5) (hw : ∀ k, k < 5 → wl k < 2 ^ 31) (h : post (rd_o (rd_who o wl n 0))) : wpX_mostUrgentWithWork__order post (nI m, nI n, rd_A c, rd_A d, rd_A p, rd_A o, rd_A tr, rd_A nx, rd_A wl, rd_A uh, rd_A fd) :=
  ⟨n + 1, rd_xMUl_order hn hr hw n 0 (Nat.zero_add n) h⟩
theorem rd_xMUl_trial {post : Int32 → Prop} {m n : Nat} {c d p o tr nx wl uh fd : Nat → Nat} (hn : n ≤ 5) (hr : ∀ i, i < n → tr i < 5) (hw : ∀ k, k < 5 → wl k < 2 ^ 31) : ∀ (e i : Nat), i + e = n → post (rd_o (rd_who tr wl e i)) → wX_mostUrgentWithWork__trial_2 post (nI m) (nI n) (rd_A c) (rd_A d) (rd_A p) (rd_A o) (rd_A tr) (rd_A nx) (rd_A wl) (rd_A uh) (rd_A fd) (e + 1) (nI i) := by
  intro e
  induction e with
  | zero =>
    intro i hi h
    exact br_t (nI_le (by omega) (by omega)) h
  | succ e ih =>
    intro i hi h
    have h5 : i < 5 := by omega
    have hr5 : tr i < 5 := hr i (by omega)
    refine br_f (nI_ge (by omega) (by omega)) ⟨rd_i h5, ?_⟩
    rw [rd_g h5]
    refine ⟨rd_i hr5, ?_⟩
    refine pk_le (wl (tr i)) 0 (fun z => nm_r (nI_1 i) (ih (i + 1) (by omega) ?_)) (fun z => ⟨rd_i h5, ?_⟩) (rd_g hr5) rfl (hw _ hr5) (by decide)
    · have a : rd_who tr wl (e + 1) i = rd_who tr wl e (i + 1) := if_neg (by omega)
      rw [← a]
      exact h
    · have a : rd_who tr wl (e + 1) i = some (tr i) := if_pos z
      rw [a] at h
      exact h
theorem rd_xMU_trial {post : Int32 → Prop} {m n : Nat} {c d p o tr nx wl uh fd : Nat → Nat} (hn : n ≤ 5) (hr : ∀ i, i < n → tr i < 5) (hw : ∀ k, k < 5 → wl k < 2 ^ 31) (h : post (rd_o (rd_who tr wl n 0))) : wpX_mostUrgentWithWork__trial post (nI m, nI n, rd_A c, rd_A d, rd_A p, rd_A o, rd_A tr, rd_A nx, rd_A wl, rd_A uh, rd_A fd) :=
  ⟨n + 1, rd_xMUl_trial hn hr hw n 0 (Nat.zero_add n) h⟩
theorem rd_xGU {post : SX → Prop} {m n k t : Nat} {c d p o tr nx wl uh fd : Nat → Nat} (hk : k < 5) (hw : 0 < wl k) (hu : uh k + 1 < 2 ^ 31) (hc : c k < 2 ^ 31) (h : post (nI m, nI n, rd_A c, rd_A d, rd_A p, rd_A o, rd_A tr, rd_A nx, rd_A (rd_up wl k (wl k - 1)), rd_A (rd_up uh k (uh k + 1)), rd_A (if uh k + 1 = c k then rd_up fd k (t + 1) else fd))) : wpX_giveUnit post (nI m, nI n, rd_A c, rd_A d, rd_A p, rd_A o, rd_A tr, rd_A nx, rd_A wl, rd_A uh, rd_A fd) (nI k) (nI t) := by
  have e1 : nI (wl k) - 1 = nI (wl k - 1) := by
    rw [show wl k = (wl k - 1) + 1 by omega, nI_pred]
    rfl
  refine ⟨rd_i hk, ⟨rd_i hk, nm_r (rd_s (x := wl k - 1) hk (by rw [rd_g hk]; exact e1)) ⟨rd_i hk, ⟨rd_i hk, nm_r (rd_s (x := uh k + 1) hk (by rw [rd_g hk, nI_1])) ⟨rd_i hk, ⟨rd_i hk, pk_eq (uh k + 1) (c k) (fun z => ?_) (fun z => ?_) ((rd_g hk).trans (by rw [rd_us])) (rd_g hk) hu hc⟩⟩⟩⟩⟩⟩
  · rw [if_pos z] at h
    exact ⟨rd_i hk, nm_r (rd_s (x := t + 1) hk (nI_1 t)) h⟩
  · rw [if_neg z] at h
    exact h
end
section
/-! ===== the desk: the row of units ===== -/
/-- what the desk holds of a run at the head of unit t -/
def rd_XI (m : Nat) (c p row : Nat → Nat) (n t : Nat) (nx wl uh fd : Nat → Nat) : Prop :=
  ∀ k, k < 5 → wl k = (rd_sim m c p row n t).1 k ∧ uh k = (rd_sim m c p row n t).2 k ∧ fd k = rd_fd m c p row n t k ∧ (m.testBit k = true → rd_nx (p k) t (nx k))
theorem rd_XI0 {m n : Nat} {c p row nx wl uh fd : Nat → Nat} (hp : ∀ k, m.testBit k = true → 0 < p k) (h : ∀ k, k < 5 → nx k = 0 ∧ wl k = 0 ∧ uh k = 0 ∧ fd k = 0) : rd_XI m c p row n 0 nx wl uh fd := by
  intro k hk
  obtain ⟨a, b, e, f⟩ := h k hk
  refine ⟨b, e, f, fun z => ?_⟩
  rw [a]
  exact rd_nx0 (hp k z)
/-- once the jobs of unit t are there -/
theorem rd_XI1 {m n t : Nat} {c p row nx wl uh fd nx' wl' : Nat → Nat} (hp : ∀ k, m.testBit k = true → 0 < p k) (H : rd_XI m c p row n t nx wl uh fd) (h1 : ∀ j, j < 5 → wl' j = if m.testBit j = true ∧ nx j = t then wl j + c j else wl j) (h2 : ∀ j, j < 5 → nx' j = if m.testBit j = true ∧ nx j = t then t + p j else nx j) : (∀ k, k < 5 → wl' k = rd_J m c p row n t k) ∧ (∀ k, k < 5 → m.testBit k = true → rd_nx (p k) (t + 1) (nx' k)) := by
  refine ⟨fun k hk => ?_, fun k hk hb => ?_⟩
  · obtain ⟨a, _, _, f⟩ := H k hk
    rw [h1 k hk, a]
    show _ = if m.testBit k = true ∧ t % p k = 0 then (rd_sim m c p row n t).1 k + c k else (rd_sim m c p row n t).1 k
    by_cases z : m.testBit k = true ∧ nx k = t
    · rw [if_pos z, if_pos ⟨z.1, (rd_nxE (f z.1)).mp z.2⟩]
    · rw [if_neg z, if_neg (fun y => z ⟨y.1, (rd_nxE (f y.1)).mpr y.2⟩)]
  · obtain ⟨_, _, _, f⟩ := H k hk
    rw [h2 k hk]
    by_cases z : nx k = t
    · rw [if_pos ⟨hb, z⟩]
      exact rd_nxT (hp k hb) (f hb) z
    · rw [if_neg (fun y => z y.2)]
      exact rd_nxF (f hb) z
theorem rd_XIN {m n t : Nat} {c p row nx wl uh fd nx' wl' : Nat → Nat} (H : rd_XI m c p row n t nx wl uh fd) (h1 : ∀ k, k < 5 → wl' k = rd_J m c p row n t k) (h2 : ∀ k, k < 5 → m.testBit k = true → rd_nx (p k) (t + 1) (nx' k)) (e : rd_to m c p row n t = none) : rd_XI m c p row n (t + 1) nx' wl' uh fd := by
  intro k hk
  obtain ⟨_, b, f, _⟩ := H k hk
  rw [rd_simN e]
  refine ⟨h1 k hk, b, ?_, h2 k hk⟩
  rw [f]
  show _ = if rd_to m c p row n t = some k ∧ (rd_sim m c p row n (t + 1)).2 k = c k then t + 1 else rd_fd m c p row n t k
  rw [if_neg (fun y => by rw [e] at y; exact nomatch y.1)]
theorem rd_XIS {m n t q : Nat} {c p row nx wl uh fd nx' wl' : Nat → Nat} (H : rd_XI m c p row n t nx wl uh fd) (h1 : ∀ k, k < 5 → wl' k = rd_J m c p row n t k) (h2 : ∀ k, k < 5 → m.testBit k = true → rd_nx (p k) (t + 1) (nx' k)) (e : rd_to m c p row n t = some q) (hq : q < 5) : rd_XI m c p row n (t + 1) nx' (rd_up wl' q (wl' q - 1)) (rd_up uh q (uh q + 1)) (if uh q + 1 = c q then rd_up fd q (t + 1) else fd) := by
  intro k hk
  obtain ⟨_, b, f, _⟩ := H k hk
  obtain ⟨_, bq, _, _⟩ := H q hq
  have eG := rd_evG (c := c) (n := n) e
  rw [← bq] at eG
  have efd : rd_fd m c p row n (t + 1) k = if rd_to m c p row n t = some k ∧ (rd_sim m c p row n (t + 1)).2 k = c k then t + 1 else rd_fd m c p row n t k := rfl
  by_cases z : k = q
  · subst z
    refine ⟨?_, ?_, ?_, h2 k hk⟩
    · rw [rd_simS e, rd_us, h1 k hk]
      exact rd_us.symm
    · rw [eG, rd_us]
    · rw [efd, eG]
      by_cases y : uh k + 1 = c k
      · rw [if_pos y, if_pos ⟨e, y⟩, rd_us]
      · rw [if_neg y, if_neg (fun x => y x.2), f]
  · have hne : ¬ some q = some k := fun y => z (Option.some.inj y).symm
    refine ⟨?_, ?_, ?_, h2 k hk⟩
    · rw [rd_simS e, rd_un z, h1 k hk]
      exact (rd_un z).symm
    · rw [rd_simS e, rd_un z, b]
      exact (rd_un z).symm
    · rw [efd.trans (if_neg (fun x => hne (e.symm.trans x.1))), ← f]
      by_cases y : uh q + 1 = c q
      · rw [if_pos y, rd_un z]
      · rw [if_neg y]
theorem rd_numC {m : Nat} {c d p : Nat → Nat} (H : rd_Num m c d p) : ∀ k, m.testBit k = true → c k ≤ 15 := by
  intro k hk
  obtain ⟨_, _, _, _⟩ := H k hk
  omega
theorem rd_numP {m : Nat} {c d p : Nat → Nat} (H : rd_Num m c d p) : ∀ k, m.testBit k = true → 0 < p k := by
  intro k hk
  obtain ⟨_, _, _, _⟩ := H k hk
  omega
theorem rd_xRSl_order {post : Int32 → SX → Prop} {m n T : Nat} {c d p o tr : Nat → Nat} (W : rd_WF m n c d p o) (hT : T ≤ 60) (h : ∀ nx wl uh fd : Nat → Nat, rd_XI m c p o n T nx wl uh fd → post (nI (rd_idle m c p o n T)) (nI m, nI n, rd_A c, rd_A d, rd_A p, rd_A o, rd_A tr, rd_A nx, rd_A wl, rd_A uh, rd_A fd)) : ∀ (e t : Nat) (nx wl uh fd : Nat → Nat), t + e = T → rd_XI m c p o n t nx wl uh fd → wX_runStart__order_9 post (nI T) (e + 1) (nI (rd_idle m c p o n t)) (nI t) (nI m) (nI n) (rd_A c) (rd_A d) (rd_A p) (rd_A o) (rd_A tr) (rd_A nx) (rd_A wl) (rd_A uh) (rd_A fd) := by
  obtain ⟨hm, hn, hR, hN⟩ := W
  have hn5 : n ≤ 5 := hn ▸ (rd_n5 m hm).1
  have hc := rd_numC hN
  have hp := rd_numP hN
  intro e
  induction e with
  | zero =>
    intro t nx wl uh fd ht H
    have e : t = T := by omega
    subst e
    exact br_t (nI_le (Nat.le_refl t) (by omega)) (h nx wl uh fd H)
  | succ e ih =>
    intro t nx wl uh fd ht H
    refine br_f (nI_ge (by omega) (by omega)) ?_
    refine rd_xMJ hm (by omega) (fun j hj hb => ?_) (fun nx' wl' h1 h2 => ?_)
    · obtain ⟨_, _, _, f⟩ := H j hj
      obtain ⟨_, _, f3⟩ := f hb
      obtain ⟨_, _, _, q⟩ := hN j hb
      omega
    obtain ⟨g1, g2⟩ := rd_XI1 hp H h1 h2
    have bJ : ∀ k, rd_J m c p o n t k ≤ 15 * t + 15 := rd_bndJ hc (rd_bndL hc t)
    refine rd_xMU_order hn5 (fun i hi => (hR.1 i hi).1) (fun k hk => by rw [g1 k hk]; have := bJ k; omega) ?_
    have ew : rd_who o wl' n 0 = rd_to m c p o n t := rd_whoC n 0 (fun j _ hj => g1 _ (hR.1 j (by omega)).1)
    rw [ew]
    cases eo : rd_to m c p o n t with
    | none =>
      have ei : rd_idle m c p o n (t + 1) = rd_idle m c p o n t + 1 := if_pos eo
      refine br_t rfl (nm_r (nI_1 _) (nm_r (nI_1 t) ?_))
      rw [← ei]
      exact ih (t + 1) nx' wl' uh fd (by omega) (rd_XIN H g1 g2 eo)
    | some q =>
      have ei : rd_idle m c p o n (t + 1) = rd_idle m c p o n t := if_neg (by rw [eo]; exact nofun)
      obtain ⟨hJ, i, hi, er⟩ := rd_toIn eo
      have hq : q < 5 := er ▸ (hR.1 i hi).1
      have hqb : m.testBit q = true := er ▸ (hR.1 i hi).2
      obtain ⟨_, bq, _, _⟩ := H q hq
      have bG := rd_bndG (m := m) (c := c) (p := p) (row := o) (n := n) t q
      have hcq := hc q hqb
      refine br_f (rd_m1n (f := q) (by omega)) (rd_xGU hq (by rw [g1 q hq]; exact hJ) (by omega) (by omega) (nm_r (nI_1 t) ?_))
      rw [← ei]
      exact ih (t + 1) nx' _ _ _ (by omega) (rd_XIS H g1 g2 eo hq)
theorem rd_xRS_order {post : Int32 → SX → Prop} {m n T : Nat} {c d p o tr nx wl uh fd : Nat → Nat} (W : rd_WF m n c d p o) (hT : T ≤ 60) (h : ∀ nx wl uh fd : Nat → Nat, rd_XI m c p o n T nx wl uh fd → post (nI (rd_idle m c p o n T)) (nI m, nI n, rd_A c, rd_A d, rd_A p, rd_A o, rd_A tr, rd_A nx, rd_A wl, rd_A uh, rd_A fd)) : wpX_runStart__order post (nI m, nI n, rd_A c, rd_A d, rd_A p, rd_A o, rd_A tr, rd_A nx, rd_A wl, rd_A uh, rd_A fd) (nI T) := by
  refine rd_xCR (fun nx wl uh fd H => ?_)
  exact ⟨T + 1, rd_xRSl_order W hT h T 0 nx wl uh fd (Nat.zero_add T) (rd_XI0 (rd_numP W.2.2.2) H)⟩
theorem rd_xRSl_trial {post : Int32 → SX → Prop} {m n T : Nat} {c d p o tr : Nat → Nat} (W : rd_WF m n c d p tr) (hT : T ≤ 60) (h : ∀ nx wl uh fd : Nat → Nat, rd_XI m c p tr n T nx wl uh fd → post (nI (rd_idle m c p tr n T)) (nI m, nI n, rd_A c, rd_A d, rd_A p, rd_A o, rd_A tr, rd_A nx, rd_A wl, rd_A uh, rd_A fd)) : ∀ (e t : Nat) (nx wl uh fd : Nat → Nat), t + e = T → rd_XI m c p tr n t nx wl uh fd → wX_runStart__trial_9 post (nI T) (e + 1) (nI (rd_idle m c p tr n t)) (nI t) (nI m) (nI n) (rd_A c) (rd_A d) (rd_A p) (rd_A o) (rd_A tr) (rd_A nx) (rd_A wl) (rd_A uh) (rd_A fd) := by
  obtain ⟨hm, hn, hR, hN⟩ := W
  have hn5 : n ≤ 5 := hn ▸ (rd_n5 m hm).1
  have hc := rd_numC hN
  have hp := rd_numP hN
  intro e
  induction e with
  | zero =>
    intro t nx wl uh fd ht H
    have e : t = T := by omega
    subst e
    exact br_t (nI_le (Nat.le_refl t) (by omega)) (h nx wl uh fd H)
  | succ e ih =>
    intro t nx wl uh fd ht H
    refine br_f (nI_ge (by omega) (by omega)) ?_
    refine rd_xMJ hm (by omega) (fun j hj hb => ?_) (fun nx' wl' h1 h2 => ?_)
    · obtain ⟨_, _, _, f⟩ := H j hj
      obtain ⟨_, _, f3⟩ := f hb
      obtain ⟨_, _, _, q⟩ := hN j hb
      omega
    obtain ⟨g1, g2⟩ := rd_XI1 hp H h1 h2
    have bJ : ∀ k, rd_J m c p tr n t k ≤ 15 * t + 15 := rd_bndJ hc (rd_bndL hc t)
    refine rd_xMU_trial hn5 (fun i hi => (hR.1 i hi).1) (fun k hk => by rw [g1 k hk]; have := bJ k; omega) ?_
    have ew : rd_who tr wl' n 0 = rd_to m c p tr n t := rd_whoC n 0 (fun j _ hj => g1 _ (hR.1 j (by omega)).1)
    rw [ew]
    cases eo : rd_to m c p tr n t with
    | none =>
      have ei : rd_idle m c p tr n (t + 1) = rd_idle m c p tr n t + 1 := if_pos eo
      refine br_t rfl (nm_r (nI_1 _) (nm_r (nI_1 t) ?_))
      rw [← ei]
      exact ih (t + 1) nx' wl' uh fd (by omega) (rd_XIN H g1 g2 eo)
    | some q =>
      have ei : rd_idle m c p tr n (t + 1) = rd_idle m c p tr n t := if_neg (by rw [eo]; exact nofun)
      obtain ⟨hJ, i, hi, er⟩ := rd_toIn eo
      have hq : q < 5 := er ▸ (hR.1 i hi).1
      have hqb : m.testBit q = true := er ▸ (hR.1 i hi).2
      obtain ⟨_, bq, _, _⟩ := H q hq
      have bG := rd_bndG (m := m) (c := c) (p := p) (row := tr) (n := n) t q
      have hcq := hc q hqb
      refine br_f (rd_m1n (f := q) (by omega)) (rd_xGU hq (by rw [g1 q hq]; exact hJ) (by omega) (by omega) (nm_r (nI_1 t) ?_))
      rw [← ei]
      exact ih (t + 1) nx' _ _ _ (by omega) (rd_XIS H g1 g2 eo hq)
theorem rd_xRS_trial {post : Int32 → SX → Prop} {m n T : Nat} {c d p o tr nx wl uh fd : Nat → Nat} (W : rd_WF m n c d p tr) (hT : T ≤ 60) (h : ∀ nx wl uh fd : Nat → Nat, rd_XI m c p tr n T nx wl uh fd → post (nI (rd_idle m c p tr n T)) (nI m, nI n, rd_A c, rd_A d, rd_A p, rd_A o, rd_A tr, rd_A nx, rd_A wl, rd_A uh, rd_A fd)) : wpX_runStart__trial post (nI m, nI n, rd_A c, rd_A d, rd_A p, rd_A o, rd_A tr, rd_A nx, rd_A wl, rd_A uh, rd_A fd) (nI T) := by
  refine rd_xCR (fun nx wl uh fd H => ?_)
  exact ⟨T + 1, rd_xRSl_trial W hT h T 0 nx wl uh fd (Nat.zero_add T) (rd_XI0 (rd_numP W.2.2.2) H)⟩
theorem rd_xRSn {post : Int32 → SX → Prop} {m n : Nat} {c d p o tr nx wl uh fd : Nat → Nat} {x : Int32} (hx : x < 0) (h : ∀ nx wl uh fd : Nat → Nat, post 0 (nI m, nI n, rd_A c, rd_A d, rd_A p, rd_A o, rd_A tr, rd_A nx, rd_A wl, rd_A uh, rd_A fd)) : wpX_runStart__order post (nI m, nI n, rd_A c, rd_A d, rd_A p, rd_A o, rd_A tr, rd_A nx, rd_A wl, rd_A uh, rd_A fd) x := by
  refine rd_xCR (fun nx wl uh fd H => ?_)
  exact ⟨1, br_t (Int32.le_of_lt hx) (h nx wl uh fd)⟩
theorem rd_xRR {post : Int32 → Prop} {m n k : Nat} {c d p o tr nx wl uh fd : Nat → Nat} (hk : k < 5) (hf : fd k < 2 ^ 31) (hp : p k < 2 ^ 31) (h : post (rd_R (fd k) (p k))) : wpX_responseInRun post (nI m, nI n, rd_A c, rd_A d, rd_A p, rd_A o, rd_A tr, rd_A nx, rd_A wl, rd_A uh, rd_A fd) (nI k) := by
  unfold rd_R at h
  refine ⟨rd_i hk, pk_eq (fd k) 0 (fun z => ?_) (fun z => ⟨rd_i hk, ⟨rd_i hk, pk_le (fd k) (p k) (fun y => ?_) (fun y => ?_) (rd_g hk) (rd_g hk) hf hp⟩⟩) (rd_g hk) rfl hf (by decide)⟩
  · rw [if_pos (Or.inl z)] at h
    exact br_f (by decide) h
  · rw [if_neg (by omega)] at h
    exact br_t rfl ⟨rd_i hk, by rw [rd_g hk]; exact h⟩
  · rw [if_pos (Or.inr y)] at h
    exact br_f (by decide) h
theorem rd_xTTl_order {post : Int32 → SX → Prop} {m n : Nat} {c d p o tr nx wl uh fd : Nat → Nat} (W : rd_WF m n c d p o) (H : rd_XI m c p o n 15 nx wl uh fd) (h : post (nI (rd_tx (rd_ok m c d p o n) o n)) (nI m, nI n, rd_A c, rd_A d, rd_A p, rd_A o, rd_A tr, rd_A nx, rd_A wl, rd_A uh, rd_A fd)) : ∀ (e i : Nat), i + e = n → wX_timelyTasks__order_12 post (nI m) (nI n) (rd_A c) (rd_A d) (rd_A p) (rd_A o) (rd_A tr) (rd_A nx) (rd_A wl) (rd_A uh) (rd_A fd) (e + 1) (nI (rd_tx (rd_ok m c d p o n) o i)) (nI i) := by
  obtain ⟨hm, hn, hR, hN⟩ := W
  have hn5 : n ≤ 5 := hn ▸ (rd_n5 m hm).1
  intro e
  induction e with
  | zero =>
    intro i hi
    have e : i = n := by omega
    subst e
    exact br_t (nI_le (Nat.le_refl i) (by omega)) h
  | succ e ih =>
    intro i hi
    have hi5 : i < 5 := by omega
    obtain ⟨hr5, hrb⟩ := hR.1 i (by omega)
    obtain ⟨_, _, ef, _⟩ := H (o i) hr5
    obtain ⟨_, _, q1, q2⟩ := hN (o i) hrb
    have bf := rd_fdB (m := m) (c := c) (p := p) (row := o) (n := n) 15 (o i)
    have bt := (rd_txB (f := rd_ok m c d p o n) (row := o) i (fun j hj => (hR.1 j (by omega)).1)).1
    have no : ¬ rd_ok m c d p o n (o i) = true → wX_timelyTasks__order_12 post (nI m) (nI n) (rd_A c) (rd_A d) (rd_A p) (rd_A o) (rd_A tr) (rd_A nx) (rd_A wl) (rd_A uh) (rd_A fd) (e + 1) (nI (rd_tx (rd_ok m c d p o n) o i)) (nI (i + 1)) := by
      intro z
      have a : rd_tx (rd_ok m c d p o n) o (i + 1) = rd_tx (rd_ok m c d p o n) o i := if_neg z
      rw [← a]
      exact ih (i + 1) (by omega)
    refine br_f (nI_ge (by omega) (by omega)) ⟨rd_i hi5, nm_r (rd_g hi5) (rd_xRR hr5 (by omega) (by omega) ?_)⟩
    rw [ef]
    unfold rd_R
    by_cases z : rd_fd m c p o n 15 (o i) = 0 ∨ p (o i) < rd_fd m c p o n 15 (o i)
    · rw [if_pos z]
      refine br_t rfl (nm_r (nI_1 i) (no (fun y => ?_)))
      have y' := of_decide_eq_true y
      omega
    · rw [if_neg z]
      refine br_f (rd_m3n (by omega)) ⟨rd_i hr5, pk_lt (d (o i)) (rd_fd m c p o n 15 (o i)) (fun y => nm_r (nI_1 i) (no (fun x => ?_))) (fun y => ?_) (rd_g hr5) rfl (by omega) (by omega)⟩
      · have y' := of_decide_eq_true x
        omega
      · have a : rd_tx (rd_ok m c d p o n) o (i + 1) = rd_tx (rd_ok m c d p o n) o i ||| 2 ^ o i := if_pos (decide_eq_true ⟨by omega, by omega, y⟩)
        refine nm_r (rd_or _ bt _ hr5) (nm_r (nI_1 i) ?_)
        rw [← a]
        exact ih (i + 1) (by omega)
theorem rd_xTT_order {post : Int32 → SX → Prop} {m n : Nat} {c d p o tr nx wl uh fd : Nat → Nat} (W : rd_WF m n c d p o) (h : ∀ nx wl uh fd : Nat → Nat, post (nI (rd_tx (rd_ok m c d p o n) o n)) (nI m, nI n, rd_A c, rd_A d, rd_A p, rd_A o, rd_A tr, rd_A nx, rd_A wl, rd_A uh, rd_A fd)) : wpX_timelyTasks__order post (nI m, nI n, rd_A c, rd_A d, rd_A p, rd_A o, rd_A tr, rd_A nx, rd_A wl, rd_A uh, rd_A fd) := by
  unfold wpX_timelyTasks__order
  refine rd_xRS_order (T := 15) W (by decide) (fun nx wl uh fd H => ?_)
  exact ⟨n + 1, rd_xTTl_order W H (h nx wl uh fd) n 0 (Nat.zero_add n)⟩
theorem rd_xTTl_trial {post : Int32 → SX → Prop} {m n : Nat} {c d p o tr nx wl uh fd : Nat → Nat} (W : rd_WF m n c d p tr) (H : rd_XI m c p tr n 15 nx wl uh fd) (h : post (nI (rd_tx (rd_ok m c d p tr n) tr n)) (nI m, nI n, rd_A c, rd_A d, rd_A p, rd_A o, rd_A tr, rd_A nx, rd_A wl, rd_A uh, rd_A fd)) : ∀ (e i : Nat), i + e = n → wX_timelyTasks__trial_12 post (nI m) (nI n) (rd_A c) (rd_A d) (rd_A p) (rd_A o) (rd_A tr) (rd_A nx) (rd_A wl) (rd_A uh) (rd_A fd) (e + 1) (nI (rd_tx (rd_ok m c d p tr n) tr i)) (nI i) := by
  obtain ⟨hm, hn, hR, hN⟩ := W
  have hn5 : n ≤ 5 := hn ▸ (rd_n5 m hm).1
  intro e
  induction e with
  | zero =>
    intro i hi
    have e : i = n := by omega
    subst e
    exact br_t (nI_le (Nat.le_refl i) (by omega)) h
  | succ e ih =>
    intro i hi
    have hi5 : i < 5 := by omega
    obtain ⟨hr5, hrb⟩ := hR.1 i (by omega)
    obtain ⟨_, _, ef, _⟩ := H (tr i) hr5
    obtain ⟨_, _, q1, q2⟩ := hN (tr i) hrb
    have bf := rd_fdB (m := m) (c := c) (p := p) (row := tr) (n := n) 15 (tr i)
    have bt := (rd_txB (f := rd_ok m c d p tr n) (row := tr) i (fun j hj => (hR.1 j (by omega)).1)).1
    have no : ¬ rd_ok m c d p tr n (tr i) = true → wX_timelyTasks__trial_12 post (nI m) (nI n) (rd_A c) (rd_A d) (rd_A p) (rd_A o) (rd_A tr) (rd_A nx) (rd_A wl) (rd_A uh) (rd_A fd) (e + 1) (nI (rd_tx (rd_ok m c d p tr n) tr i)) (nI (i + 1)) := by
      intro z
      have a : rd_tx (rd_ok m c d p tr n) tr (i + 1) = rd_tx (rd_ok m c d p tr n) tr i := if_neg z
      rw [← a]
      exact ih (i + 1) (by omega)
    refine br_f (nI_ge (by omega) (by omega)) ⟨rd_i hi5, nm_r (rd_g hi5) (rd_xRR hr5 (by omega) (by omega) ?_)⟩
    rw [ef]
    unfold rd_R
    by_cases z : rd_fd m c p tr n 15 (tr i) = 0 ∨ p (tr i) < rd_fd m c p tr n 15 (tr i)
    · rw [if_pos z]
      refine br_t rfl (nm_r (nI_1 i) (no (fun y => ?_)))
      have y' := of_decide_eq_true y
      omega
    · rw [if_neg z]
      refine br_f (rd_m3n (by omega)) ⟨rd_i hr5, pk_lt (d (tr i)) (rd_fd m c p tr n 15 (tr i)) (fun y => nm_r (nI_1 i) (no (fun x => ?_))) (fun y => ?_) (rd_g hr5) rfl (by omega) (by omega)⟩
      · have y' := of_decide_eq_true x
        omega
      · have a : rd_tx (rd_ok m c d p tr n) tr (i + 1) = rd_tx (rd_ok m c d p tr n) tr i ||| 2 ^ tr i := if_pos (decide_eq_true ⟨by omega, by omega, y⟩)
        refine nm_r (rd_or _ bt _ hr5) (nm_r (nI_1 i) ?_)
        rw [← a]
        exact ih (i + 1) (by omega)
theorem rd_xTT_trial {post : Int32 → SX → Prop} {m n : Nat} {c d p o tr nx wl uh fd : Nat → Nat} (W : rd_WF m n c d p tr) (h : ∀ nx wl uh fd : Nat → Nat, post (nI (rd_tx (rd_ok m c d p tr n) tr n)) (nI m, nI n, rd_A c, rd_A d, rd_A p, rd_A o, rd_A tr, rd_A nx, rd_A wl, rd_A uh, rd_A fd)) : wpX_timelyTasks__trial post (nI m, nI n, rd_A c, rd_A d, rd_A p, rd_A o, rd_A tr, rd_A nx, rd_A wl, rd_A uh, rd_A fd) := by
  unfold wpX_timelyTasks__trial
  refine rd_xRS_trial (T := 15) W (by decide) (fun nx wl uh fd H => ?_)
  exact ⟨n + 1, rd_xTTl_trial W H (h nx wl uh fd) n 0 (Nat.zero_add n)⟩
end
section
/-! ===== the desk: tasks, places, orders ===== -/
theorem rd_no1 {x : Int32} (h : x < 0) {j : Nat} (hj : j < 2 ^ 31) (e : x = nI j) : False := nI_pos hj (e ▸ h)
theorem rd_no2 {x : Int32} {b : Nat} (h : nI b ≤ x) {j : Nat} (hj : j < b) (hb : b < 2 ^ 31) (e : x = nI j) : False := nI_ge hj hb (e ▸ h)
theorem rd_inj5 {i j : Nat} (hi : i < 5) (hj : j < 5) (e : nI i = nI j) : i = j := (nI_eq (by omega) (by omega)).mp e
theorem rd_xIs {post : Int32 → Prop} {m n : Nat} {c d p o tr nx wl uh fd : Nat → Nat} (x : Int32) (hm : m < 32) (h1 : ∀ j, j < 5 → x = nI j → m.testBit j = true → post 1) (h0 : (∀ j, j < 5 → x = nI j → m.testBit j = false) → post 0) : wpX_isTask post (nI m, nI n, rd_A c, rd_A d, rd_A p, rd_A o, rd_A tr, rd_A nx, rd_A wl, rd_A uh, rd_A fd) x := by
  rcases pk_ix x (n := 5) (by decide) with h | h | ⟨j, hj, rfl⟩
  · exact br_t h (h0 (fun j hj e => (rd_no1 h (by omega) e).elim))
  · exact br_f (fun z => Int32.lt_irrefl (Int32.lt_of_lt_of_le z (Int32.le_trans (by decide) h))) (br_t h (h0 (fun j hj e => (rd_no2 h hj (by decide) e).elim)))
  · refine br_f (nI_pos (by omega)) (br_f (nI_ge (b := 5) hj (by decide)) (rd_bc hm hj (fun z => h0 (fun i hi e => ?_)) (fun z => h1 j hj rfl z)))
    rw [← rd_inj5 hj hi e]
    exact z
theorem rd_xPl {post : Int32 → Prop} {m n : Nat} {c d p o tr nx wl uh fd : Nat → Nat} (x : Int32) (hn : n ≤ 5) (h1 : ∀ j, j < n → x = nI j → post 1) (h0 : (∀ j, j < n → ¬ x = nI j) → post 0) : wpX_isPlace post (nI m, nI n, rd_A c, rd_A d, rd_A p, rd_A o, rd_A tr, rd_A nx, rd_A wl, rd_A uh, rd_A fd) x := by
  rcases pk_ix x (n := n) (by omega) with h | h | ⟨j, hj, rfl⟩
  · exact br_t h (h0 (fun j hj e => rd_no1 h (by omega) e))
  · exact br_f (fun z => Int32.lt_irrefl (Int32.lt_of_lt_of_le z (Int32.le_trans (nI_pos' (by omega)) h))) (br_t h (h0 (fun j hj e => rd_no2 h hj (by omega) e)))
  · exact br_f (nI_pos (by omega)) (br_f (nI_ge hj (by omega)) (h1 j hj rfl))
theorem rd_xLFl {post : Int32 → Prop} {m n : Nat} {c d p o tr nx wl uh fd : Nat → Nat} (hm : m < 32) : ∀ (e k : Nat), k + e = 4 → post (nI (rd_lf m e k)) → wX_leastFreeNumber_2 post (nI m) (nI n) (rd_A c) (rd_A d) (rd_A p) (rd_A o) (rd_A tr) (rd_A nx) (rd_A wl) (rd_A uh) (rd_A fd) (e + 1) (nI k) := by
  intro e
  induction e with
  | zero =>
    intro k hk h
    exact br_t (nI_le (a := 4) (by omega) (by omega)) h
  | succ e ih =>
    intro k hk h
    refine br_f (nI_ge (b := 4) (by omega) (by decide)) (rd_bc hm (by omega) (fun z => ?_) (fun z => nm_r (nI_1 k) (ih (k + 1) (by omega) ?_)))
    · have a : rd_lf m (e + 1) k = k := if_neg (rd_nft z)
      rw [a] at h
      exact h
    · have a : rd_lf m (e + 1) k = rd_lf m e (k + 1) := if_pos z
      rw [← a]
      exact h
theorem rd_xLF {post : Int32 → Prop} {m n : Nat} {c d p o tr nx wl uh fd : Nat → Nat} (hm : m < 32) (h : post (nI (rd_fr m))) : wpX_leastFreeNumber post (nI m, nI n, rd_A c, rd_A d, rd_A p, rd_A o, rd_A tr, rd_A nx, rd_A wl, rd_A uh, rd_A fd) := ⟨5, rd_xLFl hm 4 0 rfl h⟩
theorem rd_xTOl {post : SX → Prop} {m n j k : Nat} {c d p o tr nx wl uh fd : Nat → Nat} (hn : n ≤ 5) (hj : j < n) (hk : k < 5) (ho : ∀ i, i < n → o i < 5) (h1 : o j = k) (h2 : ∀ i, i < n → i ≠ j → o i ≠ k) (h : post (nI m, nI (n - 1), rd_A c, rd_A d, rd_A p, rd_A (rd_take o n j), rd_A tr, rd_A nx, rd_A wl, rd_A uh, rd_A fd)) : ∀ (e i : Nat), i + e = n → wX_takeOut_4 post (nI k) (nI m) (nI n) (e + 1) (nI (if j < i then i - 1 else i)) (nI i) (rd_A c) (rd_A d) (rd_A p) (rd_A (rd_take o i j)) (rd_A tr) (rd_A nx) (rd_A wl) (rd_A uh) (rd_A fd) := by
  intro e
  induction e with
  | zero =>
    intro i hi
    have e : i = n := by omega
    subst e
    rw [if_pos hj]
    exact br_t (nI_le (Nat.le_refl i) (by omega)) h
  | succ e ih =>
    intro i hi
    have hi5 : i < 5 := by omega
    have hoi := ho i (by omega)
    have IH := ih (i + 1) (by omega)
    refine br_f (nI_ge (by omega) (by omega)) ⟨rd_i hi5, pk_eq (o i) k (fun z => ?_) (fun z => ?_) ((rd_g hi5).trans (by rw [rd_tkAt])) rfl (by omega) (by omega)⟩
    · have e : i = j := by
        by_cases q : i = j
        · exact q
        · exact absurd z (h2 i (by omega) q)
      subst e
      rw [if_pos (by omega), rd_tkLo (Nat.le_refl _), show i + 1 - 1 = i by omega] at IH
      rw [if_neg (by omega), rd_tkLo (by omega)]
      exact nm_r (nI_1 i) IH
    · have ne : i ≠ j := fun q => z (by rw [q]; exact h1)
      rcases Nat.lt_or_ge i j with q | q
      · rw [if_neg (by omega), rd_tkLo (by omega)] at IH
        rw [if_neg (by omega), rd_tkLo (by omega)]
        refine ⟨rd_i hi5, ⟨rd_i hi5, nm_r ((rd_s (x := o i) hi5 (rd_g hi5)).trans (by rw [rd_upid])) (nm_r (nI_1 i) (nm_r (nI_1 i) IH))⟩⟩
      · rw [if_pos (by omega), show i + 1 - 1 = i by omega] at IH
        rw [if_pos (by omega)]
        refine ⟨rd_i hi5, ⟨rd_i (by omega), nm_r ((rd_s (x := o i) (by omega) ((rd_g hi5).trans (by rw [rd_tkAt]))).trans (by rw [rd_tkHi (by omega)])) (nm_r ((nI_1 (i - 1)).trans (by rw [show i - 1 + 1 = i by omega])) (nm_r (nI_1 i) IH))⟩⟩
theorem rd_xTO {post : SX → Prop} {m n j k : Nat} {c d p o tr nx wl uh fd : Nat → Nat} (hn : n ≤ 5) (hj : j < n) (hk : k < 5) (ho : ∀ i, i < n → o i < 5) (h1 : o j = k) (h2 : ∀ i, i < n → i ≠ j → o i ≠ k) (h : post (nI m, nI (n - 1), rd_A c, rd_A d, rd_A p, rd_A (rd_take o n j), rd_A tr, rd_A nx, rd_A wl, rd_A uh, rd_A fd)) : wpX_takeOut post (nI m, nI n, rd_A c, rd_A d, rd_A p, rd_A o, rd_A tr, rd_A nx, rd_A wl, rd_A uh, rd_A fd) (nI k) := by
  have a := rd_xTOl (wl := wl) hn hj hk ho h1 h2 h n 0 (Nat.zero_add n)
  rw [if_neg (by omega), rd_tkLo (by omega)] at a
  exact ⟨n + 1, a⟩
theorem rd_xPIl {post : SX → Prop} {m n k i : Nat} {c d p o tr nx wl uh fd : Nat → Nat} (hn : n < 5) (hi : i ≤ n) (h : post (nI m, nI (n + 1), rd_A c, rd_A d, rd_A p, rd_A (rd_put o n k i), rd_A tr, rd_A nx, rd_A wl, rd_A uh, rd_A fd)) : ∀ (e : Nat), i + e ≤ n → wX_putIn_5 post (nI k) (nI i) (nI m) (nI n) (e + 1) (nI (i + e)) (rd_A c) (rd_A d) (rd_A p) (rd_A (rd_shr o n (i + e))) (rd_A tr) (rd_A nx) (rd_A wl) (rd_A uh) (rd_A fd) := by
  intro e
  induction e with
  | zero =>
    intro hq
    exact br_t (nI_le (by omega) (by omega)) ⟨rd_i (by omega), nm_r ((rd_s (x := k) (by omega) rfl).trans (congrArg rd_A (rd_shrE o n k i))) (nm_r (nI_1 n) h)⟩
  | succ e ih =>
    intro hq
    have e1 : nI (i + (e + 1)) - 1 = nI (i + e) := nI_pred (i + e)
    refine br_f (nI_ge (by omega) (by omega)) ⟨pk_in (i + e) 5 (by omega) e1, ⟨rd_i (by omega), nm_r (e' := rd_A (rd_shr o n (i + e))) ?_ (nm_r (pk_m1 (i + e)) (ih (by omega)))⟩⟩
    rw [e1, rd_g (by omega), rd_s (x := rd_shr o n (i + (e + 1)) (i + e)) (by omega) rfl]
    exact congrArg rd_A (rd_shrS (o := o) (n := n) (i := i + e) hq)
theorem rd_xPI {post : SX → Prop} {m n k i : Nat} {c d p o tr nx wl uh fd : Nat → Nat} (hn : n < 5) (hi : i ≤ n) (h : post (nI m, nI (n + 1), rd_A c, rd_A d, rd_A p, rd_A (rd_put o n k i), rd_A tr, rd_A nx, rd_A wl, rd_A uh, rd_A fd)) : wpX_putIn post (nI m, nI n, rd_A c, rd_A d, rd_A p, rd_A o, rd_A tr, rd_A nx, rd_A wl, rd_A uh, rd_A fd) (nI k) (nI i) := by
  have a := rd_xPIl (wl := wl) hn hi h (n - i) (by omega)
  rw [show i + (n - i) = n by omega, rd_shr0] at a
  exact ⟨n - i + 1, a⟩
theorem rd_xNOl {post : Int32 → Prop} {m n : Nat} {c d p o tr nx wl uh fd : Nat → Nat} (hn : n ≤ 5) (h : post (nI (rd_fac n))) : ∀ (e i : Nat), i + e = n → wX_numberOfOrders_4 post (nI m) (nI n) (rd_A c) (rd_A d) (rd_A p) (rd_A o) (rd_A tr) (rd_A nx) (rd_A wl) (rd_A uh) (rd_A fd) (e + 1) (nI (rd_fac i)) (nI (i + 1)) := by
  intro e
  induction e with
  | zero =>
    intro i hi
    have e : i = n := by omega
    subst e
    exact br_t (nI_lt (by omega) (by omega)) h
  | succ e ih =>
    intro i hi
    exact br_f (nI_nlt (by omega) (by omega)) (nm_r (pk_mul _ _) (nm_r (nI_1 (i + 1)) (ih (i + 1) (by omega))))
theorem rd_xNO {post : Int32 → Prop} {m n : Nat} {c d p o tr nx wl uh fd : Nat → Nat} (hn : n ≤ 5) (h : post (nI (rd_fac n))) : wpX_numberOfOrders post (nI m, nI n, rd_A c, rd_A d, rd_A p, rd_A o, rd_A tr, rd_A nx, rd_A wl, rd_A uh, rd_A fd) := by
  cases n with
  | zero => exact ⟨1, br_t (nI_lt (a := 0) (b := 2) (by decide) (by decide)) h⟩
  | succ n => exact ⟨n + 1, rd_xNOl hn h n 1 (by omega)⟩
theorem rd_xFTl {post : SX → Prop} {m n : Nat} {c d p o tr nx wl uh fd : Nat → Nat} (hm : m < 32) (h : post (nI m, nI n, rd_A c, rd_A d, rd_A p, rd_A o, rd_A ((rd_ft m tr 5).1), rd_A nx, rd_A wl, rd_A uh, rd_A fd)) : ∀ (e k : Nat), k + e = 5 → wX_firstTrial_4 post (nI m) (nI n) (e + 1) (nI (rd_ft m tr k).2) (nI k) (rd_A c) (rd_A d) (rd_A p) (rd_A o) (rd_A ((rd_ft m tr k).1)) (rd_A nx) (rd_A wl) (rd_A uh) (rd_A fd) := by
  intro e
  induction e with
  | zero =>
    intro k hk
    have e : k = 5 := by omega
    subst e
    exact br_t (nI_le (a := 5) (Nat.le_refl 5) (by decide)) h
  | succ e ih =>
    intro k hk
    have hk5 : k < 5 := by omega
    have IH := ih (k + 1) (by omega)
    refine br_f (nI_ge (b := 5) hk5 (by decide)) (rd_bc hm hk5 (fun z => nm_r (nI_1 k) ?_) (fun z => ?_))
    · have a : rd_ft m tr (k + 1) = rd_ft m tr k := if_neg (rd_nft z)
      rw [a] at IH
      exact IH
    · have a : rd_ft m tr (k + 1) = (rd_up (rd_ft m tr k).1 (rd_ft m tr k).2 k, (rd_ft m tr k).2 + 1) := if_pos z
      have b : (rd_ft m tr k).2 < 5 := by rw [(rd_ftC m tr k).1]; exact rd_ftB m hm k hk5 z
      rw [a] at IH
      exact ⟨rd_i b, nm_r (rd_s b rfl) (nm_r (nI_1 _) (nm_r (nI_1 k) IH))⟩
theorem rd_xFT {post : SX → Prop} {m n : Nat} {c d p o tr nx wl uh fd : Nat → Nat} (hm : m < 32) (h : ∀ tr' : Nat → Nat, (∀ i, i < rd_n m → tr' i = rd_pe m 0 i) → post (nI m, nI n, rd_A c, rd_A d, rd_A p, rd_A o, rd_A tr', rd_A nx, rd_A wl, rd_A uh, rd_A fd)) : wpX_firstTrial post (nI m, nI n, rd_A c, rd_A d, rd_A p, rd_A o, rd_A tr, rd_A nx, rd_A wl, rd_A uh, rd_A fd) := by
  refine ⟨6, rd_xFTl hm (h _ (fun i hi => ?_)) 5 0 rfl⟩
  obtain ⟨a, b⟩ := rd_ft0 m hm
  obtain ⟨a', b'⟩ := rd_ftC m tr 5
  rw [b' i (by rw [a', a]; exact hi)]
  exact b i hi
theorem rd_xSw {post : SX → Prop} {m n i j : Nat} {c d p o tr nx wl uh fd : Nat → Nat} (hi : i < 5) (hj : j < 5) (h : post (nI m, nI n, rd_A c, rd_A d, rd_A p, rd_A o, rd_A (rd_sw tr i j), rd_A nx, rd_A wl, rd_A uh, rd_A fd)) : wpX_swapTrial post (nI m, nI n, rd_A c, rd_A d, rd_A p, rd_A o, rd_A tr, rd_A nx, rd_A wl, rd_A uh, rd_A fd) (nI i) (nI j) :=
  ⟨rd_i hi, nm_r (rd_g hi) ⟨rd_i hj, ⟨rd_i hi, nm_r (rd_s (x := tr j) hi (rd_g hj)) ⟨rd_i hj, nm_r (rd_s (x := tr i) hj rfl) h⟩⟩⟩⟩
theorem rd_xNT3 {post : SX → Prop} {m n : Nat} {c d p o nx wl uh fd : Nat → Nat} : ∀ (e : Nat) (tr : Nat → Nat) (low high : Nat), high ≤ low + 2 * e → low ≤ 5 → high < 5 → post (nI m, nI n, rd_A c, rd_A d, rd_A p, rd_A o, rd_A (rd_rev e tr low high), rd_A nx, rd_A wl, rd_A uh, rd_A fd) → wX_nextTrial_90 post (e + 1) (nI low) (nI high) (nI m) (nI n) (rd_A c) (rd_A d) (rd_A p) (rd_A o) (rd_A tr) (rd_A nx) (rd_A wl) (rd_A uh) (rd_A fd) := by
  intro e
  induction e with
  | zero =>
    intro tr low high h1 h2 h3 h
    exact br_t (nI_le (by omega) (by omega)) h
  | succ e ih =>
    intro tr low high h1 h2 h3 h
    refine pk_le high low (fun z => ?_) (fun z => ?_)
    · have a : rd_rev (e + 1) tr low high = tr := if_neg (by omega)
      rw [a] at h
      exact h
    · have a : rd_rev (e + 1) tr low high = rd_rev e (rd_sw tr low high) (low + 1) (high - 1) := if_pos z
      rw [a] at h
      refine rd_xSw (by omega) (by omega) (nm_r (nI_1 low) (nm_r (e' := nI (high - 1)) ?_ (ih _ (low + 1) (high - 1) (by omega) (by omega) (by omega) h)))
      rw [show high = high - 1 + 1 by omega, pk_m1]
      rfl
theorem rd_xNT2 {post : SX → Prop} {m n i : Nat} {c d p o tr nx wl uh fd : Nat → Nat} (hn : n ≤ 5) (hi : i + 1 < n) (hb : ∀ q, q < n → tr q < 2 ^ 31) : ∀ (j : Nat), j < n → post (nI m, nI n, rd_A c, rd_A d, rd_A p, rd_A o, rd_A (rd_rev 5 (rd_sw tr i (rd_nj tr i j)) (i + 1) (n - 1)), rd_A nx, rd_A wl, rd_A uh, rd_A fd) → wX_nextTrial_46 post (nI i) (nI m) (nI n) (rd_A c) (rd_A d) (rd_A p) (rd_A o) (rd_A tr) (rd_A nx) (rd_A wl) (rd_A uh) (rd_A fd) (j + 1) (nI j) := by
  intro j
  have fin : ∀ j, j < n → post (nI m, nI n, rd_A c, rd_A d, rd_A p, rd_A o, rd_A (rd_rev 5 (rd_sw tr i j) (i + 1) (n - 1)), rd_A nx, rd_A wl, rd_A uh, rd_A fd) → wX_nextTrial_72 post (nI i) (nI j) (nI m) (nI n) (rd_A c) (rd_A d) (rd_A p) (rd_A o) (rd_A tr) (rd_A nx) (rd_A wl) (rd_A uh) (rd_A fd) := by
    intro j hj h
    unfold wX_nextTrial_72
    refine rd_xSw (by omega) (by omega) (nm_r (nI_1 i) (nm_r (e' := nI (n - 1)) ?_ ⟨6, rd_xNT3 5 _ (i + 1) (n - 1) (by omega) (by omega) (by omega) h⟩))
    rw [show n = n - 1 + 1 by omega, nI_pred]
    rfl
  induction j with
  | zero =>
    intro hj h
    exact br_t (nI_le (by omega) (by omega)) (fin 0 hj h)
  | succ j ih =>
    intro hj h
    refine pk_le (j + 1) i (fun z => ?_) (fun z => ⟨rd_i (by omega), ⟨rd_i (by omega), pk_le (tr i) (tr (j + 1)) (fun y => ?_) (fun y => ?_) (rd_g (by omega)) (rd_g (by omega)) (hb _ (by omega)) (hb _ hj)⟩⟩)
    · have a : rd_nj tr i (j + 1) = j + 1 := if_neg (by omega)
      rw [a] at h
      exact fin (j + 1) hj h
    · have a : rd_nj tr i (j + 1) = j + 1 := if_neg (by omega)
      rw [a] at h
      exact fin (j + 1) hj h
    · have a : rd_nj tr i (j + 1) = rd_nj tr i j := if_pos ⟨z, y⟩
      rw [a] at h
      exact nm_r (pk_m1 j) (ih (by omega) h)
theorem rd_xNT1 {post : SX → Prop} {m n : Nat} {c d p o tr nx wl uh fd : Nat → Nat} (hn : n ≤ 5) (hb : ∀ q, q < n → tr q < 2 ^ 31) : ∀ (q : Nat), q + 1 ≤ n → post (nI m, nI n, rd_A c, rd_A d, rd_A p, rd_A o, rd_A (if rd_ni tr q = 0 then tr else rd_rev 5 (rd_sw tr (rd_ni tr q - 1) (rd_nj tr (rd_ni tr q - 1) (n - 1))) (rd_ni tr q) (n - 1)), rd_A nx, rd_A wl, rd_A uh, rd_A fd) → wX_nextTrial_7 post (nI m) (nI n) (rd_A c) (rd_A d) (rd_A p) (rd_A o) (rd_A tr) (rd_A nx) (rd_A wl) (rd_A uh) (rd_A fd) (q + 1) (rd_p q) := by
  intro q
  induction q with
  | zero =>
    intro hq h
    rw [if_pos (show rd_ni tr 0 = 0 from rfl)] at h
    exact br_t rd_m1l (br_f (by decide) h)
  | succ i ih =>
    intro hq h
    show wX_nextTrial_7 post (nI m) (nI n) (rd_A c) (rd_A d) (rd_A p) (rd_A o) (rd_A tr) (rd_A nx) (rd_A wl) (rd_A uh) (rd_A fd) (i + 1 + 1) (nI i)
    refine br_f (nI_pos (by omega)) ⟨rd_i (by omega), ⟨pk_in (i + 1) 5 (by omega) (nI_1 i), ?_⟩⟩
    rw [nI_1 i]
    refine pk_le (tr i) (tr (i + 1)) (fun z => ?_) (fun z => ?_) (rd_g (by omega)) (rd_g (by omega)) (hb _ (by omega)) (hb _ (by omega))
    · have a : rd_ni tr (i + 1) = i + 1 := if_neg (by omega)
      rw [a, if_neg (by omega), show i + 1 - 1 = i by omega] at h
      refine br_t (nI_pos' (by omega)) (nm_r (e' := nI (n - 1)) ?_ ⟨n - 1 + 1, rd_xNT2 hn (by omega) hb (n - 1) (by omega) h⟩)
      rw [show n = n - 1 + 1 by omega, nI_pred]
      rfl
    · have a : rd_ni tr (i + 1) = rd_ni tr i := if_pos z
      rw [a] at h
      exact nm_r (rd_pm i) (ih (by omega) h)
theorem rd_xNT {post : SX → Prop} {m n : Nat} {c d p o tr nx wl uh fd : Nat → Nat} (hn : n ≤ 5) (hb : ∀ q, q < n → tr q < 2 ^ 31) (h : post (nI m, nI n, rd_A c, rd_A d, rd_A p, rd_A o, rd_A (rd_next n tr), rd_A nx, rd_A wl, rd_A uh, rd_A fd)) : wpX_nextTrial post (nI m, nI n, rd_A c, rd_A d, rd_A p, rd_A o, rd_A tr, rd_A nx, rd_A wl, rd_A uh, rd_A fd) := by
  cases n with
  | zero =>
    have a : rd_next 0 tr = tr := if_pos rfl
    rw [a] at h
    exact nm_e ⟨1, br_t (by decide) (br_f (by decide) h)⟩
  | succ n => exact nm_r (rd_pm2 n) ⟨n + 1, rd_xNT1 hn hb n (Nat.le_refl _) h⟩
theorem rd_xTTOl {post : SX → Prop} {m n : Nat} {c d p o tr nx wl uh fd : Nat → Nat} (hn : n ≤ 5) (h : post (nI m, nI n, rd_A c, rd_A d, rd_A p, rd_A (rd_cp o tr n), rd_A tr, rd_A nx, rd_A wl, rd_A uh, rd_A fd)) : ∀ (e i : Nat), i + e = n → wX_takeTrialAsOrder_2 post (nI m) (nI n) (e + 1) (nI i) (rd_A c) (rd_A d) (rd_A p) (rd_A (rd_cp o tr i)) (rd_A tr) (rd_A nx) (rd_A wl) (rd_A uh) (rd_A fd) := by
  intro e
  induction e with
  | zero =>
    intro i hi
    have e : i = n := by omega
    subst e
    exact br_t (nI_le (Nat.le_refl i) (by omega)) h
  | succ e ih =>
    intro i hi
    have hi5 : i < 5 := by omega
    exact br_f (nI_ge (by omega) (by omega)) ⟨rd_i hi5, ⟨rd_i hi5, nm_r ((rd_s (x := tr i) hi5 (rd_g hi5)).trans (congrArg rd_A (rd_cpS o tr i))) (nm_r (nI_1 i) (ih (i + 1) (by omega)))⟩⟩
theorem rd_xTTO {post : SX → Prop} {m n : Nat} {c d p o tr nx wl uh fd : Nat → Nat} (hn : n ≤ 5) (h : post (nI m, nI n, rd_A c, rd_A d, rd_A p, rd_A (rd_cp o tr n), rd_A tr, rd_A nx, rd_A wl, rd_A uh, rd_A fd)) : wpX_takeTrialAsOrder post (nI m, nI n, rd_A c, rd_A d, rd_A p, rd_A o, rd_A tr, rd_A nx, rd_A wl, rd_A uh, rd_A fd) := by
  have a := rd_xTTOl (wl := wl) hn h n 0 (Nat.zero_add n)
  rw [rd_cp0] at a
  exact ⟨n + 1, a⟩
end
section
/-! ===== the well-formed state over the calls ===== -/
def rd_XS (m : Nat) (c d p o : Nat → Nat) (u : SX) : Prop := ∃ tr nx wl uh fd : Nat → Nat, u = (nI m, nI (rd_n m), rd_A c, rd_A d, rd_A p, rd_A o, rd_A tr, rd_A nx, rd_A wl, rd_A uh, rd_A fd)
def rd_YS (m : Nat) (c d p o : Nat → Nat) (v : SY) : Prop := ∃ ro lf gv : Nat → Nat, v = (nI (rd_n m), rd_B m, rd_A c, rd_A d, rd_A p, rd_A o, rd_A ro, rd_A lf, rd_A gv)
theorem rd_WFadd {m a b e : Nat} {c d p o : Nat → Nat} (W : rd_WF m (rd_n m) c d p o) (hn : rd_n m < 5) (h1 : 1 ≤ a) (h2 : a ≤ b) (h3 : b ≤ e) (h4 : e ≤ 15) : rd_WF (m ||| 2 ^ rd_fr m) (rd_n (m ||| 2 ^ rd_fr m)) (rd_up c (rd_fr m) a) (rd_up d (rd_fr m) b) (rd_up p (rd_fr m) e) (rd_up o (rd_n m) (rd_fr m)) := by
  obtain ⟨hm, _, hR, hN⟩ := W
  obtain ⟨hk, hf⟩ := rd_fr1 m hm hn
  refine ⟨rd_orL m hm _ hk, rfl, ?_, rd_NumOr hm hk hN h1 h2 h3 h4⟩
  rw [rd_nor m hm _ hk hf, ← rd_putN]
  exact rd_putRow hm hR hk hf (Nat.le_refl _)
theorem rd_WFrem {m j k : Nat} {c d p o : Nat → Nat} (W : rd_WF m (rd_n m) c d p o) (hk : k < 5) (hb : m.testBit k = true) (hj : j < rd_n m) (e : o j = k) : rd_WF (rd_cl m k) (rd_n (rd_cl m k)) c d p (rd_take o (rd_n m) j) := by
  obtain ⟨hm, _, hR, hN⟩ := W
  refine ⟨rd_clL m hm k hk, rfl, ?_, rd_NumCl hm hk hN⟩
  have a := rd_ncl m hm k hk hb
  rw [← a] at hR hj ⊢
  exact rd_takeRow hm hR hj e
theorem rd_WFpla {m j k i : Nat} {c d p o : Nat → Nat} (W : rd_WF m (rd_n m) c d p o) (hk : k < 5) (hb : m.testBit k = true) (hj : j < rd_n m) (e : o j = k) (hi : i < rd_n m) : rd_WF m (rd_n m) c d p (rd_put (rd_take o (rd_n m) j) (rd_n m - 1) k i) := by
  have W' := rd_WFrem W hk hb hj e
  obtain ⟨hm, _, hR, hN⟩ := W
  obtain ⟨hm', _, hR', _⟩ := W'
  refine ⟨hm, rfl, ?_, hN⟩
  have a := rd_ncl m hm k hk hb
  have b := rd_putRow (i := i) hm' hR' hk (rd_clbk m hm k hk) (by omega)
  rw [rd_clor m hm k hk hb, a] at b
  rw [show rd_n m - 1 = rd_n (rd_cl m k) by omega]
  exact b
theorem rd_WFrow {m n : Nat} {c d p o row : Nat → Nat} (W : rd_WF m n c d p o) {code : Nat} (hc : code < rd_fac n) (h : ∀ i, i < n → row i = rd_pe m code i) : rd_WF m n c d p row := by
  obtain ⟨hm, hn, _, hN⟩ := W
  subst hn
  exact ⟨hm, rfl, rd_RowC (fun i hi => (h i hi).symm) (rd_peRow hm hc), hN⟩
theorem rd_WFc {m n k x : Nat} {c d p o : Nat → Nat} (W : rd_WF m n c d p o) (h1 : 1 ≤ x) (h2 : x ≤ d k) : rd_WF m n (rd_up c k x) d p o := ⟨W.1, W.2.1, W.2.2.1, rd_NumC W.2.2.2 h1 h2⟩
theorem rd_WFp {m n k x : Nat} {c d p o : Nat → Nat} (W : rd_WF m n c d p o) (h1 : d k ≤ x) (h2 : x ≤ 15) : rd_WF m n c d (rd_up p k x) o := ⟨W.1, W.2.1, W.2.2.1, rd_NumP W.2.2.2 h1 h2⟩
/-- the order with number code is good -/
def rd_gc (m : Nat) (c d p : Nat → Nat) (code : Nat) : Bool := rd_good m c d p (rd_pe m code) (rd_n m)
theorem rd_gcR {m code : Nat} {c d p row : Nat → Nat} (h : ∀ i, i < rd_n m → row i = rd_pe m code i) : rd_good m c d p row (rd_n m) = rd_gc m c d p code := rd_goodR h
/-- what the desk asks: are all tasks timely -/
theorem rd_txG {m n : Nat} {c d p row : Nat → Nat} (W : rd_WF m n c d p row) : rd_tx (rd_ok m c d p row n) row n < 32 ∧ (rd_tx (rd_ok m c d p row n) row n = m ↔ rd_good m c d p row n = true) :=
  ⟨(rd_txB n (fun j hj => (W.2.2.1.1 j hj).1)).1, rd_txAll W.1 W.2.2.1⟩
theorem rd_lsB {f : Nat → Bool} {e : Nat → Nat} : ∀ N, (∀ i, i < N → e i < 5) → rd_ls f e N < 32 := by
  intro N
  induction N with
  | zero => intro _; exact (show (0 : Nat) < 32 by decide)
  | succ N ih =>
    intro h
    have a := ih (fun i hi => h i (by omega))
    show (if f N = true then rd_ls f e N ||| 2 ^ e N else rd_ls f e N) < 32
    by_cases z : f N = true
    · rw [if_pos z]
      exact rd_orL _ a _ (h N (Nat.lt_succ_self N))
    · rw [if_neg z]
      exact a
theorem rd_Tem (m : Nat) (x : Int32) : (∃ j, j < 5 ∧ x = nI j ∧ m.testBit j = true) ∨ (∀ j, j < 5 → x = nI j → m.testBit j = false) := by
  rcases pk_ix x (n := 5) (by decide) with h | h | ⟨j, hj, e⟩
  · exact Or.inr (fun j hj e => (rd_no1 h (by omega) e).elim)
  · exact Or.inr (fun j hj e => (rd_no2 h hj (by decide) e).elim)
  · cases z : m.testBit j with
    | true => exact Or.inl ⟨j, hj, e, z⟩
    | false =>
      refine Or.inr (fun i hi e' => ?_)
      rw [← rd_inj5 hj hi (e.symm.trans e')]
      exact z
theorem rd_Pem (n : Nat) (hn : n ≤ 5) (x : Int32) : (∃ j, j < n ∧ x = nI j) ∨ (∀ j, j < n → ¬ x = nI j) := by
  rcases pk_ix x (n := n) (by omega) with h | h | ⟨j, hj, e⟩
  · exact Or.inr (fun j hj e => rd_no1 h (by omega) e)
  · exact Or.inr (fun j hj e => rd_no2 h hj (by omega) e)
  · exact Or.inl ⟨j, hj, e⟩
/-- the three numbers of a task are fine -/
def rd_fine (x y z : Int32) : Prop := 1 ≤ x ∧ x ≤ y ∧ y ≤ z ∧ z ≤ 15
theorem rd_fineN {x y z : Int32} (h : rd_fine x y z) : ∃ a b e : Nat, x = nI a ∧ y = nI b ∧ z = nI e ∧ 1 ≤ a ∧ a ≤ b ∧ b ≤ e ∧ e ≤ 15 := by
  obtain ⟨h1, h2, h3, h4⟩ := h
  have p1 : (0 : Int32) ≤ x := Int32.le_trans (by decide) h1
  have p2 := Int32.le_trans p1 h2
  have p3 := Int32.le_trans p2 h3
  obtain ⟨a, ha, rfl⟩ := nI_of (x := x) (Int32.not_lt.mpr p1)
  obtain ⟨b, hb, rfl⟩ := nI_of (x := y) (Int32.not_lt.mpr p2)
  obtain ⟨e, he, rfl⟩ := nI_of (x := z) (Int32.not_lt.mpr p3)
  refine ⟨a, b, e, rfl, rfl, rfl, ?_, (nI_leI ha hb).mp h2, (nI_leI hb he).mp h3, ?_⟩
  · exact (nI_leI (a := 1) (by decide) ha).mp h1
  · exact (nI_leI (b := 15) he (by decide)).mp h4
theorem rd_Nfine {a b e : Nat} (h1 : 1 ≤ a) (h2 : a ≤ b) (h3 : b ≤ e) (h4 : e ≤ 15) : rd_fine (nI a) (nI b) (nI e) :=
  ⟨nI_le (a := 1) h1 (by omega), nI_le h2 (by omega), nI_le h3 (by omega), nI_le (b := 15) h4 (by decide)⟩
end
section
/-! ===== the desk: its calls ===== -/
theorem rd_nlt {a b : Int32} (h : a ≤ b) : ¬ b < a := Int32.not_lt.mpr h
theorem rd_xIsK {post : Int32 → Prop} {m n k : Nat} {c d p o tr nx wl uh fd : Nat → Nat} (hm : m < 32) (hk : k < 5) (hb : m.testBit k = true) (h : post 1) : wpX_isTask post (nI m, nI n, rd_A c, rd_A d, rd_A p, rd_A o, rd_A tr, rd_A nx, rd_A wl, rd_A uh, rd_A fd) (nI k) :=
  rd_xIs (nI k) hm (fun _ _ _ _ => h) (fun z => by have := z k hk rfl; rw [hb] at this; exact nomatch this)
theorem rd_xIsN {post : Int32 → Prop} {m n : Nat} {c d p o tr nx wl uh fd : Nat → Nat} {x : Int32} (hm : m < 32) (hx : ∀ j, j < 5 → x = nI j → m.testBit j = false) (h : post 0) : wpX_isTask post (nI m, nI n, rd_A c, rd_A d, rd_A p, rd_A o, rd_A tr, rd_A nx, rd_A wl, rd_A uh, rd_A fd) x :=
  rd_xIs x hm (fun j hj e z => by rw [hx j hj e] at z; exact nomatch z) (fun _ => h)
theorem rd_xPlK {post : Int32 → Prop} {m n i : Nat} {c d p o tr nx wl uh fd : Nat → Nat} (hn : n ≤ 5) (hi : i < n) (h : post 1) : wpX_isPlace post (nI m, nI n, rd_A c, rd_A d, rd_A p, rd_A o, rd_A tr, rd_A nx, rd_A wl, rd_A uh, rd_A fd) (nI i) :=
  rd_xPl (nI i) hn (fun _ _ _ => h) (fun z => absurd rfl (z i hi))
theorem rd_xPlN {post : Int32 → Prop} {m n : Nat} {c d p o tr nx wl uh fd : Nat → Nat} {x : Int32} (hn : n ≤ 5) (hx : ∀ j, j < n → ¬ x = nI j) (h : post 0) : wpX_isPlace post (nI m, nI n, rd_A c, rd_A d, rd_A p, rd_A o, rd_A tr, rd_A nx, rd_A wl, rd_A uh, rd_A fd) x :=
  rd_xPl x hn (fun j hj e => absurd e (hx j hj)) (fun _ => h)
theorem rd_xAddB {post : Int32 → SX → Prop} {m : Nat} {c d p o : Nat → Nat} {u : SX} {x y z : Int32} (U : rd_XS m c d p o u) (hf : ¬ rd_fine x y z) (h : post (-1) u) : wpX_add post u x y z := by
  obtain ⟨tr, nx, wl, uh, fd, rfl⟩ := U
  by_cases h1 : 1 ≤ x
  · by_cases h2 : x ≤ y
    · by_cases h3 : y ≤ z
      · by_cases h4 : z ≤ 15
        · exact absurd ⟨h1, h2, h3, h4⟩ hf
        · exact br_f (rd_nlt h1) (br_f (rd_nlt h2) (br_f (rd_nlt h3) (br_f h4 h)))
      · exact br_f (rd_nlt h1) (br_f (rd_nlt h2) (br_t (Int32.not_le.mp h3) h))
    · exact br_f (rd_nlt h1) (br_t (Int32.not_le.mp h2) h)
  · exact br_t (Int32.not_le.mp h1) h
theorem rd_xAddF {post : Int32 → SX → Prop} {m : Nat} {c d p o : Nat → Nat} {u : SX} {x y z : Int32} (U : rd_XS m c d p o u) (hf : rd_fine x y z) (hn : rd_n m = 5) (h : post (-2) u) : wpX_add post u x y z := by
  obtain ⟨tr, nx, wl, uh, fd, rfl⟩ := U
  obtain ⟨h1, h2, h3, h4⟩ := hf
  exact br_f (rd_nlt h1) (br_f (rd_nlt h2) (br_f (rd_nlt h3) (br_t h4 (br_f (by rw [hn]; decide) h))))
theorem rd_xAddK {post : Int32 → SX → Prop} {m a b e : Nat} {c d p o : Nat → Nat} {u : SX} (W : rd_WF m (rd_n m) c d p o) (U : rd_XS m c d p o u) (h1 : 1 ≤ a) (h2 : a ≤ b) (h3 : b ≤ e) (h4 : e ≤ 15) (hn : rd_n m < 5) (h : ∀ u', rd_XS (m ||| 2 ^ rd_fr m) (rd_up c (rd_fr m) a) (rd_up d (rd_fr m) b) (rd_up p (rd_fr m) e) (rd_up o (rd_n m) (rd_fr m)) u' → post (nI (rd_fr m)) u') : wpX_add post u (nI a) (nI b) (nI e) := by
  obtain ⟨tr, nx, wl, uh, fd, rfl⟩ := U
  obtain ⟨g1, g2, g3, g4⟩ := rd_Nfine h1 h2 h3 h4
  obtain ⟨hk, hf⟩ := rd_fr1 m W.1 hn
  have e2 := rd_nor m W.1 _ hk hf
  refine br_f (rd_nlt g1) (br_f (rd_nlt g2) (br_f (rd_nlt g3) (br_t g4 (br_t (nI_lt (b := 5) hn (by decide)) ?_))))
  refine rd_xLF W.1 ⟨rd_i hk, nm_r (rd_s hk rfl) ⟨rd_i hk, nm_r (rd_s hk rfl) ⟨rd_i hk, nm_r (rd_s hk rfl) (nm_r (rd_or m W.1 _ hk) ?_)⟩⟩⟩
  refine rd_xPI hn (Nat.le_refl _) ?_
  refine h _ ⟨tr, nx, wl, uh, fd, ?_⟩
  rw [rd_putN, e2]
theorem rd_xRemN {post : Int32 → SX → Prop} {m : Nat} {c d p o : Nat → Nat} {u : SX} {x : Int32} (hm : m < 32) (U : rd_XS m c d p o u) (hx : ∀ j, j < 5 → x = nI j → m.testBit j = false) (h : post 0 u) : wpX_remove post u x := by
  obtain ⟨tr, nx, wl, uh, fd, rfl⟩ := U
  unfold wpX_remove
  exact rd_xIsN hm hx (br_t rfl h)
theorem rd_xRemK {post : Int32 → SX → Prop} {m j k : Nat} {c d p o : Nat → Nat} {u : SX} (W : rd_WF m (rd_n m) c d p o) (U : rd_XS m c d p o u) (hk : k < 5) (hb : m.testBit k = true) (hj : j < rd_n m) (ej : o j = k) (h : ∀ u', rd_XS (rd_cl m k) c d p (rd_take o (rd_n m) j) u' → post 1 u') : wpX_remove post u (nI k) := by
  obtain ⟨tr, nx, wl, uh, fd, rfl⟩ := U
  obtain ⟨hm, _, hR, hN⟩ := W
  have hn5 := (rd_n5 m hm).1
  have en := rd_ncl m hm k hk hb
  unfold wpX_remove
  refine rd_xIsK hm hk hb (br_f (by decide) ?_)
  refine rd_xTO hn5 hj hk (fun i hi => (hR.1 i hi).1) ej (fun i hi ne e => ne (hR.2.1 i hi j hj (e.trans ej.symm))) (nm_r (rd_clr m hm k hk) (h _ ⟨tr, nx, wl, uh, fd, ?_⟩))
  rw [show rd_n m - 1 = rd_n (rd_cl m k) by omega]
theorem rd_xPlaN {post : Int32 → SX → Prop} {m : Nat} {c d p o : Nat → Nat} {u : SX} {x y : Int32} (hm : m < 32) (U : rd_XS m c d p o u) (hx : (∀ j, j < 5 → x = nI j → m.testBit j = false) ∨ (∀ j, j < rd_n m → ¬ y = nI j)) (h : post 0 u) : wpX_place post u x y := by
  obtain ⟨tr, nx, wl, uh, fd, rfl⟩ := U
  unfold wpX_place
  rcases rd_Tem m x with ⟨q, hq, rfl, hb⟩ | hx'
  · rcases hx with hx | hy
    · have := hx q hq rfl
      rw [hb] at this
      exact nomatch this
    · exact rd_xIsK hm hq hb (br_f (by decide) (rd_xPlN (rd_n5 m hm).1 hy (br_t rfl h)))
  · exact rd_xIsN hm hx' (br_t rfl h)
theorem rd_xPlaK {post : Int32 → SX → Prop} {m j k i : Nat} {c d p o : Nat → Nat} {u : SX} (W : rd_WF m (rd_n m) c d p o) (U : rd_XS m c d p o u) (hk : k < 5) (hb : m.testBit k = true) (hj : j < rd_n m) (ej : o j = k) (hi : i < rd_n m) (h : ∀ u', rd_XS m c d p (rd_put (rd_take o (rd_n m) j) (rd_n m - 1) k i) u' → post 1 u') : wpX_place post u (nI k) (nI i) := by
  obtain ⟨tr, nx, wl, uh, fd, rfl⟩ := U
  obtain ⟨hm, _, hR, hN⟩ := W
  have hn5 := (rd_n5 m hm).1
  unfold wpX_place
  refine rd_xIsK hm hk hb (br_f (by decide) (rd_xPlK hn5 hi (br_f (by decide) ?_)))
  refine rd_xTO hn5 hj hk (fun i hi => (hR.1 i hi).1) ej (fun i hi ne e => ne (hR.2.1 i hi j hj (e.trans ej.symm))) ?_
  refine rd_xPI (by omega) (by omega) (h _ ⟨tr, nx, wl, uh, fd, ?_⟩)
  rw [show rd_n m - 1 + 1 = rd_n m by omega]
theorem rd_xTsk {post : Int32 → Prop} {m : Nat} {c d p o : Nat → Nat} {u : SX} (U : rd_XS m c d p o u) (h : post (nI m)) : wpX_tasks post u := by
  obtain ⟨tr, nx, wl, uh, fd, rfl⟩ := U
  exact h
theorem rd_xAtK {post : Int32 → Prop} {m i : Nat} {c d p o : Nat → Nat} {u : SX} (hm : m < 32) (U : rd_XS m c d p o u) (hi : i < rd_n m) (h : post (nI (o i))) : wpX_at post u (nI i) := by
  obtain ⟨tr, nx, wl, uh, fd, rfl⟩ := U
  have hn5 := (rd_n5 m hm).1
  unfold wpX_at
  refine rd_xPlK hn5 hi (br_f (by decide) ⟨rd_i (by omega), ?_⟩)
  rw [rd_g (by omega)]
  exact h
theorem rd_xAtN {post : Int32 → Prop} {m : Nat} {c d p o : Nat → Nat} {u : SX} {x : Int32} (hm : m < 32) (U : rd_XS m c d p o u) (hx : ∀ j, j < rd_n m → ¬ x = nI j) (h : post (-1)) : wpX_at post u x := by
  obtain ⟨tr, nx, wl, uh, fd, rfl⟩ := U
  unfold wpX_at
  exact rd_xPlN (rd_n5 m hm).1 hx (br_t rfl h)
theorem rd_xResN {post : Int32 → SX → Prop} {m : Nat} {c d p o : Nat → Nat} {u : SX} {x : Int32} (hm : m < 32) (U : rd_XS m c d p o u) (hx : ∀ j, j < 5 → x = nI j → m.testBit j = false) (h : post (-1) u) : wpX_response post u x := by
  obtain ⟨tr, nx, wl, uh, fd, rfl⟩ := U
  unfold wpX_response
  exact rd_xIsN hm hx (br_t rfl h)
theorem rd_xResK {post : Int32 → SX → Prop} {m k : Nat} {c d p o : Nat → Nat} {u : SX} (W : rd_WF m (rd_n m) c d p o) (U : rd_XS m c d p o u) (hk : k < 5) (hb : m.testBit k = true) (h : ∀ u', rd_XS m c d p o u' → post (rd_R (rd_fd m c p o (rd_n m) 15 k) (p k)) u') : wpX_response post u (nI k) := by
  obtain ⟨tr, nx, wl, uh, fd, rfl⟩ := U
  obtain ⟨q0, q1, q2, q3⟩ := W.2.2.2 k hb
  unfold wpX_response
  refine rd_xIsK W.1 hk hb (br_f (by decide) ?_)
  refine rd_xRS_order (T := 15) W (by decide) (fun nx wl uh fd H => ?_)
  have ef := (H k hk).2.2.1
  have bf := rd_fdB (m := m) (c := c) (p := p) (row := o) (n := rd_n m) 15 k
  refine rd_xRR hk (by omega) (by omega) ?_
  rw [ef]
  exact h _ ⟨tr, nx, wl, uh, fd, rfl⟩
theorem rd_xGood {post : Int32 → SX → Prop} {m : Nat} {c d p o : Nat → Nat} {u : SX} (W : rd_WF m (rd_n m) c d p o) (U : rd_XS m c d p o u) (h : ∀ u', rd_XS m c d p o u' → post (rd_b (rd_good m c d p o (rd_n m))) u') : wpX_good post u := by
  obtain ⟨tr, nx, wl, uh, fd, rfl⟩ := U
  have hm := W.1
  obtain ⟨b, e⟩ := rd_txG W
  unfold wpX_good
  refine rd_xTT_order W (fun nx wl uh fd => ?_)
  have h' := h _ ⟨tr, nx, wl, uh, fd, rfl⟩
  refine pk_eq (rd_tx (rd_ok m c d p o (rd_n m)) o (rd_n m)) m (fun z => ?_) (fun z => ?_)
  · rw [rd_bt (e.mp z)] at h'
    exact h'
  · rw [rd_bf (fun y => z (e.mpr y))] at h'
    exact h'
theorem rd_xInT {post : Int32 → SX → Prop} {m : Nat} {c d p o : Nat → Nat} {u : SX} (W : rd_WF m (rd_n m) c d p o) (U : rd_XS m c d p o u) (h : ∀ u', rd_XS m c d p o u' → post (nI (rd_tx (rd_ok m c d p o (rd_n m)) o (rd_n m))) u') : wpX_inTime post u := by
  obtain ⟨tr, nx, wl, uh, fd, rfl⟩ := U
  unfold wpX_inTime
  exact rd_xTT_order W (fun nx wl uh fd => h _ ⟨tr, nx, wl, uh, fd, rfl⟩)
/-! the searches over all orders -/
/-- after the step the trial is the next order, if there is one -/
theorem rd_trN {m e : Nat} {tr : Nat → Nat} (hm : m < 32) (he : e < rd_fac (rd_n m)) (H : ∀ i, i < rd_n m → tr i = rd_pe m e i) : e + 1 < rd_fac (rd_n m) → ∀ i, i < rd_n m → rd_next (rd_n m) tr i = rd_pe m (e + 1) i := by
  intro h i hi
  rw [rd_nextC (by omega) H i hi]
  exact rd_peNext m hm e he h i hi
theorem rd_trB {m e : Nat} {tr : Nat → Nat} (hm : m < 32) (he : e < rd_fac (rd_n m)) (H : ∀ i, i < rd_n m → tr i = rd_pe m e i) : ∀ i, i < rd_n m → tr i < 2 ^ 31 := by
  intro i hi
  have := (rd_peIn m hm e he i hi).1
  rw [H i hi]
  omega
theorem rd_xGOl {post : Int32 → SX → Prop} {m : Nat} {c d p o : Nat → Nat} (W : rd_WF m (rd_n m) c d p o) (h : ∀ u', rd_XS m c d p o u' → post (nI (rd_cnt (rd_gc m c d p) (rd_fac (rd_n m)))) u') : ∀ (e i : Nat) (tr nx wl uh fd : Nat → Nat), i + e = rd_fac (rd_n m) → (i < rd_fac (rd_n m) → ∀ q, q < rd_n m → tr q = rd_pe m i q) → wX_goodOrders_13 post (nI (rd_fac (rd_n m))) (e + 1) (nI (rd_cnt (rd_gc m c d p) i)) (nI i) (nI m) (nI (rd_n m)) (rd_A c) (rd_A d) (rd_A p) (rd_A o) (rd_A tr) (rd_A nx) (rd_A wl) (rd_A uh) (rd_A fd) := by
  have hm := W.1
  have hn5 := (rd_n5 m hm).1
  have hF := (rd_facB (rd_n m) (by omega)).1
  intro e
  induction e with
  | zero =>
    intro i tr nx wl uh fd hi H
    have e : i = rd_fac (rd_n m) := by omega
    rw [e]
    exact br_t (nI_le (Nat.le_refl _) (by omega)) (h _ ⟨tr, nx, wl, uh, fd, rfl⟩)
  | succ e ih =>
    intro i tr nx wl uh fd hi H
    have hiF : i < rd_fac (rd_n m) := by omega
    have Hi := H hiF
    have W' := rd_WFrow W hiF Hi
    obtain ⟨b, eg⟩ := rd_txG W'
    have cB := rd_cntB (rd_gc m c d p) i
    refine br_f (nI_ge hiF (by omega)) (rd_xTT_trial W' (fun nx wl uh fd => pk_eq (rd_tx (rd_ok m c d p tr (rd_n m)) tr (rd_n m)) m (fun z => ?_) (fun z => ?_)))
    · have a : rd_cnt (rd_gc m c d p) (i + 1) = rd_cnt (rd_gc m c d p) i + 1 := if_pos (by rw [← rd_gcR Hi]; exact eg.mp z)
      refine nm_r (nI_1 _) ?_
      unfold wX_goodOrders_36
      refine rd_xNT hn5 (rd_trB hm hiF Hi) (nm_r (nI_1 i) ?_)
      rw [← a]
      exact ih (i + 1) _ _ _ _ _ (by omega) (rd_trN hm hiF Hi)
    · have a : rd_cnt (rd_gc m c d p) (i + 1) = rd_cnt (rd_gc m c d p) i := if_neg (by rw [← rd_gcR Hi]; exact fun y => z (eg.mpr y))
      unfold wX_goodOrders_36
      refine rd_xNT hn5 (rd_trB hm hiF Hi) (nm_r (nI_1 i) ?_)
      rw [← a]
      exact ih (i + 1) _ _ _ _ _ (by omega) (rd_trN hm hiF Hi)
theorem rd_xGO {post : Int32 → SX → Prop} {m : Nat} {c d p o : Nat → Nat} {u : SX} (W : rd_WF m (rd_n m) c d p o) (U : rd_XS m c d p o u) (h : ∀ u', rd_XS m c d p o u' → post (nI (rd_cnt (rd_gc m c d p) (rd_fac (rd_n m)))) u') : wpX_goodOrders post u := by
  obtain ⟨tr, nx, wl, uh, fd, rfl⟩ := U
  have hm := W.1
  have hn5 := (rd_n5 m hm).1
  unfold wpX_goodOrders
  refine rd_xNO hn5 (rd_xFT hm (fun tr' H => ?_))
  exact ⟨rd_fac (rd_n m) + 1, rd_xGOl W h (rd_fac (rd_n m)) 0 tr' nx wl uh fd (Nat.zero_add _) (fun _ => H)⟩
theorem rd_xArrl {post : Int32 → SX → Prop} {m : Nat} {c d p o : Nat → Nat} (W : rd_WF m (rd_n m) c d p o) (h1 : ∀ e u', e < rd_fac (rd_n m) → rd_gc m c d p e = true → (∀ i, i < e → rd_gc m c d p i = false) → rd_XS m c d p (rd_cp o (rd_pe m e) (rd_n m)) u' → post 1 u') (h0 : (∀ e, e < rd_fac (rd_n m) → rd_gc m c d p e = false) → ∀ u', rd_XS m c d p o u' → post 0 u') : ∀ (e i : Nat) (tr nx wl uh fd : Nat → Nat), i + e = rd_fac (rd_n m) → (i < rd_fac (rd_n m) → ∀ q, q < rd_n m → tr q = rd_pe m i q) → (∀ q, q < i → rd_gc m c d p q = false) → wX_arrange_11 post (nI (rd_fac (rd_n m))) (e + 1) (nI i) (nI m) (nI (rd_n m)) (rd_A c) (rd_A d) (rd_A p) (rd_A o) (rd_A tr) (rd_A nx) (rd_A wl) (rd_A uh) (rd_A fd) := by
  have hm := W.1
  have hn5 := (rd_n5 m hm).1
  have hF := (rd_facB (rd_n m) (by omega)).1
  intro e
  induction e with
  | zero =>
    intro i tr nx wl uh fd hi H L
    have e : i = rd_fac (rd_n m) := by omega
    rw [e] at L ⊢
    exact br_t (nI_le (Nat.le_refl _) (by omega)) (h0 L _ ⟨tr, nx, wl, uh, fd, rfl⟩)
  | succ e ih =>
    intro i tr nx wl uh fd hi H L
    have hiF : i < rd_fac (rd_n m) := by omega
    have Hi := H hiF
    have W' := rd_WFrow W hiF Hi
    obtain ⟨b, eg⟩ := rd_txG W'
    refine br_f (nI_ge hiF (by omega)) (rd_xTT_trial W' (fun nx wl uh fd => pk_eq (rd_tx (rd_ok m c d p tr (rd_n m)) tr (rd_n m)) m (fun z => ?_) (fun z => ?_)))
    · refine rd_xTTO hn5 (h1 i _ hiF (by rw [← rd_gcR Hi]; exact eg.mp z) L ⟨tr, nx, wl, uh, fd, ?_⟩)
      rw [rd_cpC Hi]
    · have a : rd_gc m c d p i = false := rd_tf (by rw [← rd_gcR Hi]; exact fun y => z (eg.mpr y))
      refine rd_xNT hn5 (rd_trB hm hiF Hi) (nm_r (nI_1 i) (ih (i + 1) _ _ _ _ _ (by omega) (rd_trN hm hiF Hi) (fun q hq => ?_)))
      rcases Nat.lt_or_ge q i with y | y
      · exact L q y
      · rw [show q = i by omega]
        exact a
theorem rd_xArr {post : Int32 → SX → Prop} {m : Nat} {c d p o : Nat → Nat} {u : SX} (W : rd_WF m (rd_n m) c d p o) (U : rd_XS m c d p o u) (h1 : ∀ e u', e < rd_fac (rd_n m) → rd_gc m c d p e = true → (∀ i, i < e → rd_gc m c d p i = false) → rd_XS m c d p (rd_cp o (rd_pe m e) (rd_n m)) u' → post 1 u') (h0 : (∀ e, e < rd_fac (rd_n m) → rd_gc m c d p e = false) → ∀ u', rd_XS m c d p o u' → post 0 u') : wpX_arrange post u := by
  obtain ⟨tr, nx, wl, uh, fd, rfl⟩ := U
  have hm := W.1
  have hn5 := (rd_n5 m hm).1
  unfold wpX_arrange
  refine rd_xNO hn5 (rd_xFT hm (fun tr' H => ?_))
  exact ⟨rd_fac (rd_n m) + 1, rd_xArrl W h1 h0 (rd_fac (rd_n m)) 0 tr' nx wl uh fd (Nat.zero_add _) (fun _ => H) (fun q hq => absurd hq (Nat.not_lt_zero q))⟩
/-- the tasks that are last in a good order -/
def rd_lv (m : Nat) (c d p : Nat → Nat) (e : Nat) : Nat := rd_ls (rd_gc m c d p) (fun code => rd_pe m code (rd_n m - 1)) e
def rd_lv0 (m : Nat) (c d p : Nat → Nat) : Nat := if rd_n m = 0 then 0 else rd_lv m c d p (rd_fac (rd_n m))
theorem rd_lvB {m e : Nat} {c d p : Nat → Nat} (hm : m < 32) (hn : 0 < rd_n m) (he : e ≤ rd_fac (rd_n m)) : rd_lv m c d p e < 32 := rd_lsB e (fun i hi => (rd_peIn m hm i (by omega) _ (by omega)).1)
theorem rd_xCBLl {post : Int32 → SX → Prop} {m : Nat} {c d p o : Nat → Nat} (W : rd_WF m (rd_n m) c d p o) (hn : 0 < rd_n m) (h : ∀ u', rd_XS m c d p o u' → post (nI (rd_lv m c d p (rd_fac (rd_n m)))) u') : ∀ (e i : Nat) (tr nx wl uh fd : Nat → Nat), i + e = rd_fac (rd_n m) → (i < rd_fac (rd_n m) → ∀ q, q < rd_n m → tr q = rd_pe m i q) → wX_canBeLast_22 post (nI (rd_fac (rd_n m))) (e + 1) (nI (rd_lv m c d p i)) (nI i) (nI m) (nI (rd_n m)) (rd_A c) (rd_A d) (rd_A p) (rd_A o) (rd_A tr) (rd_A nx) (rd_A wl) (rd_A uh) (rd_A fd) := by
  have hm := W.1
  have hn5 := (rd_n5 m hm).1
  have hF := (rd_facB (rd_n m) (by omega)).1
  intro e
  induction e with
  | zero =>
    intro i tr nx wl uh fd hi H
    have e : i = rd_fac (rd_n m) := by omega
    rw [e]
    exact br_t (nI_le (Nat.le_refl _) (by omega)) (h _ ⟨tr, nx, wl, uh, fd, rfl⟩)
  | succ e ih =>
    intro i tr nx wl uh fd hi H
    have hiF : i < rd_fac (rd_n m) := by omega
    have Hi := H hiF
    have W' := rd_WFrow W hiF Hi
    obtain ⟨b, eg⟩ := rd_txG W'
    have e1 : nI (rd_n m) - 1 = nI (rd_n m - 1) := (rd_pm1 _).trans (by rw [show rd_n m = rd_n m - 1 + 1 by omega]; rfl)
    have t5 : tr (rd_n m - 1) < 5 := (W'.2.2.1.1 _ (by omega)).1
    refine br_f (nI_ge hiF (by omega)) (rd_xTT_trial W' (fun nx wl uh fd => pk_eq (rd_tx (rd_ok m c d p tr (rd_n m)) tr (rd_n m)) m (fun z => ?_) (fun z => ?_)))
    · have a : rd_lv m c d p (i + 1) = rd_lv m c d p i ||| 2 ^ tr (rd_n m - 1) := by
        rw [Hi _ (by omega)]
        exact if_pos (by rw [← rd_gcR Hi]; exact eg.mp z)
      refine ⟨pk_in (rd_n m - 1) 5 (by omega) e1, nm_r (e' := nI (rd_lv m c d p (i + 1))) ?_ ?_⟩
      · rw [a, e1, rd_g (by omega), rd_or _ (rd_lvB hm hn (by omega)) _ t5]
      · unfold wX_canBeLast_58
        exact rd_xNT hn5 (rd_trB hm hiF Hi) (nm_r (nI_1 i) (ih (i + 1) _ _ _ _ _ (by omega) (rd_trN hm hiF Hi)))
    · have a : rd_lv m c d p (i + 1) = rd_lv m c d p i := if_neg (by rw [← rd_gcR Hi]; exact fun y => z (eg.mpr y))
      unfold wX_canBeLast_58
      refine rd_xNT hn5 (rd_trB hm hiF Hi) (nm_r (nI_1 i) ?_)
      rw [← a]
      exact ih (i + 1) _ _ _ _ _ (by omega) (rd_trN hm hiF Hi)
theorem rd_xCBL {post : Int32 → SX → Prop} {m : Nat} {c d p o : Nat → Nat} {u : SX} (W : rd_WF m (rd_n m) c d p o) (U : rd_XS m c d p o u) (h : ∀ u', rd_XS m c d p o u' → post (nI (rd_lv0 m c d p)) u') : wpX_canBeLast post u := by
  have U0 := U
  obtain ⟨tr, nx, wl, uh, fd, rfl⟩ := U
  have hm := W.1
  have hn5 := (rd_n5 m hm).1
  unfold rd_lv0 at h
  unfold wpX_canBeLast
  refine pk_eq (rd_n m) 0 (fun z => ?_) (fun z => ?_)
  · rw [if_pos z] at h
    exact h _ U0
  · rw [if_neg z] at h
    refine rd_xNO hn5 (rd_xFT hm (fun tr' H => ?_))
    exact ⟨rd_fac (rd_n m) + 1, rd_xCBLl W (by omega) h (rd_fac (rd_n m)) 0 tr' nx wl uh fd (Nat.zero_add _) (fun _ => H)⟩
end
section
/-! ===== the desk: its calls, the rest ===== -/
theorem rd_xGCN {post : Int32 → SX → Prop} {m : Nat} {c d p o : Nat → Nat} {u : SX} {x : Int32} (hm : m < 32) (U : rd_XS m c d p o u) (hx : ∀ j, j < 5 → x = nI j → m.testBit j = false) (h : post (-1) u) : wpX_greatestCost post u x := by
  obtain ⟨tr, nx, wl, uh, fd, rfl⟩ := U
  unfold wpX_greatestCost
  exact rd_xIsN hm hx (br_t rfl h)
theorem rd_xLPN {post : Int32 → SX → Prop} {m : Nat} {c d p o : Nat → Nat} {u : SX} {x : Int32} (hm : m < 32) (U : rd_XS m c d p o u) (hx : ∀ j, j < 5 → x = nI j → m.testBit j = false) (h : post (-1) u) : wpX_leastPeriod post u x := by
  obtain ⟨tr, nx, wl, uh, fd, rfl⟩ := U
  unfold wpX_leastPeriod
  exact rd_xIsN hm hx (br_t rfl h)
/-- good with another cost, another period of k -/
def rd_fc (m : Nat) (c d p o : Nat → Nat) (k x : Nat) : Bool := rd_good m (rd_up c k x) d p o (rd_n m)
def rd_fp (m : Nat) (c d p o : Nat → Nat) (k x : Nat) : Bool := rd_good m c d (rd_up p k x) o (rd_n m)
theorem rd_xGCl {post : Int32 → SX → Prop} {m k : Nat} {c d p o : Nat → Nat} (W : rd_WF m (rd_n m) c d p o) (hk : k < 5) (hb : m.testBit k = true) (h : ∀ u', rd_XS m c d p o u' → post (nI (rd_last (rd_fc m c d p o k) (d k))) u') : ∀ (i y : Nat) (tr nx wl uh fd : Nat → Nat), i ≤ d k → rd_last (rd_fc m c d p o k) i = rd_last (rd_fc m c d p o k) (d k) → wX_greatestCost_27 post (nI k) (nI (c k)) (i + 1) 0 (nI i) (nI m) (nI (rd_n m)) (rd_A (rd_up c k y)) (rd_A d) (rd_A p) (rd_A o) (rd_A tr) (rd_A nx) (rd_A wl) (rd_A uh) (rd_A fd) := by
  have hm := W.1
  have hn5 := (rd_n5 m hm).1
  obtain ⟨q0, q1, q2, q3⟩ := W.2.2.2 k hb
  have fin : ∀ (y : Nat) (tr nx wl uh fd : Nat → Nat), vp_in (nI k) 5 ∧ ∀ a : Nat → Int32, a = upd (rd_A (rd_up c k y)) (nI k).toNatClampNeg (nI (c k)) → post (nI (rd_last (rd_fc m c d p o k) (d k))) (nI m, nI (rd_n m), a, rd_A d, rd_A p, rd_A o, rd_A tr, rd_A nx, rd_A wl, rd_A uh, rd_A fd) := by
    intro y tr nx wl uh fd
    exact ⟨rd_i hk, nm_r ((rd_s (x := c k) hk rfl).trans (by rw [rd_upup, rd_upid])) (h _ ⟨tr, nx, wl, uh, fd, rfl⟩)⟩
  intro i
  induction i with
  | zero =>
    intro y tr nx wl uh fd hi e
    have e0 : rd_last (rd_fc m c d p o k) (d k) = 0 := e.symm
    have f := fin y tr nx wl uh fd
    rw [e0] at f
    exact br_t (by decide) f
  | succ i ih =>
    intro y tr nx wl uh fd hi e
    have W' := rd_WFc (k := k) (x := i + 1) W (by omega) hi
    obtain ⟨b, eg⟩ := rd_txG W'
    refine br_f (nI_nlt (b := 1) (by omega) (by omega)) (br_t rfl ⟨rd_i hk, nm_r ((rd_s (x := i + 1) hk rfl).trans (by rw [rd_upup])) (rd_xTT_order W' (fun nx wl uh fd => pk_eq (rd_tx (rd_ok m (rd_up c k (i + 1)) d p o (rd_n m)) o (rd_n m)) m (fun z => ?_) (fun z => ?_)))⟩)
    · have ev : rd_last (rd_fc m c d p o k) (d k) = i + 1 := by
        rw [← e]
        exact rd_lastU (eg.mp z)
      have f := fin (i + 1) tr nx wl uh fd
      rw [ev] at f
      refine nm_r (pk_m1 i) ?_
      exact pk_lt i 1 (fun _ => f) (fun _ => br_f (nI_ne0 (by omega) (by omega)) f)
    · refine nm_r (pk_m1 i) (ih (i + 1) tr nx wl uh fd (by omega) ?_)
      rw [← e]
      exact (rd_lastN (f := rd_fc m c d p o k) (i := i) (fun w => z (eg.mpr w))).symm
theorem rd_xGCK {post : Int32 → SX → Prop} {m k : Nat} {c d p o : Nat → Nat} {u : SX} (W : rd_WF m (rd_n m) c d p o) (U : rd_XS m c d p o u) (hk : k < 5) (hb : m.testBit k = true) (h : ∀ u', rd_XS m c d p o u' → post (nI (rd_last (rd_fc m c d p o k) (d k))) u') : wpX_greatestCost post u (nI k) := by
  obtain ⟨tr, nx, wl, uh, fd, rfl⟩ := U
  unfold wpX_greatestCost
  refine rd_xIsK W.1 hk hb (br_f (by decide) ⟨rd_i hk, nm_r (rd_g hk) ⟨rd_i hk, nm_r (rd_g hk) ?_⟩⟩)
  have a := rd_xGCl W hk hb h (d k) (c k) tr nx wl uh fd (Nat.le_refl _) rfl
  rw [rd_upid] at a
  exact ⟨_, a⟩
theorem rd_xLPl {post : Int32 → SX → Prop} {m k : Nat} {c d p o : Nat → Nat} (W : rd_WF m (rd_n m) c d p o) (hk : k < 5) (hb : m.testBit k = true) (h : ∀ u', rd_XS m c d p o u' → post (nI (rd_frst (rd_fp m c d p o k) (16 - d k) (d k))) u') : ∀ (e i y : Nat) (tr nx wl uh fd : Nat → Nat), i + e = 16 → d k ≤ i → rd_frst (rd_fp m c d p o k) e i = rd_frst (rd_fp m c d p o k) (16 - d k) (d k) → wX_leastPeriod_27 post (nI k) (nI (p k)) (e + 1) 0 (nI i) (nI m) (nI (rd_n m)) (rd_A c) (rd_A d) (rd_A (rd_up p k y)) (rd_A o) (rd_A tr) (rd_A nx) (rd_A wl) (rd_A uh) (rd_A fd) := by
  have hm := W.1
  have hn5 := (rd_n5 m hm).1
  obtain ⟨q0, q1, q2, q3⟩ := W.2.2.2 k hb
  have fin : ∀ (y : Nat) (tr nx wl uh fd : Nat → Nat), vp_in (nI k) 5 ∧ ∀ a : Nat → Int32, a = upd (rd_A (rd_up p k y)) (nI k).toNatClampNeg (nI (p k)) → post (nI (rd_frst (rd_fp m c d p o k) (16 - d k) (d k))) (nI m, nI (rd_n m), rd_A c, rd_A d, a, rd_A o, rd_A tr, rd_A nx, rd_A wl, rd_A uh, rd_A fd) := by
    intro y tr nx wl uh fd
    exact ⟨rd_i hk, nm_r ((rd_s (x := p k) hk rfl).trans (by rw [rd_upup, rd_upid])) (h _ ⟨tr, nx, wl, uh, fd, rfl⟩)⟩
  intro e
  induction e with
  | zero =>
    intro i y tr nx wl uh fd hi hd e
    have e0 : rd_frst (rd_fp m c d p o k) (16 - d k) (d k) = 0 := e.symm
    have f := fin y tr nx wl uh fd
    rw [e0] at f
    exact br_t (nI_lt (a := 15) (by omega) (by omega)) f
  | succ e ih =>
    intro i y tr nx wl uh fd hi hd ee
    have W' := rd_WFp (k := k) (x := i) W hd (by omega)
    obtain ⟨b, eg⟩ := rd_txG W'
    refine br_f (nI_nlt (a := 15) (by omega) (by omega)) (br_t rfl ⟨rd_i hk, nm_r ((rd_s (x := i) hk rfl).trans (by rw [rd_upup])) (rd_xTT_order W' (fun nx wl uh fd => pk_eq (rd_tx (rd_ok m c d (rd_up p k i) o (rd_n m)) o (rd_n m)) m (fun z => ?_) (fun z => ?_)))⟩)
    · have ev : rd_frst (rd_fp m c d p o k) (16 - d k) (d k) = i := by
        rw [← ee]
        exact rd_frstU (eg.mp z)
      have f := fin i tr nx wl uh fd
      rw [ev] at f
      refine nm_r (nI_1 i) ?_
      exact pk_lt 15 (i + 1) (fun _ => f) (fun _ => br_f (nI_ne0 (by omega) (by omega)) f)
    · refine nm_r (nI_1 i) (ih (i + 1) i tr nx wl uh fd (by omega) (by omega) ?_)
      rw [← ee]
      exact (rd_frstN (f := rd_fp m c d p o k) (e := e) (a := i) (fun w => z (eg.mpr w))).symm
theorem rd_xLPK {post : Int32 → SX → Prop} {m k : Nat} {c d p o : Nat → Nat} {u : SX} (W : rd_WF m (rd_n m) c d p o) (U : rd_XS m c d p o u) (hk : k < 5) (hb : m.testBit k = true) (h : ∀ u', rd_XS m c d p o u' → post (nI (rd_frst (rd_fp m c d p o k) (16 - d k) (d k))) u') : wpX_leastPeriod post u (nI k) := by
  obtain ⟨tr, nx, wl, uh, fd, rfl⟩ := U
  obtain ⟨q0, q1, q2, q3⟩ := W.2.2.2 k hb
  unfold wpX_leastPeriod
  refine rd_xIsK W.1 hk hb (br_f (by decide) ⟨rd_i hk, nm_r (rd_g hk) ⟨rd_i hk, nm_r (rd_g hk) ?_⟩⟩)
  have a := rd_xLPl W hk hb h (16 - d k) (d k) (p k) tr nx wl uh fd (by omega) (Nat.le_refl _) rfl
  rw [rd_upid] at a
  exact ⟨_, a⟩
theorem rd_xIdN {post : Int32 → SX → Prop} {m : Nat} {c d p o : Nat → Nat} {u : SX} {x : Int32} (U : rd_XS m c d p o u) (hx : x < 0) (h : ∀ u', rd_XS m c d p o u' → post 0 u') : wpX_idle post u x := by
  obtain ⟨tr, nx, wl, uh, fd, rfl⟩ := U
  unfold wpX_idle
  refine br_t (Int32.le_trans (Int32.le_of_lt hx) (by decide)) ?_
  unfold wX_idle_17
  exact rd_xRSn hx (fun nx wl uh fd => h _ ⟨tr, nx, wl, uh, fd, rfl⟩)
/-- the units that idle asks for -/
def rd_60 (a : Nat) : Nat := if a ≤ 60 then a else 60
theorem rd_xIdK {post : Int32 → SX → Prop} {m a : Nat} {c d p o : Nat → Nat} {u : SX} (W : rd_WF m (rd_n m) c d p o) (U : rd_XS m c d p o u) (ha : a < 2 ^ 31) (h : ∀ u', rd_XS m c d p o u' → post (nI (rd_idle m c p o (rd_n m) (rd_60 a))) u') : wpX_idle post u (nI a) := by
  obtain ⟨tr, nx, wl, uh, fd, rfl⟩ := U
  unfold wpX_idle
  refine pk_le a 60 (fun z => ?_) (fun z => ?_)
  · rw [show rd_60 a = a from if_pos z] at h
    unfold wX_idle_17
    exact rd_xRS_order W z (fun nx wl uh fd _ => h _ ⟨tr, nx, wl, uh, fd, rfl⟩)
  · rw [show rd_60 a = 60 from if_neg (by omega)] at h
    unfold wX_idle_17
    exact rd_xRS_order (T := 60) W (Nat.le_refl _) (fun nx wl uh fd _ => h _ ⟨tr, nx, wl, uh, fd, rfl⟩)
/-! fits -/
theorem rd_WFfit {m a b e : Nat} {c d p o : Nat → Nat} (W : rd_WF m (rd_n m) c d p o) (hn : rd_n m < 5) : rd_WF m (rd_n m) (rd_up c (rd_fr m) a) (rd_up d (rd_fr m) b) (rd_up p (rd_fr m) e) (rd_up o (rd_n m) (rd_fr m)) := by
  obtain ⟨hm, _, hR, hN⟩ := W
  obtain ⟨hk, hf⟩ := rd_fr1 m hm hn
  refine ⟨hm, rfl, rd_RowC (fun i hi => (rd_un (by omega)).symm) hR, fun j hj => ?_⟩
  have ne : j ≠ rd_fr m := fun z => by rw [z, hf] at hj; exact nomatch hj
  rw [rd_un ne, rd_un ne, rd_un ne]
  exact hN j hj
/-- the answer of fits -/
def rd_fv (m a b e : Nat) (c d p : Nat → Nat) : Bool := decide (0 < rd_cnt (rd_gc (m ||| 2 ^ rd_fr m) (rd_up c (rd_fr m) a) (rd_up d (rd_fr m) b) (rd_up p (rd_fr m) e)) (rd_fac (rd_n (m ||| 2 ^ rd_fr m))))
theorem rd_fitE {m : Nat} {o : Nat → Nat} (hm : m < 32) (hn : rd_n m < 5) : rd_cl (m ||| 2 ^ rd_fr m) (rd_fr m) = m ∧ rd_take (rd_up o (rd_n m) (rd_fr m)) (rd_n (m ||| 2 ^ rd_fr m)) (rd_n m) = rd_up o (rd_n m) (rd_fr m) ∧ (m ||| 2 ^ rd_fr m).testBit (rd_fr m) = true ∧ rd_n m < rd_n (m ||| 2 ^ rd_fr m) := by
  obtain ⟨hk, hf⟩ := rd_fr1 m hm hn
  have e2 := rd_nor m hm _ hk hf
  refine ⟨rd_orcl m hm _ hk hf, rd_tkLo (by omega), ?_, by omega⟩
  rw [rd_orB m hm _ hk _ hk]
  simp
end
section
/-! ===== fits: the desk ===== -/
theorem rd_xFitB {post : Int32 → SX → Prop} {m : Nat} {c d p o : Nat → Nat} {u : SX} {x y z : Int32} (U : rd_XS m c d p o u) (hf : ¬ rd_fine x y z) (h : post 0 u) : wpX_fits post u x y z := by
  obtain ⟨tr, nx, wl, uh, fd, rfl⟩ := U
  unfold wpX_fits
  exact rd_xAddB ⟨tr, nx, wl, uh, fd, rfl⟩ hf (br_f (by decide) h)
theorem rd_xFitF {post : Int32 → SX → Prop} {m : Nat} {c d p o : Nat → Nat} {u : SX} {x y z : Int32} (U : rd_XS m c d p o u) (hf : rd_fine x y z) (hn : rd_n m = 5) (h : post 0 u) : wpX_fits post u x y z := by
  obtain ⟨tr, nx, wl, uh, fd, rfl⟩ := U
  unfold wpX_fits
  exact rd_xAddF ⟨tr, nx, wl, uh, fd, rfl⟩ hf hn (br_f (by decide) h)
theorem rd_xFitK {post : Int32 → SX → Prop} {m a b e : Nat} {c d p o : Nat → Nat} {u : SX} (W : rd_WF m (rd_n m) c d p o) (U : rd_XS m c d p o u) (h1 : 1 ≤ a) (h2 : a ≤ b) (h3 : b ≤ e) (h4 : e ≤ 15) (hn : rd_n m < 5) (h : ∀ u', rd_XS m (rd_up c (rd_fr m) a) (rd_up d (rd_fr m) b) (rd_up p (rd_fr m) e) (rd_up o (rd_n m) (rd_fr m)) u' → post (rd_b (rd_fv m a b e c d p)) u') : wpX_fits post u (nI a) (nI b) (nI e) := by
  obtain ⟨tr, nx, wl, uh, fd, rfl⟩ := U
  have hm := W.1
  obtain ⟨hk, hf⟩ := rd_fr1 m hm hn
  obtain ⟨g1, g2, g3, g4⟩ := rd_fitE (o := o) hm hn
  have W1 := rd_WFadd W hn h1 h2 h3 h4
  have bc := rd_cntB (rd_gc (m ||| 2 ^ rd_fr m) (rd_up c (rd_fr m) a) (rd_up d (rd_fr m) b) (rd_up p (rd_fr m) e)) (rd_fac (rd_n (m ||| 2 ^ rd_fr m)))
  have bf := (rd_facB (rd_n (m ||| 2 ^ rd_fr m)) (by have := (rd_n5 _ W1.1).1; omega)).1
  unfold wpX_fits
  refine rd_xAddK W ⟨tr, nx, wl, uh, fd, rfl⟩ h1 h2 h3 h4 hn (fun u1 U1 => ?_)
  obtain ⟨tr, nx, wl, uh, fd, rfl⟩ := U1
  refine br_t (nI_pos' (by omega)) ?_
  refine rd_xGO W1 ⟨tr, nx, wl, uh, fd, rfl⟩ (fun u2 U2 => ?_)
  obtain ⟨tr, nx, wl, uh, fd, rfl⟩ := U2
  refine pk_le (rd_cnt (rd_gc (m ||| 2 ^ rd_fr m) (rd_up c (rd_fr m) a) (rd_up d (rd_fr m) b) (rd_up p (rd_fr m) e)) (rd_fac (rd_n (m ||| 2 ^ rd_fr m)))) 0 (fun z => ?_) (fun z => ?_)
  · unfold wX_fits_28
    refine rd_xRemK W1 ⟨tr, nx, wl, uh, fd, rfl⟩ hk g3 g4 rd_us (fun u3 U3 => ?_)
    rw [g1, g2] at U3
    obtain ⟨tr, nx, wl, uh, fd, rfl⟩ := U3
    have h' := h _ ⟨tr, nx, wl, uh, fd, rfl⟩
    rw [rd_bf (fun y => by have := of_decide_eq_true y; omega)] at h'
    exact ⟨rfl, h'⟩
  · unfold wX_fits_28
    refine rd_xRemK W1 ⟨tr, nx, wl, uh, fd, rfl⟩ hk g3 g4 rd_us (fun u3 U3 => ?_)
    rw [g1, g2] at U3
    obtain ⟨tr, nx, wl, uh, fd, rfl⟩ := U3
    have h' := h _ ⟨tr, nx, wl, uh, fd, rfl⟩
    rw [rd_bt (x := rd_fv m a b e c d p) (decide_eq_true z)] at h'
    exact ⟨rfl, h'⟩
end
section
/-! ===== the reference: one run ===== -/
theorem rd_yIs {post : Int32 → Prop} {m n : Nat} {c d p o ro lf gv : Nat → Nat} (x : Int32) (h1 : ∀ j, j < 5 → x = nI j → m.testBit j = true → post 1) (h0 : (∀ j, j < 5 → x = nI j → m.testBit j = false) → post 0) : wpY_is post (nI n, rd_B m, rd_A c, rd_A d, rd_A p, rd_A o, rd_A ro, rd_A lf, rd_A gv) x := by
  rcases pk_ix x (n := 5) (by decide) with h | h | ⟨j, hj, rfl⟩
  · exact br_t h (h0 (fun j hj e => (rd_no1 h (by omega) e).elim))
  · exact br_f (fun z => Int32.lt_irrefl (Int32.lt_of_lt_of_le z (Int32.le_trans (by decide) h))) (br_t h (h0 (fun j hj e => (rd_no2 h hj (by decide) e).elim)))
  · refine br_f (nI_pos (by omega)) (br_f (nI_ge (b := 5) hj (by decide)) ⟨rd_i hj, rd_Bc hj (fun z => h0 (fun i hi e => ?_)) (fun z => h1 j hj rfl z)⟩)
    rw [← rd_inj5 hj hi e]
    exact z
theorem rd_yFil {post : Int32 → Prop} {m n j k : Nat} {c d p o ro lf gv : Nat → Nat} (hn : n ≤ 5) (hj : j < n) (hk : k < 5) (ho : ∀ i, i < n → o i < 5) (h1 : o j = k) (h2 : ∀ i, i < n → i ≠ j → o i ≠ k) (h : post (nI j)) : ∀ (e i : Nat), i + e = j → wY_find_2 post (nI k) (nI n) (rd_B m) (rd_A c) (rd_A d) (rd_A p) (rd_A o) (rd_A ro) (rd_A lf) (rd_A gv) (e + 1) (nI i) := by
  intro e
  induction e with
  | zero =>
    intro i hi
    have e : i = j := by omega
    subst e
    exact br_f (nI_ge hj (by omega)) ⟨rd_i (by omega), br_t ((rd_g (by omega)).trans (by rw [h1])) h⟩
  | succ e ih =>
    intro i hi
    refine br_f (nI_ge (by omega) (by omega)) ⟨rd_i (by omega), pk_eq (o i) k (fun z => absurd z (h2 i (by omega) (by omega))) (fun z => nm_r (nI_1 i) (ih (i + 1) (by omega))) (rd_g (by omega)) rfl (by have := ho i (by omega); omega) (by omega)⟩
theorem rd_yFi {post : Int32 → Prop} {m n j k : Nat} {c d p o ro lf gv : Nat → Nat} (hn : n ≤ 5) (hj : j < n) (hk : k < 5) (ho : ∀ i, i < n → o i < 5) (h1 : o j = k) (h2 : ∀ i, i < n → i ≠ j → o i ≠ k) (h : post (nI j)) : wpY_find post (nI n, rd_B m, rd_A c, rd_A d, rd_A p, rd_A o, rd_A ro, rd_A lf, rd_A gv) (nI k) := ⟨j + 1, rd_yFil hn hj hk ho h1 h2 h j 0 (Nat.zero_add j)⟩
theorem rd_yTOl {post : SY → Prop} {m n i : Nat} {c d p o ro lf gv : Nat → Nat} (hn : n ≤ 5) (hi : i < n) (h : post (nI (n - 1), rd_B m, rd_A c, rd_A d, rd_A p, rd_A (rd_take o n i), rd_A ro, rd_A lf, rd_A gv)) : ∀ (e j : Nat), j + 1 + e = n → i ≤ j → wY_takeOut_2 post (nI n) (e + 1) (nI j) (rd_B m) (rd_A c) (rd_A d) (rd_A p) (rd_A (rd_take o (j + 1) i)) (rd_A ro) (rd_A lf) (rd_A gv) := by
  intro e
  induction e with
  | zero =>
    intro j hj hij
    have e1 : j + 1 = n := by omega
    subst e1
    refine br_t ?_ (nm_r (nI_pred j) h)
    rw [nI_1]
    exact nI_le (Nat.le_refl _) (by omega)
  | succ e ih =>
    intro j hj hij
    refine br_f ?_ ⟨pk_in (j + 1) 5 (by omega) (nI_1 j), ⟨rd_i (by omega), nm_r (e' := rd_A (rd_take o (j + 1 + 1) i)) ?_ (nm_r (nI_1 j) (ih (j + 1) (by omega) (by omega)))⟩⟩
    · rw [nI_1]
      exact nI_ge (by omega) (by omega)
    · rw [nI_1, rd_g (by omega), rd_tkAt, rd_s (x := o (j + 1)) (by omega) rfl]
      exact congrArg rd_A (rd_tkHi (o := o) (i := j + 1) (j := i) (by omega))
theorem rd_yTO {post : SY → Prop} {m n i : Nat} {c d p o ro lf gv : Nat → Nat} (hn : n ≤ 5) (hi : i < n) (h : post (nI (n - 1), rd_B m, rd_A c, rd_A d, rd_A p, rd_A (rd_take o n i), rd_A ro, rd_A lf, rd_A gv)) : wpY_takeOut post (nI n, rd_B m, rd_A c, rd_A d, rd_A p, rd_A o, rd_A ro, rd_A lf, rd_A gv) (nI i) := by
  have a := rd_yTOl (ro := ro) hn hi h (n - (i + 1)) i (by omega) (Nat.le_refl i)
  rw [rd_tkLo (Nat.le_refl _)] at a
  exact ⟨_, a⟩
theorem rd_yUOl {post : SY → Prop} {m n : Nat} {c d p o ro lf gv : Nat → Nat} (hn : n ≤ 5) (h : post (nI n, rd_B m, rd_A c, rd_A d, rd_A p, rd_A o, rd_A (rd_cp ro o n), rd_A lf, rd_A gv)) : ∀ (e i : Nat), i + e = n → wY_useOrder_2 post (nI n) (e + 1) (nI i) (rd_B m) (rd_A c) (rd_A d) (rd_A p) (rd_A o) (rd_A (rd_cp ro o i)) (rd_A lf) (rd_A gv) := by
  intro e
  induction e with
  | zero =>
    intro i hi
    have e : i = n := by omega
    subst e
    exact br_t (nI_le (Nat.le_refl i) (by omega)) h
  | succ e ih =>
    intro i hi
    have hi5 : i < 5 := by omega
    exact br_f (nI_ge (by omega) (by omega)) ⟨rd_i hi5, ⟨rd_i hi5, nm_r ((rd_s (x := o i) hi5 (rd_g hi5)).trans (congrArg rd_A (rd_cpS ro o i))) (nm_r (nI_1 i) (ih (i + 1) (by omega)))⟩⟩
theorem rd_yUO {post : SY → Prop} {m n : Nat} {c d p o ro lf gv : Nat → Nat} (hn : n ≤ 5) (h : ∀ ro' : Nat → Nat, (∀ i, i < n → ro' i = o i) → post (nI n, rd_B m, rd_A c, rd_A d, rd_A p, rd_A o, rd_A ro', rd_A lf, rd_A gv)) : wpY_useOrder post (nI n, rd_B m, rd_A c, rd_A d, rd_A p, rd_A o, rd_A ro, rd_A lf, rd_A gv) := by
  have a := rd_yUOl (ro := ro) hn (h _ (fun i hi => rd_cpI hi)) n 0 (Nat.zero_add n)
  rw [rd_cp0] at a
  exact ⟨n + 1, a⟩
theorem rd_ySTl {post : SY → Prop} {m n : Nat} {c d p o ro : Nat → Nat} (h : ∀ lf gv : Nat → Nat, (∀ k, k < 5 → lf k = 0 ∧ gv k = 0) → post (nI n, rd_B m, rd_A c, rd_A d, rd_A p, rd_A o, rd_A ro, rd_A lf, rd_A gv)) : ∀ (e k : Nat) (lf gv : Nat → Nat), k + e = 5 → (∀ j, j < k → lf j = 0 ∧ gv j = 0) → wY_start_2 post (nI n) (e + 1) (nI k) (rd_B m) (rd_A c) (rd_A d) (rd_A p) (rd_A o) (rd_A ro) (rd_A lf) (rd_A gv) := by
  intro e
  induction e with
  | zero =>
    intro k lf gv hk hj
    exact br_t (nI_le (a := 5) (by omega) (by omega)) (h lf gv (fun j z => hj j (by omega)))
  | succ e ih =>
    intro k lf gv hk hj
    have hk5 : k < 5 := by omega
    refine br_f (nI_ge (b := 5) hk5 (by decide)) ⟨rd_i hk5, nm_r (rd_s (x := 0) hk5 rfl) ⟨rd_i hk5, nm_r (rd_s (x := 0) hk5 rfl) (nm_r (nI_1 k) (ih (k + 1) _ _ (by omega) ?_))⟩⟩
    intro j hj'
    by_cases z : j = k
    · subst z
      exact ⟨rd_us, rd_us⟩
    · rw [rd_un z, rd_un z]
      exact hj j (by omega)
theorem rd_yST {post : SY → Prop} {m n : Nat} {c d p o ro lf gv : Nat → Nat} (h : ∀ lf gv : Nat → Nat, (∀ k, k < 5 → lf k = 0 ∧ gv k = 0) → post (nI n, rd_B m, rd_A c, rd_A d, rd_A p, rd_A o, rd_A ro, rd_A lf, rd_A gv)) : wpY_start post (nI n, rd_B m, rd_A c, rd_A d, rd_A p, rd_A o, rd_A ro, rd_A lf, rd_A gv) :=
  ⟨6, rd_ySTl h 5 0 lf gv rfl (fun j z => absurd z (Nat.not_lt_zero j))⟩
/-- what the reference holds of a run at the head of unit t -/
def rd_YI (m : Nat) (c p row : Nat → Nat) (n t : Nat) (lf gv : Nat → Nat) : Prop :=
  ∀ k, k < 5 → m.testBit k = true → lf k = (rd_sim m c p row n t).1 k ∧ gv k = (rd_sim m c p row n t).2 k
theorem rd_YI0 {m n : Nat} {c p row lf gv : Nat → Nat} (h : ∀ k, k < 5 → lf k = 0 ∧ gv k = 0) : rd_YI m c p row n 0 lf gv := fun k hk _ => h k hk
theorem rd_YIN {m n t : Nat} {c p row lf gv lf' : Nat → Nat} (H : rd_YI m c p row n t lf gv) (h1 : ∀ k, k < 5 → m.testBit k = true → lf' k = rd_J m c p row n t k) (e : rd_to m c p row n t = none) : rd_YI m c p row n (t + 1) lf' gv := by
  intro k hk hb
  rw [rd_simN e]
  exact ⟨h1 k hk hb, (H k hk hb).2⟩
theorem rd_YIS {m n t q : Nat} {c p row lf gv lf' : Nat → Nat} (H : rd_YI m c p row n t lf gv) (h1 : ∀ k, k < 5 → m.testBit k = true → lf' k = rd_J m c p row n t k) (e : rd_to m c p row n t = some q) : rd_YI m c p row n (t + 1) (rd_up lf' q (lf' q - 1)) (rd_up gv q (gv q + 1)) := by
  intro k hk hb
  rw [rd_simS e]
  by_cases z : k = q
  · subst z
    rw [rd_us, rd_us, h1 k hk hb, (H k hk hb).2]
    exact ⟨rd_us.symm, rd_us.symm⟩
  · rw [rd_un z, rd_un z, h1 k hk hb, (H k hk hb).2]
    exact ⟨(rd_un z).symm, (rd_un z).symm⟩
/-- the work left while the places from q on have been looked at -/
def rd_UI (L J ro : Nat → Nat) (n q : Nat) (lf : Nat → Nat) : Prop := (∀ j, j < q → lf (ro j) = L (ro j)) ∧ (∀ j, q ≤ j → j < n → lf (ro j) = J (ro j))
theorem rd_UIs {m n i : Nat} {L J ro lf : Nat → Nat} (hR : rd_Row m n ro) (hi : i < n) (H : rd_UI L J ro n (i + 1) lf) : rd_UI L J ro n i (rd_up lf (ro i) (J (ro i))) := by
  obtain ⟨_, h2, _⟩ := hR
  refine ⟨fun j hj => ?_, fun j hj hjn => ?_⟩
  · rw [rd_un (fun e => by have := h2 j (by omega) i hi e; omega)]
    exact H.1 j (by omega)
  · by_cases z : j = i
    · rw [z, rd_us]
    · rw [rd_un (fun e => z (h2 j hjn i hi e))]
      exact H.2 j (by omega) hjn
theorem rd_UIe {m n : Nat} {L J ro lf : Nat → Nat} (hR : rd_Row m n ro) (H : rd_UI L J ro n 0 lf) : ∀ k, k < 5 → m.testBit k = true → lf k = J k := by
  intro k hk hb
  obtain ⟨i, hi, e⟩ := hR.2.2 k hk hb
  rw [← e]
  exact H.2 i (Nat.zero_le i) hi
end
section
/-! ===== the reference: a unit, a response ===== -/
theorem rd_yUnl {post : Int32 → SY → Prop} {m n t : Nat} {c d p o ro gv : Nat → Nat} (W : rd_WF m n c d p ro) (ht : t ≤ 60) (H0 : ∀ k, k < 5 → m.testBit k = true → gv k = (rd_sim m c p ro n t).2 k) (h : ∀ lf' gv' : Nat → Nat, rd_YI m c p ro n (t + 1) lf' gv' → post (rd_o (rd_to m c p ro n t)) (nI n, rd_B m, rd_A c, rd_A d, rd_A p, rd_A o, rd_A ro, rd_A lf', rd_A gv')) : ∀ (q : Nat) (lf : Nat → Nat), q ≤ n → rd_UI (rd_sim m c p ro n t).1 (rd_J m c p ro n t) ro n q lf → wY_unit_9 post (nI t) (nI n) (q + 1) (rd_o (rd_who ro (rd_J m c p ro n t) (n - q) q)) (rd_p q) (rd_B m) (rd_A c) (rd_A d) (rd_A p) (rd_A o) (rd_A ro) (rd_A lf) (rd_A gv) := by
  obtain ⟨hm, hn, hR, hN⟩ := W
  have hn5 : n ≤ 5 := hn ▸ (rd_n5 m hm).1
  have hc := rd_numC hN
  have bJ : ∀ k, rd_J m c p ro n t k ≤ 15 * t + 15 := rd_bndJ hc (rd_bndL hc t)
  intro q
  induction q with
  | zero =>
    intro lf hq H
    have hl := rd_UIe hR H
    have ez : rd_who ro (rd_J m c p ro n t) (n - 0) 0 = rd_to m c p ro n t := rfl
    refine br_t rd_m1l ?_
    rw [ez]
    have HY : rd_YI m c p ro n t (rd_sim m c p ro n t).1 gv := fun k hk hb => ⟨rfl, H0 k hk hb⟩
    cases eo : rd_to m c p ro n t with
    | none =>
      have h' := h lf gv (rd_YIN HY hl eo)
      rw [eo] at h'
      exact br_t rd_m1l h'
    | some k =>
      obtain ⟨hJ, i, hi, er⟩ := rd_toIn eo
      have hk : k < 5 := er ▸ (hR.1 i hi).1
      have hkb : m.testBit k = true := er ▸ (hR.1 i hi).2
      have hlk := hl k hk hkb
      have h' := h _ _ (rd_YIS HY hl eo)
      rw [eo] at h'
      have e1 : nI (lf k) - 1 = nI (lf k - 1) := by
        rw [show lf k = (lf k - 1) + 1 by omega, nI_pred]
        rfl
      exact br_f (nI_pos (by omega)) ⟨rd_i hk, ⟨rd_i hk, nm_r (rd_s (x := lf k - 1) hk (show rd_A lf (nI k).toNatClampNeg - 1 = nI (lf k - 1) by rw [rd_g hk]; exact e1)) ⟨rd_i hk, ⟨rd_i hk, nm_r (rd_s (x := gv k + 1) hk (show rd_A gv (nI k).toNatClampNeg + 1 = nI (gv k + 1) by rw [rd_g hk, nI_1])) h'⟩⟩⟩⟩
  | succ i ih =>
    intro lf hq H
    have hi5 : i < 5 := by omega
    have hin : i < n := by omega
    obtain ⟨hr5, hrb⟩ := hR.1 i hin
    obtain ⟨_, _, _, q2⟩ := hN (ro i) hrb
    have q1 := rd_numP hN (ro i) hrb
    have eL : lf (ro i) = (rd_sim m c p ro n t).1 (ro i) := H.1 i (by omega)
    have hb := bJ (ro i)
    have IH := ih _ (by omega) (rd_UIs hR hin H)
    rw [show n - i = n - (i + 1) + 1 by omega] at IH
    have fin : ∀ y : Int32, y = nI (rd_J m c p ro n t (ro i)) → wY_unit_73 post (wY_unit_9 post (nI t) (nI n) (i + 1)) (nI t) (rd_o (rd_who ro (rd_J m c p ro n t) (n - (i + 1)) (i + 1))) (nI i) (nI (ro i)) y (nI (ro i)) (nI n) (rd_B m) (rd_A c) (rd_A d) (rd_A p) (rd_A o) (rd_A ro) (rd_A lf) (rd_A gv) := by
      intro y ey
      refine ⟨rd_i hr5, nm_r (rd_s hr5 ey) ⟨rd_i hr5, pk_le (rd_J m c p ro n t (ro i)) 0 (fun z => ?_) (fun z => ?_) ((rd_g hr5).trans (by rw [rd_us])) rfl (by omega) (by decide)⟩⟩
      · have a : rd_who ro (rd_J m c p ro n t) (n - (i + 1) + 1) i = rd_who ro (rd_J m c p ro n t) (n - (i + 1)) (i + 1) := if_neg (by omega)
        rw [a] at IH
        exact nm_r (rd_pm i) IH
      · have a : rd_who ro (rd_J m c p ro n t) (n - (i + 1) + 1) i = some (ro i) := if_pos z
        rw [a] at IH
        exact nm_r (rd_pm i) IH
    refine br_f (nI_pos (by omega)) ⟨rd_i hi5, nm_r (rd_g hi5) ⟨rd_i hr5, nm_r (rd_g hr5) (br_f (nI_nle q1 (by omega)) ⟨nI_ne0 q1 (by omega), ?_⟩)⟩⟩
    rw [pk_rem (by omega) q1 (by omega)]
    refine pk_eq (t % p (ro i)) 0 (fun z => ⟨rd_i hr5, ⟨rd_i hr5, fin _ ?_⟩⟩) (fun z => ⟨rd_i hr5, fin _ ?_⟩) rfl rfl (by have := Nat.mod_le t (p (ro i)); omega) (by decide)
    · have a : rd_J m c p ro n t (ro i) = (rd_sim m c p ro n t).1 (ro i) + c (ro i) := if_pos ⟨hrb, z⟩
      rw [a, rd_g hr5, rd_g hr5, nI_add, eL]
    · have a : rd_J m c p ro n t (ro i) = (rd_sim m c p ro n t).1 (ro i) := if_neg (fun y => z y.2)
      rw [a, rd_g hr5, eL]
theorem rd_yUn {post : Int32 → SY → Prop} {m n t : Nat} {c d p o ro lf gv : Nat → Nat} (W : rd_WF m n c d p ro) (ht : t ≤ 60) (H : rd_YI m c p ro n t lf gv) (h : ∀ lf' gv' : Nat → Nat, rd_YI m c p ro n (t + 1) lf' gv' → post (rd_o (rd_to m c p ro n t)) (nI n, rd_B m, rd_A c, rd_A d, rd_A p, rd_A o, rd_A ro, rd_A lf', rd_A gv')) : wpY_unit post (nI n, rd_B m, rd_A c, rd_A d, rd_A p, rd_A o, rd_A ro, rd_A lf, rd_A gv) (nI t) := by
  have a := rd_yUnl W ht (fun k hk hb => (H k hk hb).2) h n lf (Nat.le_refl n) ⟨fun j hj => (H _ (W.2.2.1.1 j hj).1 (W.2.2.1.1 j hj).2).1, fun j h1 h2 => absurd h2 (by omega)⟩
  rw [show n - n = 0 by omega] at a
  exact nm_r (rd_pm1 n) ⟨_, a⟩
theorem rd_yROl {post : Int32 → SY → Prop} {m n k : Nat} {c d p o ro : Nat → Nat} (W : rd_WF m n c d p ro) (hk : k < 5) (hb : m.testBit k = true) (h : ∀ lf gv : Nat → Nat, post (rd_R (rd_fd m c p ro n 15 k) (p k)) (nI n, rd_B m, rd_A c, rd_A d, rd_A p, rd_A o, rd_A ro, rd_A lf, rd_A gv)) : ∀ (e t : Nat) (lf gv : Nat → Nat), t + e = p k → rd_YI m c p ro n t lf gv → (∀ s, s < t → ¬ rd_ev m c p ro n s k) → wY_responseOf_6 post (nI k) (e + 1) (nI t) (nI n) (rd_B m) (rd_A c) (rd_A d) (rd_A p) (rd_A o) (rd_A ro) (rd_A lf) (rd_A gv) := by
  obtain ⟨hm, hn, hR, hN⟩ := W
  obtain ⟨q0, q1, q2, q3⟩ := hN k hb
  intro e
  induction e with
  | zero =>
    intro t lf gv ht H he
    have e : t = p k := by omega
    have a : rd_R (rd_fd m c p ro n 15 k) (p k) = -3 := if_pos (by
      rcases rd_fdN (t := 15) he with z | z
      · exact Or.inl z
      · exact Or.inr (by omega))
    have h' := h lf gv
    rw [a] at h'
    refine ⟨rd_i hk, br_t ?_ h'⟩
    rw [rd_g hk]
    exact nI_le (by omega) (by omega)
  | succ e ih =>
    intro t lf gv ht H he
    refine ⟨rd_i hk, br_f ?_ ?_⟩
    · rw [rd_g hk]
      exact nI_ge (by omega) (by omega)
    refine rd_yUn ⟨hm, hn, hR, hN⟩ (by omega) H (fun lf' gv' H' => ?_)
    have no : ¬ rd_ev m c p ro n t k → wY_responseOf_6 post (nI k) (e + 1) (nI (t + 1)) (nI n) (rd_B m) (rd_A c) (rd_A d) (rd_A p) (rd_A o) (rd_A ro) (rd_A lf') (rd_A gv') := by
      intro z
      refine ih (t + 1) lf' gv' (by omega) H' (fun s hs => ?_)
      rcases Nat.lt_or_ge s t with y | y
      · exact he s y
      · rw [show s = t by omega]
        exact z
    have bG := rd_bndG (m := m) (c := c) (p := p) (row := ro) (n := n) (t + 1) k
    cases eo : rd_to m c p ro n t with
    | none => exact br_f (fun z => rd_m1n (by omega) z.symm) (nm_r (nI_1 t) (no (fun z => by rw [z.1] at eo; exact nomatch eo)))
    | some q =>
      obtain ⟨_, i, hi, er⟩ := rd_toIn eo
      have hq : q < 5 := er ▸ (hR.1 i hi).1
      refine pk_eq q k (fun z => ?_) (fun z => nm_r (nI_1 t) (no (fun y => z (Option.some.inj (eo.symm.trans y.1)))))
      subst z
      have eg := (H' q hk hb).2
      refine ⟨rd_i hk, ⟨rd_i hk, pk_eq (gv' q) (c q) (fun y => ?_) (fun y => nm_r (nI_1 t) (no (fun x => y (eg.trans x.2)))) (rd_g hk) (rd_g hk) (by omega) (by omega)⟩⟩
      have ev : rd_ev m c p ro n t q := ⟨eo, eg.symm.trans y⟩
      have a : rd_R (rd_fd m c p ro n 15 q) (p q) = nI (t + 1) := by
        rw [rd_fdE ev (by omega)]
        exact if_neg (by omega)
      have h' := h lf' gv'
      rw [a] at h'
      rw [nI_1]
      exact h'
theorem rd_yRO {post : Int32 → SY → Prop} {m n k : Nat} {c d p o ro lf gv : Nat → Nat} (W : rd_WF m n c d p ro) (hk : k < 5) (hb : m.testBit k = true) (h : ∀ lf gv : Nat → Nat, post (rd_R (rd_fd m c p ro n 15 k) (p k)) (nI n, rd_B m, rd_A c, rd_A d, rd_A p, rd_A o, rd_A ro, rd_A lf, rd_A gv)) : wpY_responseOf post (nI n, rd_B m, rd_A c, rd_A d, rd_A p, rd_A o, rd_A ro, rd_A lf, rd_A gv) (nI k) := by
  refine rd_yST (fun lf gv H => ?_)
  exact ⟨p k + 1, rd_yROl W hk hb h (p k) 0 lf gv (Nat.zero_add _) (rd_YI0 H) (fun s z => absurd z (Nat.not_lt_zero s))⟩
theorem rd_yPu {post : Int32 → SY → Prop} {m n k : Nat} {c d p o ro lf gv : Nat → Nat} (W : rd_WF m n c d p ro) (hk : k < 5) (hb : m.testBit k = true) (h : ∀ lf gv : Nat → Nat, post (rd_b (rd_ok m c d p ro n k)) (nI n, rd_B m, rd_A c, rd_A d, rd_A p, rd_A o, rd_A ro, rd_A lf, rd_A gv)) : wpY_punctual post (nI n, rd_B m, rd_A c, rd_A d, rd_A p, rd_A o, rd_A ro, rd_A lf, rd_A gv) (nI k) := by
  refine rd_yRO W hk hb (fun lf gv => ?_)
  obtain ⟨hm, hn, hR, hN⟩ := W
  obtain ⟨q0, q1, q2, q3⟩ := hN k hb
  have bf := rd_fdB (m := m) (c := c) (p := p) (row := ro) (n := n) 15 k
  have h' := h lf gv
  have no : ¬ rd_ok m c d p ro n k = true → post 0 (nI n, rd_B m, rd_A c, rd_A d, rd_A p, rd_A o, rd_A ro, rd_A lf, rd_A gv) := by
    intro z
    rw [rd_bf z] at h'
    exact h'
  unfold rd_R
  by_cases z : rd_fd m c p ro n 15 k = 0 ∨ p k < rd_fd m c p ro n 15 k
  · rw [if_pos z]
    refine br_t rfl (no (fun y => ?_))
    have y' := of_decide_eq_true y
    omega
  · rw [if_neg z]
    refine br_f (rd_m3n (by omega)) ⟨rd_i hk, pk_lt (d k) (rd_fd m c p ro n 15 k) (fun y => no (fun x => ?_)) (fun y => ?_) (rd_g hk) rfl (by omega) (by omega)⟩
    · have y' := of_decide_eq_true x
      omega
    · rw [rd_bt (x := rd_ok m c d p ro n k) (decide_eq_true ⟨by omega, by omega, y⟩)] at h'
      exact h'
theorem rd_yAPl {post : Int32 → SY → Prop} {m n : Nat} {c d p o ro : Nat → Nat} (W : rd_WF m n c d p ro) (h : ∀ lf gv : Nat → Nat, post (rd_b (rd_good m c d p ro n)) (nI n, rd_B m, rd_A c, rd_A d, rd_A p, rd_A o, rd_A ro, rd_A lf, rd_A gv)) : ∀ (e k : Nat) (lf gv : Nat → Nat), k + e = 5 → wY_allPunctual_4 post (e + 1) (rd_b (rd_all (rd_ok m c d p ro n) m k)) (nI k) (nI n) (rd_B m) (rd_A c) (rd_A d) (rd_A p) (rd_A o) (rd_A ro) (rd_A lf) (rd_A gv) := by
  intro e
  induction e with
  | zero =>
    intro k lf gv hk
    have e : k = 5 := by omega
    subst e
    exact br_t (nI_le (a := 5) (Nat.le_refl 5) (by decide)) ⟨rd_nb _, h lf gv⟩
  | succ e ih =>
    intro k lf gv hk
    have hk5 : k < 5 := by omega
    refine br_f (nI_ge (b := 5) hk5 (by decide)) ?_
    have IH : ∀ lf gv, wY_allPunctual_4 post (e + 1) (rd_b (rd_all (rd_ok m c d p ro n) m k && (!m.testBit k || rd_ok m c d p ro n k))) (nI (k + 1)) (nI n) (rd_B m) (rd_A c) (rd_A d) (rd_A p) (rd_A o) (rd_A ro) (rd_A lf) (rd_A gv) := fun lf gv => ih (k + 1) lf gv (by omega)
    cases z : rd_all (rd_ok m c d p ro n) m k with
    | false =>
      rw [z] at IH
      exact br_t rfl (nm_r (nI_1 k) (IH lf gv))
    | true =>
      rw [z] at IH
      refine br_f (by decide) ⟨rd_i hk5, rd_Bc hk5 (fun y => ?_) (fun y => ?_)⟩
      · rw [y] at IH
        exact nm_r (nI_1 k) (IH lf gv)
      · rw [y] at IH
        refine rd_yPu W hk5 y (fun lf gv => ?_)
        have I2 := IH lf gv
        cases x : rd_ok m c d p ro n k with
        | false =>
          rw [x] at I2
          exact br_t rfl (nm_r (nI_1 k) I2)
        | true =>
          rw [x] at I2
          exact br_f (by decide) (nm_r (nI_1 k) I2)
theorem rd_yAP {post : Int32 → SY → Prop} {m n : Nat} {c d p o ro lf gv : Nat → Nat} (W : rd_WF m n c d p ro) (h : ∀ lf gv : Nat → Nat, post (rd_b (rd_good m c d p ro n)) (nI n, rd_B m, rd_A c, rd_A d, rd_A p, rd_A o, rd_A ro, rd_A lf, rd_A gv)) : wpY_allPunctual post (nI n, rd_B m, rd_A c, rd_A d, rd_A p, rd_A o, rd_A ro, rd_A lf, rd_A gv) :=
  ⟨6, rd_yAPl W h 5 0 lf gv rfl⟩
/-! ===== the reference: orders by number ===== -/
theorem rd_yOrl {post : Int32 → Prop} {m n : Nat} {c d p o ro lf gv : Nat → Nat} (hn : n ≤ 5) (h : post (nI (rd_fac n))) : ∀ (e i : Nat), i + e = n → wY_orders_4 post (nI n) (rd_B m) (rd_A c) (rd_A d) (rd_A p) (rd_A o) (rd_A ro) (rd_A lf) (rd_A gv) (e + 1) (nI (rd_fac i)) (nI (i + 1)) := by
  intro e
  induction e with
  | zero =>
    intro i hi
    have e : i = n := by omega
    subst e
    exact br_t (nI_lt (by omega) (by omega)) h
  | succ e ih =>
    intro i hi
    exact br_f (nI_nlt (by omega) (by omega)) (nm_r (pk_mul _ _) (nm_r (nI_1 (i + 1)) (ih (i + 1) (by omega))))
theorem rd_yOr {post : Int32 → Prop} {m n : Nat} {c d p o ro lf gv : Nat → Nat} (hn : n ≤ 5) (h : post (nI (rd_fac n))) : wpY_orders post (nI n, rd_B m, rd_A c, rd_A d, rd_A p, rd_A o, rd_A ro, rd_A lf, rd_A gv) := by
  cases n with
  | zero => exact ⟨1, br_t (nI_lt (a := 0) (b := 2) (by decide) (by decide)) h⟩
  | succ n => exact ⟨n + 1, rd_yOrl hn h n 1 (by omega)⟩
theorem rd_yUul {post : Int32 → Prop} {m n used skip : Nat} {c d p o ro lf gv : Nat → Nat} (hu : used < 32) (hs : skip < 2 ^ 31) : ∀ (e k q : Nat), k + e = 5 → q ≤ k → post (nI (rd_unA m used skip e k q)) → wY_unused_5 post (nI used) (nI skip) (nI n) (rd_B m) (rd_A c) (rd_A d) (rd_A p) (rd_A o) (rd_A ro) (rd_A lf) (rd_A gv) (e + 1) (nI q) (nI k) := by
  intro e
  induction e with
  | zero =>
    intro k q hk hq h
    exact br_t (nI_le (a := 5) (by omega) (by omega)) h
  | succ e ih =>
    intro k q hk hq h
    have hk5 : k < 5 := by omega
    have no : ¬ (m.testBit k = true ∧ used.testBit k = false) → wY_unused_5 post (nI used) (nI skip) (nI n) (rd_B m) (rd_A c) (rd_A d) (rd_A p) (rd_A o) (rd_A ro) (rd_A lf) (rd_A gv) (e + 1) (nI q) (nI (k + 1)) := by
      intro z
      have a : rd_unA m used skip (e + 1) k q = rd_unA m used skip e (k + 1) q := if_neg z
      rw [a] at h
      exact ih (k + 1) q (by omega) (by omega) h
    refine br_f (nI_ge (b := 5) hk5 (by decide)) ⟨rd_i hk5, rd_Bc hk5 (fun z => nm_r (nI_1 k) (no (fun y => rd_nft z y.1))) (fun z => ?_)⟩
    by_cases y : used.testBit k = false
    · have a : rd_unA m used skip (e + 1) k q = if q = skip then k else rd_unA m used skip e (k + 1) (q + 1) := if_pos ⟨z, y⟩
      rw [a] at h
      refine br_t ((rd_usd used hu k hk5).mpr y) (pk_eq q skip (fun x => ?_) (fun x => ?_))
      · rw [if_pos x] at h
        exact h
      · rw [if_neg x] at h
        exact nm_r (nI_1 q) (nm_r (nI_1 k) (ih (k + 1) (q + 1) (by omega) (by omega) h))
    · exact br_f (fun x => y ((rd_usd used hu k hk5).mp x)) (nm_r (nI_1 k) (no (fun x => y x.2)))
theorem rd_yUu {post : Int32 → Prop} {m n used skip : Nat} {c d p o ro lf gv : Nat → Nat} (hu : used < 32) (hs : skip < 2 ^ 31) (h : post (nI (rd_unu m used skip))) : wpY_unused post (nI n, rd_B m, rd_A c, rd_A d, rd_A p, rd_A o, rd_A ro, rd_A lf, rd_A gv) (nI used) (nI skip) :=
  ⟨6, rd_yUul hu hs 5 0 0 rfl (Nat.le_refl 0) h⟩
theorem rd_unAB {m used skip : Nat} : ∀ e k q, k + e ≤ 5 → rd_unA m used skip e k q < 5 := by
  intro e
  induction e with
  | zero => intro k q _; show 0 < 5; decide
  | succ e ih =>
    intro k q hk
    show (if m.testBit k = true ∧ used.testBit k = false then (if q = skip then k else rd_unA m used skip e (k + 1) (q + 1)) else rd_unA m used skip e (k + 1) q) < 5
    by_cases z : m.testBit k = true ∧ used.testBit k = false
    · rw [if_pos z]
      by_cases y : q = skip
      · rw [if_pos y]; omega
      · rw [if_neg y]; exact ih (k + 1) (q + 1) (by omega)
    · rw [if_neg z]; exact ih (k + 1) q (by omega)
theorem rd_unB (m used skip : Nat) : rd_unu m used skip < 5 := rd_unAB 5 0 0 (Nat.le_refl 5)
theorem rd_ss1 (m n code : Nat) : ∀ i, i ≤ n → (rd_ss m n code i).1 = rd_fac (n - i) := by
  intro i
  induction i with
  | zero => intro _; rfl
  | succ i ih =>
    intro hi
    show (rd_ss m n code i).1 / (n - i) = _
    rw [ih (by omega), show n - i = (n - (i + 1)) + 1 by omega]
    exact Nat.mul_div_cancel _ (Nat.succ_pos _)
theorem rd_ss3 (m n code : Nat) : ∀ i, (rd_ss m n code i).2.2 < 32 := by
  intro i
  induction i with
  | zero => show 0 < 32; decide
  | succ i ih =>
    show (rd_ss m n code i).2.2 ||| 2 ^ (rd_unu m (rd_ss m n code i).2.2 ((rd_ss m n code i).2.1 / ((rd_ss m n code i).1 / (n - i)))) < 32
    exact rd_orL _ ih _ (rd_unB _ _ _)
theorem rd_ss2 (m n code : Nat) : ∀ i, (rd_ss m n code i).2.1 ≤ code := by
  intro i
  induction i with
  | zero => exact Nat.le_refl _
  | succ i ih =>
    show (rd_ss m n code i).2.1 % ((rd_ss m n code i).1 / (n - i)) ≤ code
    exact Nat.le_trans (Nat.mod_le _ _) ih
theorem rd_ySpl {post : SY → Prop} {m code : Nat} {c d p o lf gv : Nat → Nat} (hm : m < 32) (hc : code < rd_fac (rd_n m)) (h : ∀ ro' : Nat → Nat, (∀ i, i < rd_n m → ro' i = rd_pe m code i) → post (nI (rd_n m), rd_B m, rd_A c, rd_A d, rd_A p, rd_A o, rd_A ro', rd_A lf, rd_A gv)) : ∀ (e i : Nat) (ro : Nat → Nat), i + e = rd_n m → (∀ q, q < i → ro q = rd_pe m code q) → wY_spell_13 post (nI (rd_n m)) (e + 1) (nI (rd_ss m (rd_n m) code i).1) (nI (rd_ss m (rd_n m) code i).2.1) (nI (rd_ss m (rd_n m) code i).2.2) (nI i) (rd_B m) (rd_A c) (rd_A d) (rd_A p) (rd_A o) (rd_A ro) (rd_A lf) (rd_A gv) := by
  have hn5 := (rd_n5 m hm).1
  have hF := (rd_facB (rd_n m) (by omega)).1
  intro e
  induction e with
  | zero =>
    intro i ro hi H
    have e : i = rd_n m := by omega
    exact br_t (nI_le (by omega) (by omega)) (h ro (fun q hq => H q (by omega)))
  | succ e ih =>
    intro i ro hi H
    have hi5 : i < 5 := by omega
    have s1 := rd_ss1 m (rd_n m) code i (by omega)
    have s1' := rd_ss1 m (rd_n m) code (i + 1) (by omega)
    have s2 := rd_ss2 m (rd_n m) code i
    have s3 := rd_ss3 m (rd_n m) code i
    have b1 := rd_facB (rd_n m - i) (by omega)
    have b2 := rd_facB (rd_n m - (i + 1)) (by omega)
    have e1 : (rd_ss m (rd_n m) code (i + 1)).1 = (rd_ss m (rd_n m) code i).1 / (rd_n m - i) := rfl
    have e2 : (rd_ss m (rd_n m) code (i + 1)).2.1 = (rd_ss m (rd_n m) code i).2.1 % (rd_ss m (rd_n m) code (i + 1)).1 := rfl
    have e3 : (rd_ss m (rd_n m) code (i + 1)).2.2 = (rd_ss m (rd_n m) code i).2.2 ||| 2 ^ rd_pe m code i := rfl
    have e4 : rd_unu m (rd_ss m (rd_n m) code i).2.2 ((rd_ss m (rd_n m) code i).2.1 / (rd_ss m (rd_n m) code (i + 1)).1) = rd_pe m code i := rfl
    have p5 : rd_pe m code i < 5 := rd_unB _ _ _
    have IH := ih (i + 1) (rd_up ro i (rd_pe m code i)) (by omega) (fun q hq => by
      by_cases z : q = i
      · rw [z, rd_us]
      · rw [rd_un z]
        exact H q (by omega))
    rw [e3] at IH
    have q1 : 0 < (rd_ss m (rd_n m) code (i + 1)).1 := by rw [s1']; exact b2.2
    have q2 : (rd_ss m (rd_n m) code (i + 1)).1 < 2 ^ 31 := by rw [s1']; omega
    have q3 : (rd_ss m (rd_n m) code i).2.1 < 2 ^ 31 := by omega
    have q4 : (rd_ss m (rd_n m) code i).2.1 / (rd_ss m (rd_n m) code (i + 1)).1 < 2 ^ 31 := Nat.lt_of_le_of_lt (Nat.div_le_self _ _) q3
    have ed : nI (rd_n m) - nI i = nI (rd_n m - i) := pk_sub (by omega)
    have ev : nI (rd_ss m (rd_n m) code i).1 / nI (rd_n m - i) = nI (rd_ss m (rd_n m) code (i + 1)).1 := by
      rw [e1]
      exact pk_div (by rw [s1]; omega) (by omega) (by omega)
    refine br_f (nI_ge (by omega) (by omega)) ?_
    rw [ed]
    refine br_f (nI_nle (by omega) (by omega)) ⟨nI_ne0 (by omega) (by omega), nm_r ev (br_f (nI_nle q1 q2) ⟨nI_ne0 q1 q2, br_f (nI_nle q1 q2) ⟨nI_ne0 q1 q2, ?_⟩⟩)⟩
    rw [pk_rem q3 q1 q2, pk_div q3 q1 q2, ← e2]
    unfold wY_spell_70
    refine rd_yUu s3 q4 ⟨rd_i hi5, nm_r (rd_s (x := rd_pe m code i) hi5 (congrArg nI e4)) ⟨rd_i hi5, nm_r ?_ (nm_r (nI_1 i) IH)⟩⟩
    rw [rd_g hi5, rd_us]
    exact rd_or _ s3 _ p5
theorem rd_ySp {post : SY → Prop} {m code : Nat} {c d p o ro lf gv : Nat → Nat} (hm : m < 32) (hc : code < rd_fac (rd_n m)) (h : ∀ ro' : Nat → Nat, (∀ i, i < rd_n m → ro' i = rd_pe m code i) → post (nI (rd_n m), rd_B m, rd_A c, rd_A d, rd_A p, rd_A o, rd_A ro', rd_A lf, rd_A gv)) : wpY_spell post (nI (rd_n m), rd_B m, rd_A c, rd_A d, rd_A p, rd_A o, rd_A ro, rd_A lf, rd_A gv) (nI code) := by
  unfold wpY_spell
  exact rd_yOr (rd_n5 m hm).1 ⟨_, rd_ySpl hm hc h (rd_n m) 0 ro (Nat.zero_add _) (fun q hq => absurd hq (Nat.not_lt_zero q))⟩
end
section
/-! ===== the reference: its calls ===== -/
theorem rd_yIsK {post : Int32 → Prop} {m n k : Nat} {c d p o ro lf gv : Nat → Nat} (hk : k < 5) (hb : m.testBit k = true) (h : post 1) : wpY_is post (nI n, rd_B m, rd_A c, rd_A d, rd_A p, rd_A o, rd_A ro, rd_A lf, rd_A gv) (nI k) :=
  rd_yIs (nI k) (fun _ _ _ _ => h) (fun z => by have := z k hk rfl; rw [hb] at this; exact nomatch this)
theorem rd_yIsN {post : Int32 → Prop} {m n : Nat} {c d p o ro lf gv : Nat → Nat} {x : Int32} (hx : ∀ j, j < 5 → x = nI j → m.testBit j = false) (h : post 0) : wpY_is post (nI n, rd_B m, rd_A c, rd_A d, rd_A p, rd_A o, rd_A ro, rd_A lf, rd_A gv) x :=
  rd_yIs x (fun j hj e z => by rw [hx j hj e] at z; exact nomatch z) (fun _ => h)
theorem rd_yFiB {post : Int32 → Prop} {m n : Nat} {c d p o ro lf gv : Nat → Nat} {x y z : Int32} (hf : ¬ rd_fine x y z) (h : post 0) : wpY_fine post (nI n, rd_B m, rd_A c, rd_A d, rd_A p, rd_A o, rd_A ro, rd_A lf, rd_A gv) x y z := by
  by_cases h1 : 1 ≤ x
  · by_cases h2 : x ≤ y
    · by_cases h3 : y ≤ z
      · by_cases h4 : z ≤ 15
        · exact absurd ⟨h1, h2, h3, h4⟩ hf
        · exact br_f (rd_nlt h1) (br_f (rd_nlt h2) (br_f (rd_nlt h3) (br_t (Int32.not_le.mp h4) h)))
      · exact br_f (rd_nlt h1) (br_f (rd_nlt h2) (br_t (Int32.not_le.mp h3) h))
    · exact br_f (rd_nlt h1) (br_t (Int32.not_le.mp h2) h)
  · exact br_t (Int32.not_le.mp h1) h
theorem rd_yFiK {post : Int32 → Prop} {m n : Nat} {c d p o ro lf gv : Nat → Nat} {x y z : Int32} (hf : rd_fine x y z) (h : post 1) : wpY_fine post (nI n, rd_B m, rd_A c, rd_A d, rd_A p, rd_A o, rd_A ro, rd_A lf, rd_A gv) x y z := by
  obtain ⟨h1, h2, h3, h4⟩ := hf
  exact br_f (rd_nlt h1) (br_f (rd_nlt h2) (br_f (rd_nlt h3) (br_f (rd_nlt h4) h)))
theorem rd_yAddB {post : Int32 → SY → Prop} {m : Nat} {c d p o : Nat → Nat} {v : SY} {x y z : Int32} (V : rd_YS m c d p o v) (hf : ¬ rd_fine x y z) (h : post (-1) v) : wpY_add post v x y z := by
  obtain ⟨ro, lf, gv, rfl⟩ := V
  unfold wpY_add
  exact rd_yFiB hf (br_t rfl h)
theorem rd_yAddFl {post : Int32 → SY → Prop} {n : Nat} {c d p o ro lf gv : Nat → Nat} {x y z : Int32} (h : post (-2) (nI n, rd_B 31, rd_A c, rd_A d, rd_A p, rd_A o, rd_A ro, rd_A lf, rd_A gv)) : ∀ (e k : Nat), k + e = 5 → wY_add_15 post x y z (nI n) (rd_B 31) (rd_A c) (rd_A d) (rd_A p) (rd_A o) (rd_A ro) (rd_A lf) (rd_A gv) (e + 1) (nI k) := by
  intro e
  induction e with
  | zero =>
    intro k hk
    exact br_t (nI_le (a := 5) (by omega) (by omega)) h
  | succ e ih =>
    intro k hk
    have hk5 : k < 5 := by omega
    refine br_f (nI_ge (b := 5) hk5 (by decide)) ⟨rd_i hk5, rd_Bc hk5 (fun z => ?_) (fun z => nm_r (nI_1 k) (ih (k + 1) (by omega)))⟩
    rw [rd_31 k hk5] at z
    exact nomatch z
theorem rd_yAddF {post : Int32 → SY → Prop} {m : Nat} {c d p o : Nat → Nat} {v : SY} {x y z : Int32} (W : rd_WF m (rd_n m) c d p o) (V : rd_YS m c d p o v) (hf : rd_fine x y z) (hn : rd_n m = 5) (h : post (-2) v) : wpY_add post v x y z := by
  obtain ⟨ro, lf, gv, rfl⟩ := V
  have e31 := (rd_n5 m W.1).2 hn
  subst e31
  unfold wpY_add
  exact rd_yFiK hf (br_f (by decide) ⟨6, rd_yAddFl h 5 0 rfl⟩)
theorem rd_yAddKl {post : Int32 → SY → Prop} {m a b e : Nat} {c d p o ro lf gv : Nat → Nat} (W : rd_WF m (rd_n m) c d p o) (hn : rd_n m < 5) (h : ∀ u', rd_YS (m ||| 2 ^ rd_fr m) (rd_up c (rd_fr m) a) (rd_up d (rd_fr m) b) (rd_up p (rd_fr m) e) (rd_up o (rd_n m) (rd_fr m)) u' → post (nI (rd_fr m)) u') : ∀ (q k : Nat), k + q = rd_fr m → wY_add_15 post (nI a) (nI b) (nI e) (nI (rd_n m)) (rd_B m) (rd_A c) (rd_A d) (rd_A p) (rd_A o) (rd_A ro) (rd_A lf) (rd_A gv) (q + 1) (nI k) := by
  have hm := W.1
  obtain ⟨hk, hf⟩ := rd_fr1 m hm hn
  have e2 := rd_nor m hm _ hk hf
  intro q
  induction q with
  | zero =>
    intro k hq
    have ek : k = rd_fr m := by omega
    rw [ek]
    refine br_f (nI_ge (b := 5) hk (by decide)) ⟨rd_i hk, rd_Bc hk (fun _ => ?_) (fun z => ?_)⟩
    · refine ⟨rd_i hk, nm_r (e' := rd_B (m ||| 2 ^ rd_fr m)) ?_ ⟨rd_i hk, nm_r (rd_s hk rfl) ⟨rd_i hk, nm_r (rd_s hk rfl) ⟨rd_i hk, nm_r (rd_s hk rfl) ⟨rd_i hn, nm_r (rd_s hn rfl) (nm_r (nI_1 _) (h _ ⟨ro, lf, gv, ?_⟩))⟩⟩⟩⟩⟩
      · rw [rd_vb1, nI_clamp (by omega)]
        exact rd_Bor hm hk
      · rw [e2]
    · rw [hf] at z
      exact nomatch z
  | succ q ih =>
    intro k hq
    have hk5 : k < 5 := by omega
    refine br_f (nI_ge (b := 5) hk5 (by decide)) ⟨rd_i hk5, rd_Bc hk5 (fun z => ?_) (fun z => nm_r (nI_1 k) (ih (k + 1) (by omega)))⟩
    rw [rd_fr2 m hm k (by omega)] at z
    exact nomatch z
theorem rd_yAddK {post : Int32 → SY → Prop} {m a b e : Nat} {c d p o : Nat → Nat} {v : SY} (W : rd_WF m (rd_n m) c d p o) (V : rd_YS m c d p o v) (h1 : 1 ≤ a) (h2 : a ≤ b) (h3 : b ≤ e) (h4 : e ≤ 15) (hn : rd_n m < 5) (h : ∀ u', rd_YS (m ||| 2 ^ rd_fr m) (rd_up c (rd_fr m) a) (rd_up d (rd_fr m) b) (rd_up p (rd_fr m) e) (rd_up o (rd_n m) (rd_fr m)) u' → post (nI (rd_fr m)) u') : wpY_add post v (nI a) (nI b) (nI e) := by
  obtain ⟨ro, lf, gv, rfl⟩ := V
  unfold wpY_add
  exact rd_yFiK (rd_Nfine h1 h2 h3 h4) (br_f (by decide) ⟨_, rd_yAddKl W hn h (rd_fr m) 0 (Nat.zero_add _)⟩)
theorem rd_yRemN {post : Int32 → SY → Prop} {m : Nat} {c d p o : Nat → Nat} {v : SY} {x : Int32} (V : rd_YS m c d p o v) (hx : ∀ j, j < 5 → x = nI j → m.testBit j = false) (h : post 0 v) : wpY_remove post v x := by
  obtain ⟨ro, lf, gv, rfl⟩ := V
  unfold wpY_remove
  exact rd_yIsN hx (br_t rfl h)
theorem rd_yRemK {post : Int32 → SY → Prop} {m j k : Nat} {c d p o : Nat → Nat} {v : SY} (W : rd_WF m (rd_n m) c d p o) (V : rd_YS m c d p o v) (hk : k < 5) (hb : m.testBit k = true) (hj : j < rd_n m) (ej : o j = k) (h : ∀ u', rd_YS (rd_cl m k) c d p (rd_take o (rd_n m) j) u' → post 1 u') : wpY_remove post v (nI k) := by
  obtain ⟨ro, lf, gv, rfl⟩ := V
  obtain ⟨hm, _, hR, hN⟩ := W
  have hn5 := (rd_n5 m hm).1
  have en := rd_ncl m hm k hk hb
  unfold wpY_remove
  refine rd_yIsK hk hb (br_f (by decide) ?_)
  refine rd_yFi hn5 hj hk (fun i hi => (hR.1 i hi).1) ej (fun i hi ne e => ne (hR.2.1 i hi j hj (e.trans ej.symm))) ?_
  refine rd_yTO hn5 hj ⟨rd_i hk, nm_r (e' := rd_B (rd_cl m k)) ?_ (h _ ⟨ro, lf, gv, ?_⟩)⟩
  · rw [rd_vb0, nI_clamp (by omega)]
    exact rd_Bcl hm hk
  · rw [show rd_n m - 1 = rd_n (rd_cl m k) by omega]
theorem rd_yPlaN {post : Int32 → SY → Prop} {m : Nat} {c d p o : Nat → Nat} {v : SY} {x y : Int32} (hm : m < 32) (V : rd_YS m c d p o v) (hx : (∀ j, j < 5 → x = nI j → m.testBit j = false) ∨ (∀ j, j < rd_n m → ¬ y = nI j)) (h : post 0 v) : wpY_place post v x y := by
  obtain ⟨ro, lf, gv, rfl⟩ := V
  have hn5 := (rd_n5 m hm).1
  unfold wpY_place
  rcases rd_Tem m x with ⟨q, hq, rfl, hb⟩ | hx'
  · rcases hx with hx | hy
    · have := hx q hq rfl
      rw [hb] at this
      exact nomatch this
    · refine rd_yIsK hq hb (br_f (by decide) ?_)
      rcases pk_ix y (n := rd_n m) (by omega) with g | g | ⟨j, hj, e⟩
      · exact br_t g h
      · exact br_f (rd_nlt (Int32.le_trans (nI_pos' (by omega)) g)) (br_f (rd_nlt g) h)
      · exact absurd e (hy j hj)
  · exact rd_yIsN hx' (br_t rfl h)
theorem rd_yTskl {post : Int32 → Prop} {m n : Nat} {c d p o ro lf gv : Nat → Nat} (hm : m < 32) (h : post (nI m)) : ∀ (e k : Nat), k + e = 5 → wY_tasks_4 post (nI n) (rd_B m) (rd_A c) (rd_A d) (rd_A p) (rd_A o) (rd_A ro) (rd_A lf) (rd_A gv) (e + 1) (nI (rd_ms m k)) (nI k) := by
  intro e
  induction e with
  | zero =>
    intro k hk
    have ek : k = 5 := by omega
    subst ek
    rw [rd_ms5 m hm]
    exact br_t (nI_le (a := 5) (Nat.le_refl _) (by decide)) h
  | succ e ih =>
    intro k hk
    have hk5 : k < 5 := by omega
    have IH := ih (k + 1) (by omega)
    refine br_f (nI_ge (b := 5) hk5 (by decide)) ⟨rd_i hk5, rd_Bc hk5 (fun z => ?_) (fun z => ?_)⟩
    · have a : rd_ms m (k + 1) = rd_ms m k := if_neg (rd_nft z)
      rw [a] at IH
      exact nm_r (nI_1 k) IH
    · have a : rd_ms m (k + 1) = rd_ms m k ||| 2 ^ k := if_pos z
      rw [a] at IH
      exact nm_r (rd_or _ (rd_msL m hm k (by omega)) k hk5) (nm_r (nI_1 k) IH)
theorem rd_yTsk {post : Int32 → Prop} {m : Nat} {c d p o : Nat → Nat} {v : SY} (hm : m < 32) (V : rd_YS m c d p o v) (h : post (nI m)) : wpY_tasks post v := by
  obtain ⟨ro, lf, gv, rfl⟩ := V
  exact ⟨6, rd_yTskl hm h 5 0 rfl⟩
theorem rd_yAtK {post : Int32 → Prop} {m i : Nat} {c d p o : Nat → Nat} {v : SY} (hm : m < 32) (V : rd_YS m c d p o v) (hi : i < rd_n m) (h : post (nI (o i))) : wpY_at post v (nI i) := by
  obtain ⟨ro, lf, gv, rfl⟩ := V
  have hn5 := (rd_n5 m hm).1
  refine br_f (nI_pos (by omega)) (br_f (nI_ge hi (by omega)) ⟨rd_i (by omega), ?_⟩)
  rw [rd_g (by omega)]
  exact h
theorem rd_yAtN {post : Int32 → Prop} {m : Nat} {c d p o : Nat → Nat} {v : SY} {x : Int32} (hm : m < 32) (V : rd_YS m c d p o v) (hx : ∀ j, j < rd_n m → ¬ x = nI j) (h : post (-1)) : wpY_at post v x := by
  obtain ⟨ro, lf, gv, rfl⟩ := V
  have hn5 := (rd_n5 m hm).1
  rcases pk_ix x (n := rd_n m) (by omega) with g | g | ⟨j, hj, e⟩
  · exact br_t g h
  · exact br_f (rd_nlt (Int32.le_trans (nI_pos' (by omega)) g)) (br_t g h)
  · exact absurd e (hx j hj)
theorem rd_WFuo {m n : Nat} {c d p o ro : Nat → Nat} (W : rd_WF m n c d p o) (h : ∀ i, i < n → ro i = o i) : rd_WF m n c d p ro := ⟨W.1, W.2.1, rd_RowC (fun i hi => (h i hi).symm) W.2.2.1, W.2.2.2⟩
theorem rd_yResN {post : Int32 → SY → Prop} {m : Nat} {c d p o : Nat → Nat} {v : SY} {x : Int32} (hm : m < 32) (V : rd_YS m c d p o v) (hx : ∀ j, j < 5 → x = nI j → m.testBit j = false) (h : ∀ v', rd_YS m c d p o v' → post (-1) v') : wpY_response post v x := by
  obtain ⟨ro, lf, gv, rfl⟩ := V
  unfold wpY_response
  refine rd_yUO (rd_n5 m hm).1 (fun ro' H => ?_)
  exact rd_yIsN hx (br_t rfl (h _ ⟨ro', lf, gv, rfl⟩))
theorem rd_yResK {post : Int32 → SY → Prop} {m k : Nat} {c d p o : Nat → Nat} {v : SY} (W : rd_WF m (rd_n m) c d p o) (V : rd_YS m c d p o v) (hk : k < 5) (hb : m.testBit k = true) (h : ∀ v', rd_YS m c d p o v' → post (rd_R (rd_fd m c p o (rd_n m) 15 k) (p k)) v') : wpY_response post v (nI k) := by
  obtain ⟨ro, lf, gv, rfl⟩ := V
  unfold wpY_response
  refine rd_yUO (rd_n5 m W.1).1 (fun ro' H => ?_)
  refine rd_yIsK hk hb (br_f (by decide) (rd_yRO (rd_WFuo W H) hk hb (fun lf gv => ?_)))
  rw [rd_fdR H]
  exact h _ ⟨ro', lf, gv, rfl⟩
theorem rd_yGood {post : Int32 → SY → Prop} {m : Nat} {c d p o : Nat → Nat} {v : SY} (W : rd_WF m (rd_n m) c d p o) (V : rd_YS m c d p o v) (h : ∀ v', rd_YS m c d p o v' → post (rd_b (rd_good m c d p o (rd_n m))) v') : wpY_good post v := by
  obtain ⟨ro, lf, gv, rfl⟩ := V
  unfold wpY_good
  refine rd_yUO (rd_n5 m W.1).1 (fun ro' H => ?_)
  refine rd_yAP (rd_WFuo W H) (fun lf gv => ?_)
  rw [rd_goodR H]
  exact ⟨rd_nb _, h _ ⟨ro', lf, gv, rfl⟩⟩
end
section
/-! ===== the reference: its calls, the rest ===== -/
theorem rd_yPlal {post : Int32 → SY → Prop} {m n k i : Nat} {c d p o ro lf gv : Nat → Nat} (hn : n < 5) (hi : i ≤ n) (h : post 1 (nI (n + 1), rd_B m, rd_A c, rd_A d, rd_A p, rd_A (rd_put o n k i), rd_A ro, rd_A lf, rd_A gv)) : ∀ (e : Nat), i + e ≤ n → wY_place_39 post (nI k) (nI i) (nI n) (e + 1) (nI (i + e)) (rd_B m) (rd_A c) (rd_A d) (rd_A p) (rd_A (rd_shr o n (i + e))) (rd_A ro) (rd_A lf) (rd_A gv) := by
  intro e
  induction e with
  | zero =>
    intro hq
    exact br_t (nI_le (by omega) (by omega)) ⟨rd_i (by omega), nm_r ((rd_s (x := k) (by omega) rfl).trans (congrArg rd_A (rd_shrE o n k i))) (nm_r (nI_1 n) h)⟩
  | succ e ih =>
    intro hq
    have e1 : nI (i + (e + 1)) - 1 = nI (i + e) := nI_pred (i + e)
    refine br_f (nI_ge (by omega) (by omega)) ⟨pk_in (i + e) 5 (by omega) e1, ⟨rd_i (by omega), nm_r (e' := rd_A (rd_shr o n (i + e))) ?_ (nm_r (pk_m1 (i + e)) (ih (by omega)))⟩⟩
    rw [e1, rd_g (by omega), rd_s (x := rd_shr o n (i + (e + 1)) (i + e)) (by omega) rfl]
    exact congrArg rd_A (rd_shrS (o := o) (n := n) (i := i + e) hq)
theorem rd_yPlaK {post : Int32 → SY → Prop} {m j k i : Nat} {c d p o : Nat → Nat} {v : SY} (W : rd_WF m (rd_n m) c d p o) (V : rd_YS m c d p o v) (hk : k < 5) (hb : m.testBit k = true) (hj : j < rd_n m) (ej : o j = k) (hi : i < rd_n m) (h : ∀ v', rd_YS m c d p (rd_put (rd_take o (rd_n m) j) (rd_n m - 1) k i) v' → post 1 v') : wpY_place post v (nI k) (nI i) := by
  obtain ⟨ro, lf, gv, rfl⟩ := V
  obtain ⟨hm, _, hR, hN⟩ := W
  have hn5 := (rd_n5 m hm).1
  unfold wpY_place
  refine rd_yIsK hk hb (br_f (by decide) (br_f (nI_pos (by omega)) (br_t (nI_lt hi (by omega)) ?_)))
  refine rd_yFi hn5 hj hk (fun i hi => (hR.1 i hi).1) ej (fun i hi ne e => ne (hR.2.1 i hi j hj (e.trans ej.symm))) ?_
  refine rd_yTO hn5 hj ?_
  have a := rd_yPlal (post := post) (m := m) (n := rd_n m - 1) (k := k) (i := i) (c := c) (d := d) (p := p) (o := rd_take o (rd_n m) j) (ro := ro) (lf := lf) (gv := gv) (by omega) (by omega) (h _ ⟨ro, lf, gv, by rw [show rd_n m - 1 + 1 = rd_n m by omega]⟩) (rd_n m - 1 - i) (by omega)
  rw [show i + (rd_n m - 1 - i) = rd_n m - 1 by omega, rd_shr0] at a
  exact ⟨_, a⟩
theorem rd_yInTl {post : Int32 → SY → Prop} {m n : Nat} {c d p o ro : Nat → Nat} (W : rd_WF m n c d p ro) (h : ∀ lf gv : Nat → Nat, post (nI (rd_ty (rd_ok m c d p ro n) m 5)) (nI n, rd_B m, rd_A c, rd_A d, rd_A p, rd_A o, rd_A ro, rd_A lf, rd_A gv)) : ∀ (e k : Nat) (lf gv : Nat → Nat), k + e = 5 → wY_inTime_8 post (e + 1) (nI (rd_ty (rd_ok m c d p ro n) m k)) (nI k) (nI n) (rd_B m) (rd_A c) (rd_A d) (rd_A p) (rd_A o) (rd_A ro) (rd_A lf) (rd_A gv) := by
  intro e
  induction e with
  | zero =>
    intro k lf gv hk
    have ek : k = 5 := by omega
    subst ek
    exact br_t (nI_le (a := 5) (Nat.le_refl 5) (by decide)) (h lf gv)
  | succ e ih =>
    intro k lf gv hk
    have hk5 : k < 5 := by omega
    have bt := (rd_tyB (f := rd_ok m c d p ro n) (m := m) k (by omega)).1
    have no : ∀ lf gv, ¬ (m.testBit k = true ∧ rd_ok m c d p ro n k = true) → wY_inTime_8 post (e + 1) (nI (rd_ty (rd_ok m c d p ro n) m k)) (nI (k + 1)) (nI n) (rd_B m) (rd_A c) (rd_A d) (rd_A p) (rd_A o) (rd_A ro) (rd_A lf) (rd_A gv) := by
      intro lf gv z
      have a : rd_ty (rd_ok m c d p ro n) m (k + 1) = rd_ty (rd_ok m c d p ro n) m k := if_neg z
      rw [← a]
      exact ih (k + 1) lf gv (by omega)
    refine br_f (nI_ge (b := 5) hk5 (by decide)) ⟨rd_i hk5, rd_Bc hk5 (fun y => nm_r (nI_1 k) (no lf gv (fun x => rd_nft y x.1))) (fun y => ?_)⟩
    refine rd_yPu W hk5 y (fun lf gv => ?_)
    cases x : rd_ok m c d p ro n k with
    | false => exact br_t rfl (nm_r (nI_1 k) (no lf gv (fun q => rd_nft x q.2)))
    | true =>
      have a : rd_ty (rd_ok m c d p ro n) m (k + 1) = rd_ty (rd_ok m c d p ro n) m k ||| 2 ^ k := if_pos ⟨y, x⟩
      refine br_f (by decide) (nm_r (rd_or _ bt k hk5) (nm_r (nI_1 k) ?_))
      rw [← a]
      exact ih (k + 1) lf gv (by omega)
theorem rd_yInT {post : Int32 → SY → Prop} {m : Nat} {c d p o : Nat → Nat} {v : SY} (W : rd_WF m (rd_n m) c d p o) (V : rd_YS m c d p o v) (h : ∀ v', rd_YS m c d p o v' → post (nI (rd_tx (rd_ok m c d p o (rd_n m)) o (rd_n m))) v') : wpY_inTime post v := by
  obtain ⟨ro, lf, gv, rfl⟩ := V
  unfold wpY_inTime
  refine rd_yUO (rd_n5 m W.1).1 (fun ro' H => ?_)
  refine ⟨6, rd_yInTl (rd_WFuo W H) (fun lf gv => ?_) 5 0 lf gv rfl⟩
  rw [rd_okR H, ← rd_txty W.2.2.1]
  exact h _ ⟨ro', lf, gv, rfl⟩
theorem rd_yGOl {post : Int32 → SY → Prop} {m : Nat} {c d p o : Nat → Nat} (W : rd_WF m (rd_n m) c d p o) (h : ∀ v', rd_YS m c d p o v' → post (nI (rd_cnt (rd_gc m c d p) (rd_fac (rd_n m)))) v') : ∀ (e i : Nat) (ro lf gv : Nat → Nat), i + e = rd_fac (rd_n m) → wY_goodOrders_9 post (nI (rd_fac (rd_n m))) (e + 1) (nI (rd_cnt (rd_gc m c d p) i)) (nI i) (nI (rd_n m)) (rd_B m) (rd_A c) (rd_A d) (rd_A p) (rd_A o) (rd_A ro) (rd_A lf) (rd_A gv) := by
  have hm := W.1
  have hn5 := (rd_n5 m hm).1
  have hF := (rd_facB (rd_n m) (by omega)).1
  intro e
  induction e with
  | zero =>
    intro i ro lf gv hi
    have e : i = rd_fac (rd_n m) := by omega
    rw [e]
    exact br_t (nI_le (Nat.le_refl _) (by omega)) (h _ ⟨ro, lf, gv, rfl⟩)
  | succ e ih =>
    intro i ro lf gv hi
    have hiF : i < rd_fac (rd_n m) := by omega
    refine br_f (nI_ge hiF (by omega)) (rd_ySp hm hiF (fun ro' H => ?_))
    refine rd_yAP (rd_WFrow W hiF H) (fun lf gv => ?_)
    rw [rd_gcR H]
    cases z : rd_gc m c d p i with
    | true =>
      have a : rd_cnt (rd_gc m c d p) (i + 1) = rd_cnt (rd_gc m c d p) i + 1 := if_pos z
      refine br_f (by decide) (nm_r (nI_1 _) (nm_r (nI_1 i) ?_))
      rw [← a]
      exact ih (i + 1) ro' lf gv (by omega)
    | false =>
      have a : rd_cnt (rd_gc m c d p) (i + 1) = rd_cnt (rd_gc m c d p) i := if_neg (rd_nft z)
      refine br_t rfl (nm_r (nI_1 i) ?_)
      rw [← a]
      exact ih (i + 1) ro' lf gv (by omega)
theorem rd_yGO {post : Int32 → SY → Prop} {m : Nat} {c d p o : Nat → Nat} {v : SY} (W : rd_WF m (rd_n m) c d p o) (V : rd_YS m c d p o v) (h : ∀ v', rd_YS m c d p o v' → post (nI (rd_cnt (rd_gc m c d p) (rd_fac (rd_n m)))) v') : wpY_goodOrders post v := by
  obtain ⟨ro, lf, gv, rfl⟩ := V
  unfold wpY_goodOrders
  exact rd_yOr (rd_n5 m W.1).1 ⟨_, rd_yGOl W h (rd_fac (rd_n m)) 0 ro lf gv (Nat.zero_add _)⟩
theorem rd_yArrc {post : Int32 → SY → Prop} {m n : Nat} {c d p o ro lf gv : Nat → Nat} (hn : n ≤ 5) (h : post 1 (nI n, rd_B m, rd_A c, rd_A d, rd_A p, rd_A (rd_cp o ro n), rd_A ro, rd_A lf, rd_A gv)) : ∀ (e i : Nat), i + e = n → wY_arrange_26 post (nI n) (e + 1) (nI i) (rd_B m) (rd_A c) (rd_A d) (rd_A p) (rd_A (rd_cp o ro i)) (rd_A ro) (rd_A lf) (rd_A gv) := by
  intro e
  induction e with
  | zero =>
    intro i hi
    have e : i = n := by omega
    subst e
    exact br_t (nI_le (Nat.le_refl i) (by omega)) h
  | succ e ih =>
    intro i hi
    have hi5 : i < 5 := by omega
    exact br_f (nI_ge (by omega) (by omega)) ⟨rd_i hi5, ⟨rd_i hi5, nm_r ((rd_s (x := ro i) hi5 (rd_g hi5)).trans (congrArg rd_A (rd_cpS o ro i))) (nm_r (nI_1 i) (ih (i + 1) (by omega)))⟩⟩
theorem rd_yArrl {post : Int32 → SY → Prop} {m : Nat} {c d p o : Nat → Nat} (W : rd_WF m (rd_n m) c d p o) (h1 : ∀ e v', e < rd_fac (rd_n m) → rd_gc m c d p e = true → (∀ i, i < e → rd_gc m c d p i = false) → rd_YS m c d p (rd_cp o (rd_pe m e) (rd_n m)) v' → post 1 v') (h0 : (∀ e, e < rd_fac (rd_n m) → rd_gc m c d p e = false) → ∀ v', rd_YS m c d p o v' → post 0 v') : ∀ (e i : Nat) (ro lf gv : Nat → Nat), i + e = rd_fac (rd_n m) → (∀ q, q < i → rd_gc m c d p q = false) → wY_arrange_7 post (nI (rd_fac (rd_n m))) (e + 1) (nI i) (nI (rd_n m)) (rd_B m) (rd_A c) (rd_A d) (rd_A p) (rd_A o) (rd_A ro) (rd_A lf) (rd_A gv) := by
  have hm := W.1
  have hn5 := (rd_n5 m hm).1
  have hF := (rd_facB (rd_n m) (by omega)).1
  intro e
  induction e with
  | zero =>
    intro i ro lf gv hi L
    have e : i = rd_fac (rd_n m) := by omega
    rw [e] at L ⊢
    exact br_t (nI_le (Nat.le_refl _) (by omega)) (h0 L _ ⟨ro, lf, gv, rfl⟩)
  | succ e ih =>
    intro i ro lf gv hi L
    have hiF : i < rd_fac (rd_n m) := by omega
    refine br_f (nI_ge hiF (by omega)) (rd_ySp hm hiF (fun ro' H => ?_))
    refine rd_yAP (rd_WFrow W hiF H) (fun lf gv => ?_)
    rw [rd_gcR H]
    cases z : rd_gc m c d p i with
    | true =>
      have a := rd_yArrc (post := post) (m := m) (n := rd_n m) (c := c) (d := d) (p := p) (o := o) (ro := ro') (lf := lf) (gv := gv) hn5 (h1 i _ hiF z L ⟨ro', lf, gv, by rw [rd_cpC H]⟩) (rd_n m) 0 (Nat.zero_add _)
      rw [rd_cp0] at a
      exact br_f (by decide) ⟨_, a⟩
    | false =>
      refine br_t rfl (nm_r (nI_1 i) (ih (i + 1) ro' lf gv (by omega) (fun q hq => ?_)))
      rcases Nat.lt_or_ge q i with y | y
      · exact L q y
      · rw [show q = i by omega]
        exact z
theorem rd_yArr {post : Int32 → SY → Prop} {m : Nat} {c d p o : Nat → Nat} {v : SY} (W : rd_WF m (rd_n m) c d p o) (V : rd_YS m c d p o v) (h1 : ∀ e v', e < rd_fac (rd_n m) → rd_gc m c d p e = true → (∀ i, i < e → rd_gc m c d p i = false) → rd_YS m c d p (rd_cp o (rd_pe m e) (rd_n m)) v' → post 1 v') (h0 : (∀ e, e < rd_fac (rd_n m) → rd_gc m c d p e = false) → ∀ v', rd_YS m c d p o v' → post 0 v') : wpY_arrange post v := by
  obtain ⟨ro, lf, gv, rfl⟩ := V
  unfold wpY_arrange
  exact rd_yOr (rd_n5 m W.1).1 ⟨_, rd_yArrl W h1 h0 (rd_fac (rd_n m)) 0 ro lf gv (Nat.zero_add _) (fun q hq => absurd hq (Nat.not_lt_zero q))⟩
theorem rd_yCBLl {post : Int32 → SY → Prop} {m : Nat} {c d p o : Nat → Nat} (W : rd_WF m (rd_n m) c d p o) (hn : 0 < rd_n m) (h : ∀ v', rd_YS m c d p o v' → post (nI (rd_lv m c d p (rd_fac (rd_n m)))) v') : ∀ (e i : Nat) (ro lf gv : Nat → Nat), i + e = rd_fac (rd_n m) → wY_canBeLast_9 post (nI (rd_fac (rd_n m))) (e + 1) (nI (rd_lv m c d p i)) (nI i) (nI (rd_n m)) (rd_B m) (rd_A c) (rd_A d) (rd_A p) (rd_A o) (rd_A ro) (rd_A lf) (rd_A gv) := by
  have hm := W.1
  have hn5 := (rd_n5 m hm).1
  have hF := (rd_facB (rd_n m) (by omega)).1
  intro e
  induction e with
  | zero =>
    intro i ro lf gv hi
    have e : i = rd_fac (rd_n m) := by omega
    rw [e]
    exact br_t (nI_le (Nat.le_refl _) (by omega)) (h _ ⟨ro, lf, gv, rfl⟩)
  | succ e ih =>
    intro i ro lf gv hi
    have hiF : i < rd_fac (rd_n m) := by omega
    refine br_f (nI_ge hiF (by omega)) (br_f (nI_nle hn (by omega)) (rd_ySp hm hiF (fun ro' H => ?_)))
    have W' := rd_WFrow W hiF H
    refine rd_yAP W' (fun lf gv => ?_)
    rw [rd_gcR H]
    have e1 : nI (rd_n m) - 1 = nI (rd_n m - 1) := (rd_pm1 _).trans (by rw [show rd_n m = rd_n m - 1 + 1 by omega]; rfl)
    have t5 : ro' (rd_n m - 1) < 5 := (W'.2.2.1.1 _ (by omega)).1
    cases z : rd_gc m c d p i with
    | true =>
      have a : rd_lv m c d p (i + 1) = rd_lv m c d p i ||| 2 ^ ro' (rd_n m - 1) := by
        rw [H _ (by omega)]
        exact if_pos z
      refine br_f (by decide) ⟨pk_in (rd_n m - 1) 5 (by omega) e1, nm_r (e' := nI (rd_lv m c d p (i + 1))) ?_ (nm_r (nI_1 i) (ih (i + 1) ro' lf gv (by omega)))⟩
      rw [a, e1, rd_g (by omega), rd_or _ (rd_lvB hm hn (by omega)) _ t5]
    | false =>
      have a : rd_lv m c d p (i + 1) = rd_lv m c d p i := if_neg (rd_nft z)
      refine br_t rfl (nm_r (nI_1 i) ?_)
      rw [← a]
      exact ih (i + 1) ro' lf gv (by omega)
theorem rd_yCBL {post : Int32 → SY → Prop} {m : Nat} {c d p o : Nat → Nat} {v : SY} (W : rd_WF m (rd_n m) c d p o) (V : rd_YS m c d p o v) (h : ∀ v', rd_YS m c d p o v' → post (nI (rd_lv0 m c d p)) v') : wpY_canBeLast post v := by
  have V0 := V
  obtain ⟨ro, lf, gv, rfl⟩ := V
  unfold rd_lv0 at h
  unfold wpY_canBeLast
  refine rd_yOr (rd_n5 m W.1).1 ?_
  by_cases z : rd_n m = 0
  · rw [if_pos z] at h
    have e1 : rd_fac (rd_n m) = 1 := by rw [z]; rfl
    refine ⟨1, br_f ?_ (br_t ?_ (h _ V0))⟩
    · rw [e1]
      decide
    · rw [z]
      decide
  · rw [if_neg z] at h
    exact ⟨_, rd_yCBLl W (by omega) h (rd_fac (rd_n m)) 0 ro lf gv (Nat.zero_add _)⟩
theorem rd_yGCN {post : Int32 → SY → Prop} {m : Nat} {c d p o : Nat → Nat} {v : SY} {x : Int32} (V : rd_YS m c d p o v) (hx : ∀ j, j < 5 → x = nI j → m.testBit j = false) (h : post (-1) v) : wpY_greatestCost post v x := by
  obtain ⟨ro, lf, gv, rfl⟩ := V
  unfold wpY_greatestCost
  exact rd_yIsN hx (br_t rfl h)
theorem rd_yLPN {post : Int32 → SY → Prop} {m : Nat} {c d p o : Nat → Nat} {v : SY} {x : Int32} (V : rd_YS m c d p o v) (hx : ∀ j, j < 5 → x = nI j → m.testBit j = false) (h : post (-1) v) : wpY_leastPeriod post v x := by
  obtain ⟨ro, lf, gv, rfl⟩ := V
  unfold wpY_leastPeriod
  exact rd_yIsN hx (br_t rfl h)
theorem rd_yGCl {post : Int32 → SY → Prop} {m k : Nat} {c d p o ro : Nat → Nat} (W : rd_WF m (rd_n m) c d p o) (H : ∀ i, i < rd_n m → ro i = o i) (hk : k < 5) (hb : m.testBit k = true) (h : ∀ v', rd_YS m c d p o v' → post (nI (rd_last (rd_fc m c d p o k) (d k))) v') : ∀ (e i y : Nat) (lf gv : Nat → Nat), i + e = d k → wY_greatestCost_26 post (nI k) (nI (c k)) (e + 1) (nI (rd_last (rd_fc m c d p o k) i)) (nI (i + 1)) (nI (rd_n m)) (rd_B m) (rd_A (rd_up c k y)) (rd_A d) (rd_A p) (rd_A o) (rd_A ro) (rd_A lf) (rd_A gv) := by
  obtain ⟨q0, q1, q2, q3⟩ := W.2.2.2 k hb
  intro e
  induction e with
  | zero =>
    intro i y lf gv hi
    have e : i = d k := by omega
    rw [e]
    refine ⟨rd_i hk, br_t ?_ ⟨rd_i hk, nm_r ((rd_s (x := c k) hk rfl).trans (by rw [rd_upup, rd_upid])) (h _ ⟨ro, lf, gv, rfl⟩)⟩⟩
    rw [rd_g hk]
    exact nI_lt (by omega) (by omega)
  | succ e ih =>
    intro i y lf gv hi
    refine ⟨rd_i hk, br_f ?_ ⟨rd_i hk, nm_r ((rd_s (x := i + 1) hk rfl).trans (by rw [rd_upup])) ?_⟩⟩
    · rw [rd_g hk]
      exact nI_nlt (by omega) (by omega)
    refine rd_yAP (rd_WFc (k := k) (x := i + 1) (rd_WFuo W H) (by omega) (by omega)) (fun lf gv => ?_)
    rw [rd_goodR H]
    have IH := ih (i + 1) (i + 1) lf gv (by omega)
    cases z : rd_good m (rd_up c k (i + 1)) d p o (rd_n m) with
    | true =>
      rw [rd_lastU (f := rd_fc m c d p o k) z] at IH
      exact br_f (by decide) (nm_r (nI_1 (i + 1)) IH)
    | false =>
      rw [rd_lastN (f := rd_fc m c d p o k) (rd_nft z)] at IH
      exact br_t rfl (nm_r (nI_1 (i + 1)) IH)
theorem rd_yGCK {post : Int32 → SY → Prop} {m k : Nat} {c d p o : Nat → Nat} {v : SY} (W : rd_WF m (rd_n m) c d p o) (V : rd_YS m c d p o v) (hk : k < 5) (hb : m.testBit k = true) (h : ∀ v', rd_YS m c d p o v' → post (nI (rd_last (rd_fc m c d p o k) (d k))) v') : wpY_greatestCost post v (nI k) := by
  obtain ⟨ro, lf, gv, rfl⟩ := V
  unfold wpY_greatestCost
  refine rd_yIsK hk hb (br_f (by decide) (rd_yUO (rd_n5 m W.1).1 (fun ro' H => ⟨rd_i hk, nm_r (rd_g hk) ?_⟩)))
  have a := rd_yGCl W H hk hb h (d k) 0 (c k) lf gv (Nat.zero_add _)
  rw [rd_upid] at a
  exact ⟨_, a⟩
theorem rd_yLPl {post : Int32 → SY → Prop} {m k : Nat} {c d p o ro : Nat → Nat} (W : rd_WF m (rd_n m) c d p o) (H : ∀ i, i < rd_n m → ro i = o i) (hk : k < 5) (hb : m.testBit k = true) (h : ∀ v', rd_YS m c d p o v' → post (nI (rd_frst (rd_fp m c d p o k) (16 - d k) (d k))) v') : ∀ (e y : Nat) (lf gv : Nat → Nat), d k + e ≤ 16 → wY_leastPeriod_27 post (nI k) (nI (p k)) (e + 1) (nI (rd_frst (rd_fp m c d p o k) (16 - (d k + e)) (d k + e))) (rd_p (d k + e)) (nI (rd_n m)) (rd_B m) (rd_A c) (rd_A d) (rd_A (rd_up p k y)) (rd_A o) (rd_A ro) (rd_A lf) (rd_A gv) := by
  obtain ⟨q0, q1, q2, q3⟩ := W.2.2.2 k hb
  intro e
  induction e with
  | zero =>
    intro y lf gv hi
    have ep : rd_p (d k + 0) = nI (d k - 1) := by
      rw [show d k + 0 = d k - 1 + 1 by omega]
      rfl
    rw [ep]
    refine ⟨rd_i hk, br_t ?_ ⟨rd_i hk, nm_r ((rd_s (x := p k) hk rfl).trans (by rw [rd_upup, rd_upid])) (h _ ⟨ro, lf, gv, rfl⟩)⟩⟩
    rw [rd_g hk]
    exact nI_lt (by omega) (by omega)
  | succ e ih =>
    intro y lf gv hi
    have ep : rd_p (d k + (e + 1)) = nI (d k + e) := rfl
    rw [ep]
    refine ⟨rd_i hk, br_f ?_ ⟨rd_i hk, nm_r ((rd_s (x := d k + e) hk rfl).trans (by rw [rd_upup])) ?_⟩⟩
    · rw [rd_g hk]
      exact nI_nlt (by omega) (by omega)
    refine rd_yAP (rd_WFp (k := k) (x := d k + e) (rd_WFuo W H) (by omega) (by omega)) (fun lf gv => ?_)
    rw [rd_goodR H]
    have IH := ih (d k + e) lf gv (by omega)
    rw [show 16 - (d k + e) = 16 - (d k + (e + 1)) + 1 by omega] at IH
    cases z : rd_good m c d (rd_up p k (d k + e)) o (rd_n m) with
    | true =>
      rw [rd_frstU (f := rd_fp m c d p o k) z] at IH
      exact br_f (by decide) (nm_r (rd_pm (d k + e)) IH)
    | false =>
      rw [rd_frstN (f := rd_fp m c d p o k) (rd_nft z)] at IH
      exact br_t rfl (nm_r (rd_pm (d k + e)) IH)
theorem rd_yLPK {post : Int32 → SY → Prop} {m k : Nat} {c d p o : Nat → Nat} {v : SY} (W : rd_WF m (rd_n m) c d p o) (V : rd_YS m c d p o v) (hk : k < 5) (hb : m.testBit k = true) (h : ∀ v', rd_YS m c d p o v' → post (nI (rd_frst (rd_fp m c d p o k) (16 - d k) (d k))) v') : wpY_leastPeriod post v (nI k) := by
  obtain ⟨ro, lf, gv, rfl⟩ := V
  obtain ⟨q0, q1, q2, q3⟩ := W.2.2.2 k hb
  unfold wpY_leastPeriod
  refine rd_yIsK hk hb (br_f (by decide) (rd_yUO (rd_n5 m W.1).1 (fun ro' H => ⟨rd_i hk, nm_r (rd_g hk) ?_⟩)))
  have a := rd_yLPl W H hk hb h (16 - d k) (p k) lf gv (by omega)
  rw [rd_upid, show d k + (16 - d k) = 16 by omega] at a
  exact ⟨_, a⟩
theorem rd_yIdN {post : Int32 → SY → Prop} {m : Nat} {c d p o : Nat → Nat} {v : SY} {x : Int32} (hm : m < 32) (V : rd_YS m c d p o v) (hx : x < 0) (h : ∀ v', rd_YS m c d p o v' → post 0 v') : wpY_idle post v x := by
  obtain ⟨ro, lf, gv, rfl⟩ := V
  unfold wpY_idle
  refine rd_yUO (rd_n5 m hm).1 (fun ro' H => rd_yST (fun lf gv _ => ⟨1, ?_⟩))
  exact br_f (by decide) (br_t (Int32.le_of_lt hx) (h _ ⟨ro', lf, gv, rfl⟩))
theorem rd_yIdl {post : Int32 → SY → Prop} {m a : Nat} {c d p o ro : Nat → Nat} (W : rd_WF m (rd_n m) c d p ro) (ha : a < 2 ^ 31) (h : ∀ v', rd_YS m c d p o v' → post (nI (rd_idle m c p ro (rd_n m) (rd_60 a))) v') : ∀ (e t : Nat) (lf gv : Nat → Nat), t + e = rd_60 a → rd_YI m c p ro (rd_n m) t lf gv → wY_idle_12 post (nI a) (e + 1) (nI (rd_idle m c p ro (rd_n m) t)) (nI t) (nI (rd_n m)) (rd_B m) (rd_A c) (rd_A d) (rd_A p) (rd_A o) (rd_A ro) (rd_A lf) (rd_A gv) := by
  have b60 : rd_60 a ≤ 60 ∧ rd_60 a ≤ a ∧ (rd_60 a = 60 ∨ rd_60 a = a) := by
    unfold rd_60
    by_cases z : a ≤ 60
    · rw [if_pos z]; omega
    · rw [if_neg z]; omega
  intro e
  induction e with
  | zero =>
    intro t lf gv ht H
    have e : t = rd_60 a := by omega
    have h' := h _ ⟨ro, lf, gv, rfl⟩
    rw [← e] at h'
    refine pk_le 60 t (fun _ => h') (fun z => br_t (nI_le (by omega) (by omega)) h')
  | succ e ih =>
    intro t lf gv ht H
    refine br_f (nI_ge (b := 60) (by omega) (by decide)) (br_f (nI_ge (by omega) ha) ?_)
    refine rd_yUn W (by omega) H (fun lf' gv' H' => ?_)
    have IH := ih (t + 1) lf' gv' (by omega) H'
    cases eo : rd_to m c p ro (rd_n m) t with
    | none =>
      have ei : rd_idle m c p ro (rd_n m) (t + 1) = rd_idle m c p ro (rd_n m) t + 1 := if_pos eo
      rw [ei] at IH
      exact br_f (by decide) (nm_r (nI_1 _) (nm_r (nI_1 t) IH))
    | some q =>
      have ei : rd_idle m c p ro (rd_n m) (t + 1) = rd_idle m c p ro (rd_n m) t := if_neg (by rw [eo]; exact nofun)
      rw [ei] at IH
      obtain ⟨_, i, hi, er⟩ := rd_toIn eo
      have hq : q < 5 := er ▸ (W.2.2.1.1 i hi).1
      exact br_t (nI_pos' (by omega)) (nm_r (nI_1 t) IH)
theorem rd_idleR {m n t : Nat} {c p row row' : Nat → Nat} (h : ∀ j, j < n → row j = row' j) : rd_idle m c p row n t = rd_idle m c p row' n t := by
  induction t with
  | zero => rfl
  | succ t ih =>
    show (if rd_to m c p row n t = none then rd_idle m c p row n t + 1 else rd_idle m c p row n t) = (if rd_to m c p row' n t = none then rd_idle m c p row' n t + 1 else rd_idle m c p row' n t)
    rw [rd_toR h, ih]
theorem rd_yIdK {post : Int32 → SY → Prop} {m a : Nat} {c d p o : Nat → Nat} {v : SY} (W : rd_WF m (rd_n m) c d p o) (V : rd_YS m c d p o v) (ha : a < 2 ^ 31) (h : ∀ v', rd_YS m c d p o v' → post (nI (rd_idle m c p o (rd_n m) (rd_60 a))) v') : wpY_idle post v (nI a) := by
  obtain ⟨ro, lf, gv, rfl⟩ := V
  unfold wpY_idle
  refine rd_yUO (rd_n5 m W.1).1 (fun ro' H => rd_yST (fun lf gv H0 => ?_))
  rw [← rd_idleR H] at h
  exact ⟨_, rd_yIdl (rd_WFuo W H) ha h (rd_60 a) 0 lf gv (Nat.zero_add _) (rd_YI0 H0)⟩
end
section
/-! ===== fits: the reference ===== -/
theorem rd_yFitB {post : Int32 → SY → Prop} {m : Nat} {c d p o : Nat → Nat} {v : SY} {x y z : Int32} (V : rd_YS m c d p o v) (hf : ¬ rd_fine x y z) (h : post 0 v) : wpY_fits post v x y z := by
  obtain ⟨ro, lf, gv, rfl⟩ := V
  unfold wpY_fits
  exact rd_yAddB ⟨ro, lf, gv, rfl⟩ hf (br_f (by decide) h)
theorem rd_yFitF {post : Int32 → SY → Prop} {m : Nat} {c d p o : Nat → Nat} {v : SY} {x y z : Int32} (W : rd_WF m (rd_n m) c d p o) (V : rd_YS m c d p o v) (hf : rd_fine x y z) (hn : rd_n m = 5) (h : post 0 v) : wpY_fits post v x y z := by
  obtain ⟨ro, lf, gv, rfl⟩ := V
  unfold wpY_fits
  exact rd_yAddF W ⟨ro, lf, gv, rfl⟩ hf hn (br_f (by decide) h)
theorem rd_yFitK {post : Int32 → SY → Prop} {m a b e : Nat} {c d p o : Nat → Nat} {v : SY} (W : rd_WF m (rd_n m) c d p o) (V : rd_YS m c d p o v) (h1 : 1 ≤ a) (h2 : a ≤ b) (h3 : b ≤ e) (h4 : e ≤ 15) (hn : rd_n m < 5) (h : ∀ v', rd_YS m (rd_up c (rd_fr m) a) (rd_up d (rd_fr m) b) (rd_up p (rd_fr m) e) (rd_up o (rd_n m) (rd_fr m)) v' → post (rd_b (rd_fv m a b e c d p)) v') : wpY_fits post v (nI a) (nI b) (nI e) := by
  obtain ⟨ro, lf, gv, rfl⟩ := V
  have hm := W.1
  obtain ⟨hk, hf⟩ := rd_fr1 m hm hn
  obtain ⟨g1, g2, g3, g4⟩ := rd_fitE (o := o) hm hn
  have W1 := rd_WFadd W hn h1 h2 h3 h4
  have bc := rd_cntB (rd_gc (m ||| 2 ^ rd_fr m) (rd_up c (rd_fr m) a) (rd_up d (rd_fr m) b) (rd_up p (rd_fr m) e)) (rd_fac (rd_n (m ||| 2 ^ rd_fr m)))
  have bf := (rd_facB (rd_n (m ||| 2 ^ rd_fr m)) (by have := (rd_n5 _ W1.1).1; omega)).1
  unfold wpY_fits
  refine rd_yAddK W ⟨ro, lf, gv, rfl⟩ h1 h2 h3 h4 hn (fun u1 U1 => ?_)
  obtain ⟨ro, lf, gv, rfl⟩ := U1
  refine br_t (nI_pos' (by omega)) ?_
  refine rd_yGO W1 ⟨ro, lf, gv, rfl⟩ (fun u2 U2 => ?_)
  obtain ⟨ro, lf, gv, rfl⟩ := U2
  refine pk_le (rd_cnt (rd_gc (m ||| 2 ^ rd_fr m) (rd_up c (rd_fr m) a) (rd_up d (rd_fr m) b) (rd_up p (rd_fr m) e)) (rd_fac (rd_n (m ||| 2 ^ rd_fr m)))) 0 (fun z => ?_) (fun z => ?_)
  · unfold wY_fits_28
    refine rd_yRemK W1 ⟨ro, lf, gv, rfl⟩ hk g3 g4 rd_us (fun u3 U3 => ?_)
    rw [g1, g2] at U3
    obtain ⟨ro, lf, gv, rfl⟩ := U3
    have h' := h _ ⟨ro, lf, gv, rfl⟩
    rw [rd_bf (fun y => by have := of_decide_eq_true y; omega)] at h'
    exact ⟨rfl, h'⟩
  · unfold wY_fits_28
    refine rd_yRemK W1 ⟨ro, lf, gv, rfl⟩ hk g3 g4 rd_us (fun u3 U3 => ?_)
    rw [g1, g2] at U3
    obtain ⟨ro, lf, gv, rfl⟩ := U3
    have h' := h _ ⟨ro, lf, gv, rfl⟩
    rw [rd_bt (x := rd_fv m a b e c d p) (decide_eq_true z)] at h'
    exact ⟨rfl, h'⟩
end
section
/-! ===== the relation, and what is owed ===== -/
def i_Rel (_ : Nat) (u : SX) (v : SY) : Prop := ∃ (m : Nat) (c d p o : Nat → Nat), rd_WF m (rd_n m) c d p o ∧ rd_XS m c d p o u ∧ rd_YS m c d p o v
theorem i_up {k : Nat} {u : SX} {v : SY} (h : i_Rel k u v) : i_Rel (k + 4) u v := h
theorem rd_WF0 : rd_WF 0 (rd_n 0) (fun _ => 0) (fun _ => 0) (fun _ => 0) (fun _ => 0) := by
  refine ⟨by decide, rfl, ⟨fun i hi => absurd hi (Nat.not_lt_zero i), fun i hi => absurd hi (Nat.not_lt_zero i), fun k _ hb => ?_⟩, fun k hb => ?_⟩
  · rw [Nat.zero_testBit] at hb
    exact nomatch hb
  · rw [Nat.zero_testBit] at hb
    exact nomatch hb
theorem rd_Bz : (fun _ => 0 : Nat → Int32) = rd_B 0 := by
  funext k
  show 0 = if (0 : Nat).testBit k = true then (1 : Int32) else 0
  rw [Nat.zero_testBit]
  rfl
theorem i_vc0 : wpX_init (fun u => wpY_init (fun v => i_Rel 0 u v)) := by
  refine ⟨0, fun _ => 0, fun _ => 0, fun _ => 0, fun _ => 0, rd_WF0, ⟨fun _ => 0, fun _ => 0, fun _ => 0, fun _ => 0, fun _ => 0, rfl⟩, ⟨fun _ => 0, fun _ => 0, fun _ => 0, ?_⟩⟩
  rw [← rd_Bz]
  rfl
theorem i_vc_add {k : Nat} {u : SX} {v : SY} (I : i_Rel k u v) (hk : k + 4 ≤ 2048) (v1 : Int32) (v2 : Int32) (v3 : Int32) : wpX_add (fun r u' => wpY_add (fun r' v' => r' = r ∧ i_Rel (k + 4) u' v') v v1 v2 v3) u v1 v2 v3 := by
  obtain ⟨m, c, d, p, o, W, U, V⟩ := I
  by_cases hf : rd_fine v1 v2 v3
  · rcases Nat.lt_or_ge (rd_n m) 5 with hn | hn
    · obtain ⟨a, b, e, rfl, rfl, rfl, h1, h2, h3, h4⟩ := rd_fineN hf
      exact rd_xAddK W U h1 h2 h3 h4 hn (fun u' U' => rd_yAddK W V h1 h2 h3 h4 hn (fun v' V' => ⟨rfl, _, _, _, _, _, rd_WFadd W hn h1 h2 h3 h4, U', V'⟩))
    · have e5 : rd_n m = 5 := Nat.le_antisymm (rd_n5 m W.1).1 hn
      exact rd_xAddF U hf e5 (rd_yAddF W V hf e5 ⟨rfl, m, c, d, p, o, W, U, V⟩)
  · exact rd_xAddB U hf (rd_yAddB V hf ⟨rfl, m, c, d, p, o, W, U, V⟩)
theorem i_vc_remove {k : Nat} {u : SX} {v : SY} (I : i_Rel k u v) (hk : k + 4 ≤ 2048) (v1 : Int32) : wpX_remove (fun r u' => wpY_remove (fun r' v' => r' = r ∧ i_Rel (k + 4) u' v') v v1) u v1 := by
  obtain ⟨m, c, d, p, o, W, U, V⟩ := I
  rcases rd_Tem m v1 with ⟨q, hq, rfl, hb⟩ | hx
  · obtain ⟨j, hj, ej, _⟩ := rd_pos W.2.2.1 hq hb
    exact rd_xRemK W U hq hb hj ej (fun u' U' => rd_yRemK W V hq hb hj ej (fun v' V' => ⟨rfl, _, _, _, _, _, rd_WFrem W hq hb hj ej, U', V'⟩))
  · exact rd_xRemN W.1 U hx (rd_yRemN V hx ⟨rfl, m, c, d, p, o, W, U, V⟩)
theorem i_vc_place {k : Nat} {u : SX} {v : SY} (I : i_Rel k u v) (hk : k + 4 ≤ 2048) (v1 : Int32) (v2 : Int32) : wpX_place (fun r u' => wpY_place (fun r' v' => r' = r ∧ i_Rel (k + 4) u' v') v v1 v2) u v1 v2 := by
  obtain ⟨m, c, d, p, o, W, U, V⟩ := I
  rcases rd_Tem m v1 with ⟨q, hq, rfl, hb⟩ | hx
  · rcases rd_Pem (rd_n m) (rd_n5 m W.1).1 v2 with ⟨i, hi, rfl⟩ | hy
    · obtain ⟨j, hj, ej, _⟩ := rd_pos W.2.2.1 hq hb
      exact rd_xPlaK W U hq hb hj ej hi (fun u' U' => rd_yPlaK W V hq hb hj ej hi (fun v' V' => ⟨rfl, _, _, _, _, _, rd_WFpla W hq hb hj ej hi, U', V'⟩))
    · exact rd_xPlaN W.1 U (Or.inr hy) (rd_yPlaN W.1 V (Or.inr hy) ⟨rfl, m, c, d, p, o, W, U, V⟩)
  · exact rd_xPlaN W.1 U (Or.inl hx) (rd_yPlaN W.1 V (Or.inl hx) ⟨rfl, m, c, d, p, o, W, U, V⟩)
theorem i_vc_tasks {k : Nat} {u : SX} {v : SY} (I : i_Rel k u v) (hk : k + 4 ≤ 2048) : wpX_tasks (fun r => wpY_tasks (fun r' => r' = r ∧ i_Rel (k + 4) u v) v) u := by
  obtain ⟨m, c, d, p, o, W, U, V⟩ := I
  exact rd_xTsk U (rd_yTsk W.1 V ⟨rfl, m, c, d, p, o, W, U, V⟩)
theorem i_vc_at {k : Nat} {u : SX} {v : SY} (I : i_Rel k u v) (hk : k + 4 ≤ 2048) (v1 : Int32) : wpX_at (fun r => wpY_at (fun r' => r' = r ∧ i_Rel (k + 4) u v) v v1) u v1 := by
  obtain ⟨m, c, d, p, o, W, U, V⟩ := I
  rcases rd_Pem (rd_n m) (rd_n5 m W.1).1 v1 with ⟨i, hi, rfl⟩ | hy
  · exact rd_xAtK W.1 U hi (rd_yAtK W.1 V hi ⟨rfl, m, c, d, p, o, W, U, V⟩)
  · exact rd_xAtN W.1 U hy (rd_yAtN W.1 V hy ⟨rfl, m, c, d, p, o, W, U, V⟩)
theorem i_vc_response {k : Nat} {u : SX} {v : SY} (I : i_Rel k u v) (hk : k + 4 ≤ 2048) (v1 : Int32) : wpX_response (fun r u' => wpY_response (fun r' v' => r' = r ∧ i_Rel (k + 4) u' v') v v1) u v1 := by
  obtain ⟨m, c, d, p, o, W, U, V⟩ := I
  rcases rd_Tem m v1 with ⟨q, hq, rfl, hb⟩ | hx
  · exact rd_xResK W U hq hb (fun u' U' => rd_yResK W V hq hb (fun v' V' => ⟨rfl, m, c, d, p, o, W, U', V'⟩))
  · exact rd_xResN W.1 U hx (rd_yResN W.1 V hx (fun v' V' => ⟨rfl, m, c, d, p, o, W, U, V'⟩))
theorem i_vc_good {k : Nat} {u : SX} {v : SY} (I : i_Rel k u v) (hk : k + 4 ≤ 2048) : wpX_good (fun r u' => wpY_good (fun r' v' => r' = r ∧ i_Rel (k + 4) u' v') v) u := by
  obtain ⟨m, c, d, p, o, W, U, V⟩ := I
  exact rd_xGood W U (fun u' U' => rd_yGood W V (fun v' V' => ⟨rfl, m, c, d, p, o, W, U', V'⟩))
theorem i_vc_inTime {k : Nat} {u : SX} {v : SY} (I : i_Rel k u v) (hk : k + 4 ≤ 2048) : wpX_inTime (fun r u' => wpY_inTime (fun r' v' => r' = r ∧ i_Rel (k + 4) u' v') v) u := by
  obtain ⟨m, c, d, p, o, W, U, V⟩ := I
  exact rd_xInT W U (fun u' U' => rd_yInT W V (fun v' V' => ⟨rfl, m, c, d, p, o, W, U', V'⟩))
theorem i_vc_goodOrders {k : Nat} {u : SX} {v : SY} (I : i_Rel k u v) (hk : k + 4 ≤ 2048) : wpX_goodOrders (fun r u' => wpY_goodOrders (fun r' v' => r' = r ∧ i_Rel (k + 4) u' v') v) u := by
  obtain ⟨m, c, d, p, o, W, U, V⟩ := I
  exact rd_xGO W U (fun u' U' => rd_yGO W V (fun v' V' => ⟨rfl, m, c, d, p, o, W, U', V'⟩))
theorem rd_WFarr {m e : Nat} {c d p o : Nat → Nat} (W : rd_WF m (rd_n m) c d p o) (he : e < rd_fac (rd_n m)) : rd_WF m (rd_n m) c d p (rd_cp o (rd_pe m e) (rd_n m)) := rd_WFrow W he (fun i hi => rd_cpI hi)
theorem i_vc_arrange {k : Nat} {u : SX} {v : SY} (I : i_Rel k u v) (hk : k + 4 ≤ 2048) : wpX_arrange (fun r u' => wpY_arrange (fun r' v' => r' = r ∧ i_Rel (k + 4) u' v') v) u := by
  obtain ⟨m, c, d, p, o, W, U, V⟩ := I
  refine rd_xArr W U (fun e u' he ge le U' => ?_) (fun no u' U' => ?_)
  · refine rd_yArr W V (fun e' v' he' ge' le' V' => ?_) (fun no v' V' => ?_)
    · have ee : e' = e := by
        rcases Nat.lt_trichotomy e' e with q | q | q
        · have := le e' q
          rw [ge'] at this
          exact nomatch this
        · exact q
        · have := le' e q
          rw [ge] at this
          exact nomatch this
      subst ee
      exact ⟨rfl, _, _, _, _, _, rd_WFarr W he, U', V'⟩
    · have := no e he
      rw [ge] at this
      exact nomatch this
  · refine rd_yArr W V (fun e' v' he' ge' le' V' => ?_) (fun _ v' V' => ⟨rfl, m, c, d, p, o, W, U', V'⟩)
    have := no e' he'
    rw [ge'] at this
    exact nomatch this
theorem i_vc_canBeLast {k : Nat} {u : SX} {v : SY} (I : i_Rel k u v) (hk : k + 4 ≤ 2048) : wpX_canBeLast (fun r u' => wpY_canBeLast (fun r' v' => r' = r ∧ i_Rel (k + 4) u' v') v) u := by
  obtain ⟨m, c, d, p, o, W, U, V⟩ := I
  exact rd_xCBL W U (fun u' U' => rd_yCBL W V (fun v' V' => ⟨rfl, m, c, d, p, o, W, U', V'⟩))
theorem i_vc_greatestCost {k : Nat} {u : SX} {v : SY} (I : i_Rel k u v) (hk : k + 4 ≤ 2048) (v1 : Int32) : wpX_greatestCost (fun r u' => wpY_greatestCost (fun r' v' => r' = r ∧ i_Rel (k + 4) u' v') v v1) u v1 := by
  obtain ⟨m, c, d, p, o, W, U, V⟩ := I
  rcases rd_Tem m v1 with ⟨q, hq, rfl, hb⟩ | hx
  · exact rd_xGCK W U hq hb (fun u' U' => rd_yGCK W V hq hb (fun v' V' => ⟨rfl, m, c, d, p, o, W, U', V'⟩))
  · exact rd_xGCN W.1 U hx (rd_yGCN V hx ⟨rfl, m, c, d, p, o, W, U, V⟩)
theorem i_vc_leastPeriod {k : Nat} {u : SX} {v : SY} (I : i_Rel k u v) (hk : k + 4 ≤ 2048) (v1 : Int32) : wpX_leastPeriod (fun r u' => wpY_leastPeriod (fun r' v' => r' = r ∧ i_Rel (k + 4) u' v') v v1) u v1 := by
  obtain ⟨m, c, d, p, o, W, U, V⟩ := I
  rcases rd_Tem m v1 with ⟨q, hq, rfl, hb⟩ | hx
  · exact rd_xLPK W U hq hb (fun u' U' => rd_yLPK W V hq hb (fun v' V' => ⟨rfl, m, c, d, p, o, W, U', V'⟩))
  · exact rd_xLPN W.1 U hx (rd_yLPN V hx ⟨rfl, m, c, d, p, o, W, U, V⟩)
theorem i_vc_idle {k : Nat} {u : SX} {v : SY} (I : i_Rel k u v) (hk : k + 4 ≤ 2048) (v1 : Int32) : wpX_idle (fun r u' => wpY_idle (fun r' v' => r' = r ∧ i_Rel (k + 4) u' v') v v1) u v1 := by
  obtain ⟨m, c, d, p, o, W, U, V⟩ := I
  by_cases hx : v1 < 0
  · exact rd_xIdN U hx (fun u' U' => rd_yIdN W.1 V hx (fun v' V' => ⟨rfl, m, c, d, p, o, W, U', V'⟩))
  · obtain ⟨a, ha, rfl⟩ := nI_of hx
    exact rd_xIdK W U ha (fun u' U' => rd_yIdK W V ha (fun v' V' => ⟨rfl, m, c, d, p, o, W, U', V'⟩))
theorem i_vc_fits {k : Nat} {u : SX} {v : SY} (I : i_Rel k u v) (hk : k + 4 ≤ 2048) (v1 : Int32) (v2 : Int32) (v3 : Int32) : wpX_fits (fun r u' => wpY_fits (fun r' v' => r' = r ∧ i_Rel (k + 4) u' v') v v1 v2 v3) u v1 v2 v3 := by
  obtain ⟨m, c, d, p, o, W, U, V⟩ := I
  by_cases hf : rd_fine v1 v2 v3
  · rcases Nat.lt_or_ge (rd_n m) 5 with hn | hn
    · obtain ⟨a, b, e, rfl, rfl, rfl, h1, h2, h3, h4⟩ := rd_fineN hf
      exact rd_xFitK W U h1 h2 h3 h4 hn (fun u' U' => rd_yFitK W V h1 h2 h3 h4 hn (fun v' V' => ⟨rfl, _, _, _, _, _, rd_WFfit W hn, U', V'⟩))
    · have e5 : rd_n m = 5 := Nat.le_antisymm (rd_n5 m W.1).1 hn
      exact rd_xFitF U hf e5 (rd_yFitF W V hf e5 ⟨rfl, m, c, d, p, o, W, U, V⟩)
  · exact rd_xFitB U hf (rd_yFitB V hf ⟨rfl, m, c, d, p, o, W, U, V⟩)
end
