/-! rows of kit/rows/PURE-ROWS (pasted) -/
theorem pk_us {f : Nat → Int32} {k : Nat} {x : Int32} : upd f k x k = x := if_pos rfl
theorem pk_un {f : Nat → Int32} {k j : Nat} {x : Int32} (h : j ≠ k) : upd f k x j = f j := if_neg h
theorem pk_uLs {f : Nat → Int64} {k : Nat} {x : Int64} : vp_updL f k x k = x := if_pos rfl
theorem pk_uLn {f : Nat → Int64} {k j : Nat} {x : Int64} (h : j ≠ k) : vp_updL f k x j = f j := if_neg h
theorem pk_sub {a b : Nat} (h : b ≤ a) : nI a - nI b = nI (a - b) := by
  obtain ⟨c, rfl⟩ : ∃ c, a = c + b := ⟨a - b, by omega⟩
  rw [← nI_add, Int32.add_sub_cancel, Nat.add_sub_cancel]
theorem pk_m1 (n : Nat) : nI (n + 1) + (-1) = nI n := by
  rw [← nI_1, Int32.add_assoc, show (1 : Int32) + (-1) = 0 from rfl, Int32.add_zero]
theorem pk_mul (a b : Nat) : nI a * nI b = nI (a * b) := (Int32.ofNat_mul a b).symm
theorem pk_div {a d : Nat} (ha : a < 2 ^ 31) (h0 : 0 < d) (hd : d < 2 ^ 31) : nI a / nI d = nI (a / d) := by
  apply Int32.toInt_inj.mp
  rw [lg_idiv_nonneg (by rw [nI_toInt ha]; omega) (by rw [nI_toInt hd]; omega), nI_toInt ha, nI_toInt hd, nI_toInt (Nat.lt_of_le_of_lt (Nat.div_le_self a d) ha)]
  first | rfl | exact (Int.natCast_ediv _ _).symm
theorem pk_rem {a d : Nat} (ha : a < 2 ^ 31) (h0 : 0 < d) (hd : d < 2 ^ 31) : nI a - nI a / nI d * nI d = nI (a % d) := by
  rw [pk_div ha h0 hd, pk_mul, pk_sub (Nat.div_mul_le_self a d)]
  exact congrArg nI (by have := Nat.div_add_mod' a d; omega)
theorem pk_sub_toInt {a b : Nat} (ha : a < 2 ^ 30) (hb : b < 2 ^ 30) : (nI a - nI b).toInt = (a : Int) - b := by
  rw [Int32.toInt_sub, nI_toInt (by omega), nI_toInt (by omega)]
  exact Int.bmod_eq_of_le (by omega) (by omega)
theorem pk_sneg {a b : Nat} (hb : b < 2 ^ 30) (h : a < b) : nI a - nI b < 0 := by
  rw [Int32.lt_iff_toInt_lt, pk_sub_toInt (by omega) hb, show (0 : Int32).toInt = 0 from by decide]
  omega
theorem pk_ix (x : Int32) {n : Nat} (hn : n < 2 ^ 31) : x < 0 ∨ nI n ≤ x ∨ ∃ j : Nat, j < n ∧ x = nI j := by
  by_cases h : x < 0
  · exact Or.inl h
  · obtain ⟨j, hj, rfl⟩ := nI_of h
    by_cases h2 : j < n
    · exact Or.inr (Or.inr ⟨j, h2, rfl⟩)
    · exact Or.inr (Or.inl (nI_le (by omega) hj))
theorem pk_le {x y : Int32} {A B : Prop} (a b : Nat) (f : a ≤ b → A) (g : b < a → B) (hx : x = nI a := by rfl) (hy : y = nI b := by rfl) (ha : a < 2 ^ 31 := by omega) (hb : b < 2 ^ 31 := by omega) : (x ≤ y → A) ∧ (¬ x ≤ y → B) := by
  subst hx hy
  rw [nI_leI ha hb]
  exact ⟨f, fun z => g (by omega)⟩
theorem pk_lt {x y : Int32} {A B : Prop} (a b : Nat) (f : a < b → A) (g : b ≤ a → B) (hx : x = nI a := by rfl) (hy : y = nI b := by rfl) (ha : a < 2 ^ 31 := by omega) (hb : b < 2 ^ 31 := by omega) : (x < y → A) ∧ (¬ x < y → B) := by
  subst hx hy
  rw [nI_ltI ha hb]
  exact ⟨f, fun z => g (by omega)⟩
theorem pk_eq {x y : Int32} {A B : Prop} (a b : Nat) (f : a = b → A) (g : a ≠ b → B) (hx : x = nI a := by rfl) (hy : y = nI b := by rfl) (ha : a < 2 ^ 31 := by omega) (hb : b < 2 ^ 31 := by omega) : (x = y → A) ∧ (¬ x = y → B) := by
  subst hx hy
  rw [nI_eq ha hb]
  exact ⟨f, g⟩
theorem pk_in {x : Int32} (n N : Nat) (h : n < N) (hx : x = nI n := by rfl) (hN : N < 2 ^ 31 := by omega) : vp_in x N := by
  subst hx
  exact vp_in_nI h hN
theorem pk_cl {x : Int32} (n : Nat) (hx : x = nI n := by rfl) (h : n < 2 ^ 31 := by omega) : x.toNatClampNeg = n := by
  subst hx
  exact nI_clamp h
/-! ===== arrays of naturals, sets of tasks as masks (draft: not compiled yet) ===== -/
def rd_A (f : Nat → Nat) : Nat → Int32 := fun k => nI (f k)
def rd_up (f : Nat → Nat) (j x : Nat) : Nat → Nat := fun k => if k = j then x else f k
theorem rd_us {f : Nat → Nat} {j x : Nat} : rd_up f j x j = x := if_pos rfl
theorem rd_un {f : Nat → Nat} {j x k : Nat} (h : k ≠ j) : rd_up f j x k = f k := if_neg h
theorem rd_get (f : Nat → Nat) {j : Nat} (h : j < 2 ^ 31) : rd_A f (nI j).toNatClampNeg = nI (f j) := by
  rw [nI_clamp h]
  rfl
theorem rd_setN (f : Nat → Nat) (j x : Nat) : upd (rd_A f) j (nI x) = rd_A (rd_up f j x) := by
  funext k
  show (if k = j then nI x else nI (f k)) = nI (if k = j then x else f k)
  by_cases e : k = j
  · rw [if_pos e, if_pos e]
  · rw [if_neg e, if_neg e]
theorem rd_set (f : Nat → Nat) {j : Nat} (x : Nat) (h : j < 2 ^ 31) : upd (rd_A f) (nI j).toNatClampNeg (nI x) = rd_A (rd_up f j x) := by
  rw [nI_clamp h]
  exact rd_setN f j x
theorem rd_upup (f : Nat → Nat) (j x y : Nat) : rd_up (rd_up f j x) j y = rd_up f j y := by
  funext k
  by_cases e : k = j
  · rw [e, rd_us, rd_us]
  · rw [rd_un e, rd_un e, rd_un e]
theorem rd_upid (f : Nat → Nat) (j : Nat) : rd_up f j (f j) = f := by
  funext k
  by_cases e : k = j
  · rw [e, rd_us]
  · rw [rd_un e]
theorem rd_A0 : (fun _ => 0 : Nat → Int32) = rd_A (fun _ => 0) := funext fun _ => nI_0.symm
/-- the boolean array of a set of tasks -/
def rd_B (m : Nat) : Nat → Int32 := fun k => if m.testBit k = true then 1 else 0
def rd_cl (m k : Nat) : Nat := if m.testBit k = true then m - 2 ^ k else m
/-- the number of tasks -/
def rd_n (m : Nat) : Nat := (m.testBit 0).toNat + (m.testBit 1).toNat + (m.testBit 2).toNat + (m.testBit 3).toNat + (m.testBit 4).toNat
theorem rd_bit : ∀ m, m < 32 → ∀ k, k < 5 → ((nI m &&& ((1 : Int32) <<< (nI k &&& 31))) = 0 ↔ m.testBit k = false) := by decide +kernel
theorem rd_or : ∀ m, m < 32 → ∀ k, k < 5 → nI m ||| ((1 : Int32) <<< (nI k &&& 31)) = nI (m ||| 2 ^ k) := by decide +kernel
theorem rd_clr : ∀ m, m < 32 → ∀ k, k < 5 → nI m &&& (((1 : Int32) <<< (nI k &&& 31)) ^^^ (-1)) = nI (rd_cl m k) := by decide +kernel
theorem rd_orL : ∀ m, m < 32 → ∀ k, k < 5 → m ||| 2 ^ k < 32 := by decide +kernel
theorem rd_clL : ∀ m, m < 32 → ∀ k, k < 5 → rd_cl m k < 32 := by decide +kernel
theorem rd_orB : ∀ m, m < 32 → ∀ k, k < 5 → ∀ j, j < 5 → (m ||| 2 ^ k).testBit j = (m.testBit j || decide (j = k)) := by decide +kernel
theorem rd_clB : ∀ m, m < 32 → ∀ k, k < 5 → ∀ j, j < 5 → (rd_cl m k).testBit j = (m.testBit j && !decide (j = k)) := by decide +kernel
theorem rd_nor : ∀ m, m < 32 → ∀ k, k < 5 → m.testBit k = false → rd_n (m ||| 2 ^ k) = rd_n m + 1 := by decide +kernel
theorem rd_ncl : ∀ m, m < 32 → ∀ k, k < 5 → m.testBit k = true → rd_n (rd_cl m k) + 1 = rd_n m := by decide +kernel
theorem rd_n5 : ∀ m, m < 32 → rd_n m ≤ 5 ∧ (rd_n m = 5 → m = 31) := by decide +kernel
theorem rd_hi {m j : Nat} (hm : m < 32) (hj : 5 ≤ j) : m.testBit j = false :=
  Nat.testBit_lt_two_pow (Nat.lt_of_lt_of_le hm (Nat.pow_le_pow_right (n := 2) (by decide) hj))
theorem rd_mext {a b : Nat} (ha : a < 32) (hb : b < 32) (h : ∀ j, j < 5 → a.testBit j = b.testBit j) : a = b := by
  apply Nat.eq_of_testBit_eq
  intro i
  rcases Nat.lt_or_ge i 5 with hi | hi
  · exact h i hi
  · rw [rd_hi ha hi, rd_hi hb hi]
theorem rd_Bor {m k : Nat} (hm : m < 32) (hk : k < 5) : upd (rd_B m) k 1 = rd_B (m ||| 2 ^ k) := by
  funext j
  show (if j = k then 1 else if m.testBit j = true then 1 else 0) = if (m ||| 2 ^ k).testBit j = true then (1 : Int32) else 0
  rcases Nat.lt_or_ge j 5 with hj | hj
  · rw [rd_orB m hm k hk j hj]
    by_cases e : j = k
    · simp [e]
    · simp [e]
  · rw [rd_hi hm hj, rd_hi (rd_orL m hm k hk) hj, if_neg (by omega)]
theorem rd_Bcl {m k : Nat} (hm : m < 32) (hk : k < 5) : upd (rd_B m) k 0 = rd_B (rd_cl m k) := by
  funext j
  show (if j = k then 0 else if m.testBit j = true then 1 else 0) = if (rd_cl m k).testBit j = true then (1 : Int32) else 0
  rcases Nat.lt_or_ge j 5 with hj | hj
  · rw [rd_clB m hm k hk j hj]
    by_cases e : j = k
    · simp [e]
    · simp [e]
  · rw [rd_hi hm hj, rd_hi (rd_clL m hm k hk) hj, if_neg (by omega)]
theorem rd_B0 {m k : Nat} : rd_B m k = 0 ↔ m.testBit k = false := by
  unfold rd_B
  cases m.testBit k
  · simp
  · simp
/-! ===== one row of units ===== -/
/-- the work left once the jobs of unit t are there -/
def rd_rel (m : Nat) (c p : Nat → Nat) (t : Nat) (L : Nat → Nat) : Nat → Nat :=
  fun k => if m.testBit k = true ∧ t % p k = 0 then L k + c k else L k
/-- the first of the d tasks from place i on that has work -/
def rd_who (row L : Nat → Nat) : Nat → Nat → Option Nat
  | 0, _ => none
  | d + 1, i => if 0 < L (row i) then some (row i) else rd_who row L d (i + 1)
def rd_o : Option Nat → Int32
  | none => -1
  | some k => nI k
theorem rd_whoC {row L L' : Nat → Nat} : ∀ (d i : Nat), (∀ j, i ≤ j → j < i + d → L (row j) = L' (row j)) → rd_who row L d i = rd_who row L' d i := by
  intro d
  induction d with
  | zero => intro i h; rfl
  | succ d ih =>
    intro i h
    show (if 0 < L (row i) then some (row i) else rd_who row L d (i + 1)) = (if 0 < L' (row i) then some (row i) else rd_who row L' d (i + 1))
    rw [h i (Nat.le_refl i) (by omega), ih (i + 1) (fun j a b => h j (by omega) (by omega))]
theorem rd_whoR {row row' L : Nat → Nat} : ∀ (d i : Nat), (∀ j, i ≤ j → j < i + d → row j = row' j) → rd_who row L d i = rd_who row' L d i := by
  intro d
  induction d with
  | zero => intro i h; rfl
  | succ d ih =>
    intro i h
    show (if 0 < L (row i) then some (row i) else rd_who row L d (i + 1)) = (if 0 < L (row' i) then some (row' i) else rd_who row' L d (i + 1))
    rw [h i (Nat.le_refl i) (by omega), ih (i + 1) (fun j a b => h j (by omega) (by omega))]
theorem rd_whoIn {row L : Nat → Nat} {k : Nat} : ∀ (d i : Nat), rd_who row L d i = some k → 0 < L k ∧ ∃ j, i ≤ j ∧ j < i + d ∧ row j = k := by
  intro d
  induction d with
  | zero => intro i h; exact nomatch h
  | succ d ih =>
    intro i h
    by_cases z : 0 < L (row i)
    · have h' : some (row i) = some k := by rw [← h]; exact (if_pos z).symm
      have e : row i = k := Option.some.inj h'
      exact ⟨e ▸ z, i, Nat.le_refl i, by omega, e⟩
    · have h' : rd_who row L d (i + 1) = some k := by rw [← h]; exact (if_neg z).symm
      obtain ⟨a, j, h1, h2, h3⟩ := ih (i + 1) h'
      exact ⟨a, j, by omega, by omega, h3⟩
def rd_sim (m : Nat) (c p row : Nat → Nat) (n : Nat) : Nat → (Nat → Nat) × (Nat → Nat)
  | 0 => (fun _ => 0, fun _ => 0)
  | t + 1 => match rd_who row (rd_rel m c p t (rd_sim m c p row n t).1) n 0 with
    | none => (rd_rel m c p t (rd_sim m c p row n t).1, (rd_sim m c p row n t).2)
    | some k => (rd_up (rd_rel m c p t (rd_sim m c p row n t).1) k (rd_rel m c p t (rd_sim m c p row n t).1 k - 1), rd_up (rd_sim m c p row n t).2 k ((rd_sim m c p row n t).2 k + 1))
def rd_J (m : Nat) (c p row : Nat → Nat) (n t : Nat) : Nat → Nat := rd_rel m c p t (rd_sim m c p row n t).1
def rd_to (m : Nat) (c p row : Nat → Nat) (n t : Nat) : Option Nat := rd_who row (rd_J m c p row n t) n 0
/-- the unit count at which the first job of k is done, 0 if not within the first t units -/
def rd_fd (m : Nat) (c p row : Nat → Nat) (n : Nat) : Nat → Nat → Nat
  | 0, _ => 0
  | t + 1, k => if rd_to m c p row n t = some k ∧ (rd_sim m c p row n (t + 1)).2 k = c k then t + 1 else rd_fd m c p row n t k
def rd_idle (m : Nat) (c p row : Nat → Nat) (n : Nat) : Nat → Nat
  | 0 => 0
  | t + 1 => if rd_to m c p row n t = none then rd_idle m c p row n t + 1 else rd_idle m c p row n t
section
variable {m : Nat} {c p row : Nat → Nat} {n : Nat}
theorem rd_simN {t : Nat} (h : rd_to m c p row n t = none) : rd_sim m c p row n (t + 1) = (rd_J m c p row n t, (rd_sim m c p row n t).2) := by
  unfold rd_to rd_J at h
  rw [rd_sim, h]
  rfl
theorem rd_simS {t k : Nat} (h : rd_to m c p row n t = some k) : rd_sim m c p row n (t + 1) = (rd_up (rd_J m c p row n t) k (rd_J m c p row n t k - 1), rd_up (rd_sim m c p row n t).2 k ((rd_sim m c p row n t).2 k + 1)) := by
  unfold rd_to rd_J at h
  rw [rd_sim, h]
  rfl
theorem rd_bndJ {t B : Nat} (hc : ∀ k, m.testBit k = true → c k ≤ 15) (h : ∀ k, (rd_sim m c p row n t).1 k ≤ B) (k : Nat) : rd_J m c p row n t k ≤ B + 15 := by
  have hk := h k
  show (if m.testBit k = true ∧ t % p k = 0 then (rd_sim m c p row n t).1 k + c k else (rd_sim m c p row n t).1 k) ≤ B + 15
  by_cases e : m.testBit k = true ∧ t % p k = 0
  · have := hc k e.1
    rw [if_pos e]; omega
  · rw [if_neg e]; omega
theorem rd_bndL (hc : ∀ k, m.testBit k = true → c k ≤ 15) : ∀ t k, (rd_sim m c p row n t).1 k ≤ 15 * t := by
  intro t
  induction t with
  | zero => intro k; exact Nat.le_refl 0
  | succ t ih =>
    intro k
    have hJ := rd_bndJ (p := p) (row := row) (n := n) hc ih
    have hk := hJ k
    cases e : rd_to m c p row n t with
    | none => rw [rd_simN e]; show rd_J m c p row n t k ≤ _; omega
    | some q =>
      rw [rd_simS e]
      show rd_up (rd_J m c p row n t) q (rd_J m c p row n t q - 1) k ≤ _
      by_cases z : k = q
      · subst z; rw [rd_us]; omega
      · rw [rd_un z]; omega
theorem rd_bndG : ∀ t k, (rd_sim m c p row n t).2 k ≤ t := by
  intro t
  induction t with
  | zero => intro k; exact Nat.le_refl 0
  | succ t ih =>
    intro k
    have hk := ih k
    cases e : rd_to m c p row n t with
    | none => rw [rd_simN e]; show (rd_sim m c p row n t).2 k ≤ _; omega
    | some q =>
      rw [rd_simS e]
      show rd_up (rd_sim m c p row n t).2 q ((rd_sim m c p row n t).2 q + 1) k ≤ _
      by_cases z : k = q
      · subst z; rw [rd_us]; omega
      · rw [rd_un z]; omega
theorem rd_mono1 (t k : Nat) : (rd_sim m c p row n t).2 k ≤ (rd_sim m c p row n (t + 1)).2 k := by
  cases e : rd_to m c p row n t with
  | none => rw [rd_simN e]; exact Nat.le_refl _
  | some q =>
    rw [rd_simS e]
    show _ ≤ rd_up (rd_sim m c p row n t).2 q ((rd_sim m c p row n t).2 q + 1) k
    by_cases z : k = q
    · subst z; rw [rd_us]; omega
    · rw [rd_un z]; exact Nat.le_refl _
theorem rd_mono {s k : Nat} : ∀ d, (rd_sim m c p row n s).2 k ≤ (rd_sim m c p row n (s + d)).2 k := by
  intro d
  induction d with
  | zero => exact Nat.le_refl _
  | succ d ih => exact Nat.le_trans ih (rd_mono1 (s + d) k)
/-- the unit t is the last one of the first job of k -/
def rd_ev (m : Nat) (c p row : Nat → Nat) (n t k : Nat) : Prop := rd_to m c p row n t = some k ∧ (rd_sim m c p row n (t + 1)).2 k = c k
theorem rd_evG {t k : Nat} (h : rd_to m c p row n t = some k) : (rd_sim m c p row n (t + 1)).2 k = (rd_sim m c p row n t).2 k + 1 := by
  rw [rd_simS h]
  exact rd_us
theorem rd_ev1 {s t k : Nat} (hs : rd_ev m c p row n s k) (ht : rd_ev m c p row n t k) : ¬ s < t := by
  intro h
  have a := rd_mono (m := m) (c := c) (p := p) (row := row) (n := n) (s := s + 1) (k := k) (t - (s + 1))
  rw [show s + 1 + (t - (s + 1)) = t by omega, hs.2] at a
  have b := rd_evG ht.1
  rw [ht.2] at b
  omega
theorem rd_fdS : ∀ t k, (rd_fd m c p row n t k = 0 ∧ ∀ s, s < t → ¬ rd_ev m c p row n s k) ∨ (∃ s, s < t ∧ rd_fd m c p row n t k = s + 1 ∧ rd_ev m c p row n s k) := by
  intro t
  induction t with
  | zero => intro k; exact Or.inl ⟨rfl, fun s h => absurd h (Nat.not_lt_zero s)⟩
  | succ t ih =>
    intro k
    by_cases e : rd_ev m c p row n t k
    · exact Or.inr ⟨t, Nat.lt_succ_self t, if_pos e, e⟩
    · have f : rd_fd m c p row n (t + 1) k = rd_fd m c p row n t k := if_neg e
      rcases ih k with ⟨h0, h1⟩ | ⟨s, h1, h2, h3⟩
      · refine Or.inl ⟨f.trans h0, fun s hs => ?_⟩
        rcases Nat.lt_or_ge s t with h | h
        · exact h1 s h
        · rw [show s = t by omega]; exact e
      · exact Or.inr ⟨s, by omega, f.trans h2, h3⟩
/-- an event within t units is what rd_fd tells -/
theorem rd_fdE {s t k : Nat} (h : rd_ev m c p row n s k) (hs : s < t) : rd_fd m c p row n t k = s + 1 := by
  rcases rd_fdS (m := m) (c := c) (p := p) (row := row) (n := n) t k with ⟨_, h1⟩ | ⟨q, h1, h2, h3⟩
  · exact absurd h (h1 s hs)
  · have a := rd_ev1 h h3
    have b := rd_ev1 h3 h
    rw [h2]; omega
/-- no event before q: rd_fd tells none, or one beyond q -/
theorem rd_fdN {q t k : Nat} (h : ∀ s, s < q → ¬ rd_ev m c p row n s k) : rd_fd m c p row n t k = 0 ∨ q < rd_fd m c p row n t k := by
  rcases rd_fdS (m := m) (c := c) (p := p) (row := row) (n := n) t k with ⟨h0, _⟩ | ⟨s, _, h2, h3⟩
  · exact Or.inl h0
  · refine Or.inr ?_
    rcases Nat.lt_or_ge s q with z | z
    · exact absurd h3 (h s z)
    · rw [h2]; omega
theorem rd_fdB (t k : Nat) : rd_fd m c p row n t k ≤ t := by
  rcases rd_fdS (m := m) (c := c) (p := p) (row := row) (n := n) t k with ⟨h0, _⟩ | ⟨s, h1, h2, _⟩
  · omega
  · omega
theorem rd_idleB : ∀ t, rd_idle m c p row n t ≤ t := by
  intro t
  induction t with
  | zero => exact Nat.le_refl 0
  | succ t ih =>
    show (if rd_to m c p row n t = none then rd_idle m c p row n t + 1 else rd_idle m c p row n t) ≤ t + 1
    by_cases e : rd_to m c p row n t = none
    · rw [if_pos e]; omega
    · rw [if_neg e]; omega
end
/-- the answer of response -/
def rd_R (f q : Nat) : Int32 := if f = 0 ∨ q < f then -3 else nI f
/-- in time: f the first job's end, q the period, d the limit -/
def rd_ok (m : Nat) (c d p row : Nat → Nat) (n k : Nat) : Bool :=
  decide (rd_fd m c p row n 15 k ≠ 0 ∧ rd_fd m c p row n 15 k ≤ p k ∧ rd_fd m c p row n 15 k ≤ d k)
/-- the next ready unit q of a task with period p, at the head of unit t -/
def rd_nx (p t q : Nat) : Prop := q % p = 0 ∧ t ≤ q ∧ q < t + p
theorem rd_nx0 {p : Nat} (h : 0 < p) : rd_nx p 0 0 := ⟨Nat.zero_mod p, Nat.le_refl 0, by omega⟩
theorem rd_nxE {p t q : Nat} (h : rd_nx p t q) : q = t ↔ t % p = 0 := by
  obtain ⟨h1, h2, h3⟩ := h
  constructor
  · intro e; rw [← e]; exact h1
  · intro e
    have a : (q - t) % p = 0 := Nat.sub_mod_eq_zero_of_mod_eq (h1.trans e.symm)
    rw [Nat.mod_eq_of_lt (by omega)] at a
    omega
theorem rd_nxT {p t q : Nat} (hp : 0 < p) (h : rd_nx p t q) (e : q = t) : rd_nx p (t + 1) (t + p) := by
  obtain ⟨h1, h2, h3⟩ := h
  refine ⟨?_, by omega, by omega⟩
  rw [Nat.add_mod_right, ← e]
  exact h1
theorem rd_nxF {p t q : Nat} (h : rd_nx p t q) (e : q ≠ t) : rd_nx p (t + 1) q := by
  obtain ⟨h1, h2, h3⟩ := h
  exact ⟨h1, by omega, by omega⟩
