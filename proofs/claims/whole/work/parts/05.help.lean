/-! ===== helpers for the walks ===== -/
theorem rd_g {f : Nat → Nat} {j : Nat} (h : j < 5) : rd_A f (nI j).toNatClampNeg = nI (f j) := rd_get f (by omega)
theorem rd_s {f : Nat → Nat} {j x : Nat} {y : Int32} (h : j < 5) (e : y = nI x) : upd (rd_A f) (nI j).toNatClampNeg y = rd_A (rd_up f j x) := by
  rw [e]
  exact rd_set f x (by omega)
theorem rd_i {j : Nat} (h : j < 5) : vp_in (nI j) 5 := vp_in_nI h (by decide)
theorem rd_bc {m k : Nat} {A B : Prop} (hm : m < 32) (hk : k < 5) (f : m.testBit k = false → A) (g : m.testBit k = true → B) : ((nI m &&& ((1 : Int32) <<< (nI k &&& 31))) = 0 → A) ∧ (¬ (nI m &&& ((1 : Int32) <<< (nI k &&& 31))) = 0 → B) := by
  rw [rd_bit m hm k hk]
  refine ⟨f, fun z => g ?_⟩
  cases e : m.testBit k with
  | true => rfl
  | false => exact absurd e z
theorem rd_Bc {m k : Nat} {A B : Prop} (hk : k < 5) (f : m.testBit k = false → A) (g : m.testBit k = true → B) : (rd_B m (nI k).toNatClampNeg = 0 → A) ∧ (¬ rd_B m (nI k).toNatClampNeg = 0 → B) := by
  rw [nI_clamp (show k < 2 ^ 31 by omega), rd_B0]
  refine ⟨f, fun z => g ?_⟩
  cases e : m.testBit k with
  | true => rfl
  | false => exact absurd e z
theorem rd_tf {x : Bool} (h : ¬ x = true) : x = false := by
  cases x with
  | true => exact absurd rfl h
  | false => rfl
theorem rd_ft' {x : Bool} (h : ¬ x = false) : x = true := by
  cases x with
  | true => rfl
  | false => exact absurd rfl h
theorem rd_nft {x : Bool} (h : x = false) : ¬ x = true := by
  rw [h]
  exact nofun
/-- a counter that runs down: the place below q -/
def rd_p : Nat → Int32
  | 0 => -1
  | q + 1 => nI q
theorem rd_pm (q : Nat) : nI q + (-1) = rd_p q := by
  cases q with
  | zero => rfl
  | succ q => exact pk_m1 q
theorem rd_pm1 (q : Nat) : nI q - 1 = rd_p q := by
  cases q with
  | zero => rfl
  | succ q => exact nI_pred q
theorem rd_pm2 (q : Nat) : nI (q + 1) - 2 = rd_p q := by
  cases q with
  | zero => decide
  | succ q => exact pk_sub (a := q + 1 + 1) (b := 2) (by omega)
theorem rd_m1n {f : Nat} (h : f < 2 ^ 31) : ¬ nI f = -1 := by
  intro e
  have a := nI_toInt h
  rw [e, show (-1 : Int32).toInt = -1 by decide] at a
  omega
theorem rd_m3n {f : Nat} (h : f < 2 ^ 31) : ¬ nI f = -3 := by
  intro e
  have a := nI_toInt h
  rw [e, show (-3 : Int32).toInt = -3 by decide] at a
  omega
theorem rd_m1l : (-1 : Int32) < 0 := by decide
theorem rd_nb (x : Bool) : narrow .boolean (.int (rd_b x)) = .int (rd_b x) := by
  cases x <;> rfl
theorem rd_vb0 : vp_nar .boolean 0 = 0 := by decide
theorem rd_vb1 : vp_nar .boolean 1 = 1 := by decide
