/-! ===== the reference: one run ===== -/
theorem rd_yIs {post : Int32 → Prop} {m n : Nat} {c d p o ro lf gv : Nat → Nat} (x : Int32) (h1 : ∀ j, j < 5 → x = nI j → m.testBit j = true → post 1) (h0 : (∀ j, j < 5 → x = nI j → m.testBit j = false) → post 0) : wpY_is post (nI n, rd_B m, rd_A c, rd_A d, rd_A p, rd_A o, rd_A ro, rd_A lf, rd_A gv) x := by
  rcases pk_ix x (n := 5) (by decide) with h | h | ⟨j, hj, rfl⟩
  · exact br_t h (h0 (fun j hj e => (rd_no1 h (by omega) e).elim))
  · exact br_f (fun z => Int32.lt_irrefl (Int32.lt_of_lt_of_le z (Int32.le_trans (by decide) h))) (br_t h (h0 (fun j hj e => (rd_no2 h hj (by decide) e).elim)))
  · refine br_f (nI_pos (by omega)) (br_f (nI_ge (b := 5) hj (by decide)) ⟨rd_i hj, rd_Bc hj (fun z => h0 (fun i hi e => ?_)) (fun z => h1 j hj rfl z)⟩)
    rw [← rd_inj5 hj hi e]
    exact z
theorem rd_yFil {post : Int32 → Prop} {m n j k : Nat} {c d p o ro lf gv : Nat → Nat} (hn : n ≤ 5) (hj : j < n) (hk : k < 5) (ho : ∀ i, i < n → o i < 5) (h1 : o j = k) (h2 : ∀ i, i < n → i ≠ j → o i ≠ k) (h : post (nI j)) : ∀ (e i : Nat), i + e = j → wY_find_2 post (nI k) (nI n) (rd_B m) (rd_A c) (rd_A d) (rd_A p) (rd_A o) (rd_A ro) (rd_A lf) (rd_A gv) (e + 1) (nI i) := by
  intro e
  induction e with
  | zero =>
    intro i hi
    have e : i = j := by omega
    subst e
    exact br_f (nI_ge hj (by omega)) ⟨rd_i (by omega), br_t ((rd_g (by omega)).trans (by rw [h1])) h⟩
  | succ e ih =>
    intro i hi
    refine br_f (nI_ge (by omega) (by omega)) ⟨rd_i (by omega), pk_eq (o i) k (fun z => absurd z (h2 i (by omega) (by omega))) (fun z => nm_r (nI_1 i) (ih (i + 1) (by omega))) (rd_g (by omega)) rfl (by have := ho i (by omega); omega) (by omega)⟩
theorem rd_yFi {post : Int32 → Prop} {m n j k : Nat} {c d p o ro lf gv : Nat → Nat} (hn : n ≤ 5) (hj : j < n) (hk : k < 5) (ho : ∀ i, i < n → o i < 5) (h1 : o j = k) (h2 : ∀ i, i < n → i ≠ j → o i ≠ k) (h : post (nI j)) : wpY_find post (nI n, rd_B m, rd_A c, rd_A d, rd_A p, rd_A o, rd_A ro, rd_A lf, rd_A gv) (nI k) := ⟨j + 1, rd_yFil hn hj hk ho h1 h2 h j 0 (Nat.zero_add j)⟩
theorem rd_yTOl {post : SY → Prop} {m n i : Nat} {c d p o ro lf gv : Nat → Nat} (hn : n ≤ 5) (hi : i < n) (h : post (nI (n - 1), rd_B m, rd_A c, rd_A d, rd_A p, rd_A (rd_take o n i), rd_A ro, rd_A lf, rd_A gv)) : ∀ (e j : Nat), j + 1 + e = n → i ≤ j → wY_takeOut_2 post (nI n) (e + 1) (nI j) (rd_B m) (rd_A c) (rd_A d) (rd_A p) (rd_A (rd_take o (j + 1) i)) (rd_A ro) (rd_A lf) (rd_A gv) := by
  intro e
  induction e with
  | zero =>
    intro j hj hij
    have e1 : j + 1 = n := by omega
    subst e1
    refine br_t ?_ (nm_r (nI_pred j) h)
    rw [nI_1]
    exact nI_le (Nat.le_refl _) (by omega)
  | succ e ih =>
    intro j hj hij
    refine br_f ?_ ⟨pk_in (j + 1) 5 (by omega) (nI_1 j), ⟨rd_i (by omega), nm_r (e' := rd_A (rd_take o (j + 1 + 1) i)) ?_ (nm_r (nI_1 j) (ih (j + 1) (by omega) (by omega)))⟩⟩
    · rw [nI_1]
      exact nI_ge (by omega) (by omega)
    · rw [nI_1, rd_g (by omega), rd_tkAt, rd_s (x := o (j + 1)) (by omega) rfl]
      exact congrArg rd_A (rd_tkHi (o := o) (i := j + 1) (j := i) (by omega))
theorem rd_yTO {post : SY → Prop} {m n i : Nat} {c d p o ro lf gv : Nat → Nat} (hn : n ≤ 5) (hi : i < n) (h : post (nI (n - 1), rd_B m, rd_A c, rd_A d, rd_A p, rd_A (rd_take o n i), rd_A ro, rd_A lf, rd_A gv)) : wpY_takeOut post (nI n, rd_B m, rd_A c, rd_A d, rd_A p, rd_A o, rd_A ro, rd_A lf, rd_A gv) (nI i) := by
  have a := rd_yTOl (ro := ro) hn hi h (n - (i + 1)) i (by omega) (Nat.le_refl i)
  rw [rd_tkLo (Nat.le_refl _)] at a
  exact ⟨_, a⟩
theorem rd_yUOl {post : SY → Prop} {m n : Nat} {c d p o ro lf gv : Nat → Nat} (hn : n ≤ 5) (h : post (nI n, rd_B m, rd_A c, rd_A d, rd_A p, rd_A o, rd_A (rd_cp ro o n), rd_A lf, rd_A gv)) : ∀ (e i : Nat), i + e = n → wY_useOrder_2 post (nI n) (e + 1) (nI i) (rd_B m) (rd_A c) (rd_A d) (rd_A p) (rd_A o) (rd_A (rd_cp ro o i)) (rd_A lf) (rd_A gv) := by
  intro e
  induction e with
  | zero =>
    intro i hi
    have e : i = n := by omega
    subst e
    exact br_t (nI_le (Nat.le_refl i) (by omega)) h
  | succ e ih =>
    intro i hi
    have hi5 : i < 5 := by omega
    exact br_f (nI_ge (by omega) (by omega)) ⟨rd_i hi5, ⟨rd_i hi5, nm_r ((rd_s (x := o i) hi5 (rd_g hi5)).trans (congrArg rd_A (rd_cpS ro o i))) (nm_r (nI_1 i) (ih (i + 1) (by omega)))⟩⟩
theorem rd_yUO {post : SY → Prop} {m n : Nat} {c d p o ro lf gv : Nat → Nat} (hn : n ≤ 5) (h : ∀ ro' : Nat → Nat, (∀ i, i < n → ro' i = o i) → post (nI n, rd_B m, rd_A c, rd_A d, rd_A p, rd_A o, rd_A ro', rd_A lf, rd_A gv)) : wpY_useOrder post (nI n, rd_B m, rd_A c, rd_A d, rd_A p, rd_A o, rd_A ro, rd_A lf, rd_A gv) := by
  have a := rd_yUOl (ro := ro) hn (h _ (fun i hi => rd_cpI hi)) n 0 (Nat.zero_add n)
  rw [rd_cp0] at a
  exact ⟨n + 1, a⟩
theorem rd_ySTl {post : SY → Prop} {m n : Nat} {c d p o ro : Nat → Nat} (h : ∀ lf gv : Nat → Nat, (∀ k, k < 5 → lf k = 0 ∧ gv k = 0) → post (nI n, rd_B m, rd_A c, rd_A d, rd_A p, rd_A o, rd_A ro, rd_A lf, rd_A gv)) : ∀ (e k : Nat) (lf gv : Nat → Nat), k + e = 5 → (∀ j, j < k → lf j = 0 ∧ gv j = 0) → wY_start_2 post (nI n) (e + 1) (nI k) (rd_B m) (rd_A c) (rd_A d) (rd_A p) (rd_A o) (rd_A ro) (rd_A lf) (rd_A gv) := by
  intro e
  induction e with
  | zero =>
    intro k lf gv hk hj
    exact br_t (nI_le (a := 5) (by omega) (by omega)) (h lf gv (fun j z => hj j (by omega)))
  | succ e ih =>
    intro k lf gv hk hj
    have hk5 : k < 5 := by omega
    refine br_f (nI_ge (b := 5) hk5 (by decide)) ⟨rd_i hk5, nm_r (rd_s (x := 0) hk5 rfl) ⟨rd_i hk5, nm_r (rd_s (x := 0) hk5 rfl) (nm_r (nI_1 k) (ih (k + 1) _ _ (by omega) ?_))⟩⟩
    intro j hj'
    by_cases z : j = k
    · subst z
      exact ⟨rd_us, rd_us⟩
    · rw [rd_un z, rd_un z]
      exact hj j (by omega)
theorem rd_yST {post : SY → Prop} {m n : Nat} {c d p o ro lf gv : Nat → Nat} (h : ∀ lf gv : Nat → Nat, (∀ k, k < 5 → lf k = 0 ∧ gv k = 0) → post (nI n, rd_B m, rd_A c, rd_A d, rd_A p, rd_A o, rd_A ro, rd_A lf, rd_A gv)) : wpY_start post (nI n, rd_B m, rd_A c, rd_A d, rd_A p, rd_A o, rd_A ro, rd_A lf, rd_A gv) :=
  ⟨6, rd_ySTl h 5 0 lf gv rfl (fun j z => absurd z (Nat.not_lt_zero j))⟩
/-- what the reference holds of a run at the head of unit t -/
def rd_YI (m : Nat) (c p row : Nat → Nat) (n t : Nat) (lf gv : Nat → Nat) : Prop :=
  ∀ k, k < 5 → m.testBit k = true → lf k = (rd_sim m c p row n t).1 k ∧ gv k = (rd_sim m c p row n t).2 k
theorem rd_YI0 {m n : Nat} {c p row lf gv : Nat → Nat} (h : ∀ k, k < 5 → lf k = 0 ∧ gv k = 0) : rd_YI m c p row n 0 lf gv := fun k hk _ => h k hk
theorem rd_YIN {m n t : Nat} {c p row lf gv lf' : Nat → Nat} (H : rd_YI m c p row n t lf gv) (h1 : ∀ k, k < 5 → m.testBit k = true → lf' k = rd_J m c p row n t k) (e : rd_to m c p row n t = none) : rd_YI m c p row n (t + 1) lf' gv := by
  intro k hk hb
  rw [rd_simN e]
  exact ⟨h1 k hk hb, (H k hk hb).2⟩
theorem rd_YIS {m n t q : Nat} {c p row lf gv lf' : Nat → Nat} (H : rd_YI m c p row n t lf gv) (h1 : ∀ k, k < 5 → m.testBit k = true → lf' k = rd_J m c p row n t k) (e : rd_to m c p row n t = some q) : rd_YI m c p row n (t + 1) (rd_up lf' q (lf' q - 1)) (rd_up gv q (gv q + 1)) := by
  intro k hk hb
  rw [rd_simS e]
  by_cases z : k = q
  · subst z
    rw [rd_us, rd_us, h1 k hk hb, (H k hk hb).2]
    exact ⟨rd_us.symm, rd_us.symm⟩
  · rw [rd_un z, rd_un z, h1 k hk hb, (H k hk hb).2]
    exact ⟨(rd_un z).symm, (rd_un z).symm⟩
/-- the work left while the places from q on have been looked at -/
def rd_UI (L J ro : Nat → Nat) (n q : Nat) (lf : Nat → Nat) : Prop := (∀ j, j < q → lf (ro j) = L (ro j)) ∧ (∀ j, q ≤ j → j < n → lf (ro j) = J (ro j))
theorem rd_UIs {m n i : Nat} {L J ro lf : Nat → Nat} (hR : rd_Row m n ro) (hi : i < n) (H : rd_UI L J ro n (i + 1) lf) : rd_UI L J ro n i (rd_up lf (ro i) (J (ro i))) := by
  obtain ⟨_, h2, _⟩ := hR
  refine ⟨fun j hj => ?_, fun j hj hjn => ?_⟩
  · rw [rd_un (fun e => by have := h2 j (by omega) i hi e; omega)]
    exact H.1 j (by omega)
  · by_cases z : j = i
    · rw [z, rd_us]
    · rw [rd_un (fun e => z (h2 j hjn i hi e))]
      exact H.2 j (by omega) hjn
theorem rd_UIe {m n : Nat} {L J ro lf : Nat → Nat} (hR : rd_Row m n ro) (H : rd_UI L J ro n 0 lf) : ∀ k, k < 5 → m.testBit k = true → lf k = J k := by
  intro k hk hb
  obtain ⟨i, hi, e⟩ := hR.2.2 k hk hb
  rw [← e]
  exact H.2 i (Nat.zero_le i) hi
