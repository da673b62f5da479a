/-! ===== the desk: tasks, places, orders ===== -/
theorem rd_no1 {x : Int32} (h : x < 0) {j : Nat} (hj : j < 2 ^ 31) (e : x = nI j) : False := nI_pos hj (e ▸ h)
theorem rd_no2 {x : Int32} {b : Nat} (h : nI b ≤ x) {j : Nat} (hj : j < b) (hb : b < 2 ^ 31) (e : x = nI j) : False := nI_ge hj hb (e ▸ h)
theorem rd_inj5 {i j : Nat} (hi : i < 5) (hj : j < 5) (e : nI i = nI j) : i = j := (nI_eq (by omega) (by omega)).mp e
theorem rd_xIs {post : Int32 → Prop} {m n : Nat} {c d p o tr nx wl uh fd : Nat → Nat} (x : Int32) (hm : m < 32) (h1 : ∀ j, j < 5 → x = nI j → m.testBit j = true → post 1) (h0 : (∀ j, j < 5 → x = nI j → m.testBit j = false) → post 0) : wpX_isTask post (nI m, nI n, rd_A c, rd_A d, rd_A p, rd_A o, rd_A tr, rd_A nx, rd_A wl, rd_A uh, rd_A fd) x := by
  rcases pk_ix x (n := 5) (by decide) with h | h | ⟨j, hj, rfl⟩
  · exact br_t h (h0 (fun j hj e => (rd_no1 h (by omega) e).elim))
  · exact br_f (fun z => Int32.lt_irrefl (Int32.lt_of_lt_of_le z (Int32.le_trans (by decide) h))) (br_t h (h0 (fun j hj e => (rd_no2 h hj (by decide) e).elim)))
  · refine br_f (nI_pos (by omega)) (br_f (nI_ge (b := 5) hj (by decide)) (rd_bc hm hj (fun z => h0 (fun i hi e => ?_)) (fun z => h1 j hj rfl z)))
    rw [← rd_inj5 hj hi e]
    exact z
theorem rd_xPl {post : Int32 → Prop} {m n : Nat} {c d p o tr nx wl uh fd : Nat → Nat} (x : Int32) (hn : n ≤ 5) (h1 : ∀ j, j < n → x = nI j → post 1) (h0 : (∀ j, j < n → ¬ x = nI j) → post 0) : wpX_isPlace post (nI m, nI n, rd_A c, rd_A d, rd_A p, rd_A o, rd_A tr, rd_A nx, rd_A wl, rd_A uh, rd_A fd) x := by
  rcases pk_ix x (n := n) (by omega) with h | h | ⟨j, hj, rfl⟩
  · exact br_t h (h0 (fun j hj e => rd_no1 h (by omega) e))
  · exact br_f (fun z => Int32.lt_irrefl (Int32.lt_of_lt_of_le z (Int32.le_trans (nI_pos' (by omega)) h))) (br_t h (h0 (fun j hj e => rd_no2 h hj (by omega) e)))
  · exact br_f (nI_pos (by omega)) (br_f (nI_ge hj (by omega)) (h1 j hj rfl))
theorem rd_xLFl {post : Int32 → Prop} {m n : Nat} {c d p o tr nx wl uh fd : Nat → Nat} (hm : m < 32) : ∀ (e k : Nat), k + e = 4 → post (nI (rd_lf m e k)) → wX_leastFreeNumber_2 post (nI m) (nI n) (rd_A c) (rd_A d) (rd_A p) (rd_A o) (rd_A tr) (rd_A nx) (rd_A wl) (rd_A uh) (rd_A fd) (e + 1) (nI k) := by
  intro e
  induction e with
  | zero =>
    intro k hk h
    exact br_t (nI_le (a := 4) (by omega) (by omega)) h
  | succ e ih =>
    intro k hk h
    refine br_f (nI_ge (b := 4) (by omega) (by decide)) (rd_bc hm (by omega) (fun z => ?_) (fun z => nm_r (nI_1 k) (ih (k + 1) (by omega) ?_)))
    · have a : rd_lf m (e + 1) k = k := if_neg (rd_nft z)
      rw [a] at h
      exact h
    · have a : rd_lf m (e + 1) k = rd_lf m e (k + 1) := if_pos z
      rw [← a]
      exact h
theorem rd_xLF {post : Int32 → Prop} {m n : Nat} {c d p o tr nx wl uh fd : Nat → Nat} (hm : m < 32) (h : post (nI (rd_fr m))) : wpX_leastFreeNumber post (nI m, nI n, rd_A c, rd_A d, rd_A p, rd_A o, rd_A tr, rd_A nx, rd_A wl, rd_A uh, rd_A fd) := ⟨5, rd_xLFl hm 4 0 rfl h⟩
theorem rd_xTOl {post : SX → Prop} {m n j k : Nat} {c d p o tr nx wl uh fd : Nat → Nat} (hn : n ≤ 5) (hj : j < n) (hk : k < 5) (ho : ∀ i, i < n → o i < 5) (h1 : o j = k) (h2 : ∀ i, i < n → i ≠ j → o i ≠ k) (h : post (nI m, nI (n - 1), rd_A c, rd_A d, rd_A p, rd_A (rd_take o n j), rd_A tr, rd_A nx, rd_A wl, rd_A uh, rd_A fd)) : ∀ (e i : Nat), i + e = n → wX_takeOut_4 post (nI k) (nI m) (nI n) (e + 1) (nI (if j < i then i - 1 else i)) (nI i) (rd_A c) (rd_A d) (rd_A p) (rd_A (rd_take o i j)) (rd_A tr) (rd_A nx) (rd_A wl) (rd_A uh) (rd_A fd) := by
  intro e
  induction e with
  | zero =>
    intro i hi
    have e : i = n := by omega
    subst e
    rw [if_pos hj]
    exact br_t (nI_le (Nat.le_refl i) (by omega)) h
  | succ e ih =>
    intro i hi
    have hi5 : i < 5 := by omega
    have hoi := ho i (by omega)
    have IH := ih (i + 1) (by omega)
    refine br_f (nI_ge (by omega) (by omega)) ⟨rd_i hi5, pk_eq (o i) k (fun z => ?_) (fun z => ?_) ((rd_g hi5).trans (by rw [rd_tkAt])) rfl (by omega) (by omega)⟩
    · have e : i = j := by
        by_cases q : i = j
        · exact q
        · exact absurd z (h2 i (by omega) q)
      subst e
      rw [if_pos (by omega), rd_tkLo (Nat.le_refl _), show i + 1 - 1 = i by omega] at IH
      rw [if_neg (by omega), rd_tkLo (by omega)]
      exact nm_r (nI_1 i) IH
    · have ne : i ≠ j := fun q => z (by rw [q]; exact h1)
      rcases Nat.lt_or_ge i j with q | q
      · rw [if_neg (by omega), rd_tkLo (by omega)] at IH
        rw [if_neg (by omega), rd_tkLo (by omega)]
        refine ⟨rd_i hi5, ⟨rd_i hi5, nm_r ((rd_s (x := o i) hi5 (rd_g hi5)).trans (by rw [rd_upid])) (nm_r (nI_1 i) (nm_r (nI_1 i) IH))⟩⟩
      · rw [if_pos (by omega), show i + 1 - 1 = i by omega] at IH
        rw [if_pos (by omega)]
        refine ⟨rd_i hi5, ⟨rd_i (by omega), nm_r ((rd_s (x := o i) (by omega) ((rd_g hi5).trans (by rw [rd_tkAt]))).trans (by rw [rd_tkHi (by omega)])) (nm_r ((nI_1 (i - 1)).trans (by rw [show i - 1 + 1 = i by omega])) (nm_r (nI_1 i) IH))⟩⟩
theorem rd_xTO {post : SX → Prop} {m n j k : Nat} {c d p o tr nx wl uh fd : Nat → Nat} (hn : n ≤ 5) (hj : j < n) (hk : k < 5) (ho : ∀ i, i < n → o i < 5) (h1 : o j = k) (h2 : ∀ i, i < n → i ≠ j → o i ≠ k) (h : post (nI m, nI (n - 1), rd_A c, rd_A d, rd_A p, rd_A (rd_take o n j), rd_A tr, rd_A nx, rd_A wl, rd_A uh, rd_A fd)) : wpX_takeOut post (nI m, nI n, rd_A c, rd_A d, rd_A p, rd_A o, rd_A tr, rd_A nx, rd_A wl, rd_A uh, rd_A fd) (nI k) := by
  have a := rd_xTOl (wl := wl) hn hj hk ho h1 h2 h n 0 (Nat.zero_add n)
  rw [if_neg (by omega), rd_tkLo (by omega)] at a
  exact ⟨n + 1, a⟩
theorem rd_xPIl {post : SX → Prop} {m n k i : Nat} {c d p o tr nx wl uh fd : Nat → Nat} (hn : n < 5) (hi : i ≤ n) (h : post (nI m, nI (n + 1), rd_A c, rd_A d, rd_A p, rd_A (rd_put o n k i), rd_A tr, rd_A nx, rd_A wl, rd_A uh, rd_A fd)) : ∀ (e : Nat), i + e ≤ n → wX_putIn_5 post (nI k) (nI i) (nI m) (nI n) (e + 1) (nI (i + e)) (rd_A c) (rd_A d) (rd_A p) (rd_A (rd_shr o n (i + e))) (rd_A tr) (rd_A nx) (rd_A wl) (rd_A uh) (rd_A fd) := by
  intro e
  induction e with
  | zero =>
    intro hq
    exact br_t (nI_le (by omega) (by omega)) ⟨rd_i (by omega), nm_r ((rd_s (x := k) (by omega) rfl).trans (congrArg rd_A (rd_shrE o n k i))) (nm_r (nI_1 n) h)⟩
  | succ e ih =>
    intro hq
    have e1 : nI (i + (e + 1)) - 1 = nI (i + e) := nI_pred (i + e)
    refine br_f (nI_ge (by omega) (by omega)) ⟨pk_in (i + e) 5 (by omega) e1, ⟨rd_i (by omega), nm_r (e' := rd_A (rd_shr o n (i + e))) ?_ (nm_r (pk_m1 (i + e)) (ih (by omega)))⟩⟩
    rw [e1, rd_g (by omega), rd_s (x := rd_shr o n (i + (e + 1)) (i + e)) (by omega) rfl]
    exact congrArg rd_A (rd_shrS (o := o) (n := n) (i := i + e) hq)
theorem rd_xPI {post : SX → Prop} {m n k i : Nat} {c d p o tr nx wl uh fd : Nat → Nat} (hn : n < 5) (hi : i ≤ n) (h : post (nI m, nI (n + 1), rd_A c, rd_A d, rd_A p, rd_A (rd_put o n k i), rd_A tr, rd_A nx, rd_A wl, rd_A uh, rd_A fd)) : wpX_putIn post (nI m, nI n, rd_A c, rd_A d, rd_A p, rd_A o, rd_A tr, rd_A nx, rd_A wl, rd_A uh, rd_A fd) (nI k) (nI i) := by
  have a := rd_xPIl (wl := wl) hn hi h (n - i) (by omega)
  rw [show i + (n - i) = n by omega, rd_shr0] at a
  exact ⟨n - i + 1, a⟩
theorem rd_xNOl {post : Int32 → Prop} {m n : Nat} {c d p o tr nx wl uh fd : Nat → Nat} (hn : n ≤ 5) (h : post (nI (rd_fac n))) : ∀ (e i : Nat), i + e = n → wX_numberOfOrders_4 post (nI m) (nI n) (rd_A c) (rd_A d) (rd_A p) (rd_A o) (rd_A tr) (rd_A nx) (rd_A wl) (rd_A uh) (rd_A fd) (e + 1) (nI (rd_fac i)) (nI (i + 1)) := by
  intro e
  induction e with
  | zero =>
    intro i hi
    have e : i = n := by omega
    subst e
    exact br_t (nI_lt (by omega) (by omega)) h
  | succ e ih =>
    intro i hi
    exact br_f (nI_nlt (by omega) (by omega)) (nm_r (pk_mul _ _) (nm_r (nI_1 (i + 1)) (ih (i + 1) (by omega))))
theorem rd_xNO {post : Int32 → Prop} {m n : Nat} {c d p o tr nx wl uh fd : Nat → Nat} (hn : n ≤ 5) (h : post (nI (rd_fac n))) : wpX_numberOfOrders post (nI m, nI n, rd_A c, rd_A d, rd_A p, rd_A o, rd_A tr, rd_A nx, rd_A wl, rd_A uh, rd_A fd) := by
  cases n with
  | zero => exact ⟨1, br_t (nI_lt (a := 0) (b := 2) (by decide) (by decide)) h⟩
  | succ n => exact ⟨n + 1, rd_xNOl hn h n 1 (by omega)⟩
theorem rd_xFTl {post : SX → Prop} {m n : Nat} {c d p o tr nx wl uh fd : Nat → Nat} (hm : m < 32) (h : post (nI m, nI n, rd_A c, rd_A d, rd_A p, rd_A o, rd_A ((rd_ft m tr 5).1), rd_A nx, rd_A wl, rd_A uh, rd_A fd)) : ∀ (e k : Nat), k + e = 5 → wX_firstTrial_4 post (nI m) (nI n) (e + 1) (nI (rd_ft m tr k).2) (nI k) (rd_A c) (rd_A d) (rd_A p) (rd_A o) (rd_A ((rd_ft m tr k).1)) (rd_A nx) (rd_A wl) (rd_A uh) (rd_A fd) := by
  intro e
  induction e with
  | zero =>
    intro k hk
    have e : k = 5 := by omega
    subst e
    exact br_t (nI_le (a := 5) (Nat.le_refl 5) (by decide)) h
  | succ e ih =>
    intro k hk
    have hk5 : k < 5 := by omega
    have IH := ih (k + 1) (by omega)
    refine br_f (nI_ge (b := 5) hk5 (by decide)) (rd_bc hm hk5 (fun z => nm_r (nI_1 k) ?_) (fun z => ?_))
    · have a : rd_ft m tr (k + 1) = rd_ft m tr k := if_neg (rd_nft z)
      rw [a] at IH
      exact IH
    · have a : rd_ft m tr (k + 1) = (rd_up (rd_ft m tr k).1 (rd_ft m tr k).2 k, (rd_ft m tr k).2 + 1) := if_pos z
      have b : (rd_ft m tr k).2 < 5 := by rw [(rd_ftC m tr k).1]; exact rd_ftB m hm k hk5 z
      rw [a] at IH
      exact ⟨rd_i b, nm_r (rd_s b rfl) (nm_r (nI_1 _) (nm_r (nI_1 k) IH))⟩
theorem rd_xFT {post : SX → Prop} {m n : Nat} {c d p o tr nx wl uh fd : Nat → Nat} (hm : m < 32) (h : ∀ tr' : Nat → Nat, (∀ i, i < rd_n m → tr' i = rd_pe m 0 i) → post (nI m, nI n, rd_A c, rd_A d, rd_A p, rd_A o, rd_A tr', rd_A nx, rd_A wl, rd_A uh, rd_A fd)) : wpX_firstTrial post (nI m, nI n, rd_A c, rd_A d, rd_A p, rd_A o, rd_A tr, rd_A nx, rd_A wl, rd_A uh, rd_A fd) := by
  refine ⟨6, rd_xFTl hm (h _ (fun i hi => ?_)) 5 0 rfl⟩
  obtain ⟨a, b⟩ := rd_ft0 m hm
  obtain ⟨a', b'⟩ := rd_ftC m tr 5
  rw [b' i (by rw [a', a]; exact hi)]
  exact b i hi
theorem rd_xSw {post : SX → Prop} {m n i j : Nat} {c d p o tr nx wl uh fd : Nat → Nat} (hi : i < 5) (hj : j < 5) (h : post (nI m, nI n, rd_A c, rd_A d, rd_A p, rd_A o, rd_A (rd_sw tr i j), rd_A nx, rd_A wl, rd_A uh, rd_A fd)) : wpX_swapTrial post (nI m, nI n, rd_A c, rd_A d, rd_A p, rd_A o, rd_A tr, rd_A nx, rd_A wl, rd_A uh, rd_A fd) (nI i) (nI j) :=
  ⟨rd_i hi, nm_r (rd_g hi) ⟨rd_i hj, ⟨rd_i hi, nm_r (rd_s (x := tr j) hi (rd_g hj)) ⟨rd_i hj, nm_r (rd_s (x := tr i) hj rfl) h⟩⟩⟩⟩
theorem rd_xNT3 {post : SX → Prop} {m n : Nat} {c d p o nx wl uh fd : Nat → Nat} : ∀ (e : Nat) (tr : Nat → Nat) (low high : Nat), high ≤ low + 2 * e → low ≤ 5 → high < 5 → post (nI m, nI n, rd_A c, rd_A d, rd_A p, rd_A o, rd_A (rd_rev e tr low high), rd_A nx, rd_A wl, rd_A uh, rd_A fd) → wX_nextTrial_90 post (e + 1) (nI low) (nI high) (nI m) (nI n) (rd_A c) (rd_A d) (rd_A p) (rd_A o) (rd_A tr) (rd_A nx) (rd_A wl) (rd_A uh) (rd_A fd) := by
  intro e
  induction e with
  | zero =>
    intro tr low high h1 h2 h3 h
    exact br_t (nI_le (by omega) (by omega)) h
  | succ e ih =>
    intro tr low high h1 h2 h3 h
    refine pk_le high low (fun z => ?_) (fun z => ?_)
    · have a : rd_rev (e + 1) tr low high = tr := if_neg (by omega)
      rw [a] at h
      exact h
    · have a : rd_rev (e + 1) tr low high = rd_rev e (rd_sw tr low high) (low + 1) (high - 1) := if_pos z
      rw [a] at h
      refine rd_xSw (by omega) (by omega) (nm_r (nI_1 low) (nm_r (e' := nI (high - 1)) ?_ (ih _ (low + 1) (high - 1) (by omega) (by omega) (by omega) h)))
      rw [show high = high - 1 + 1 by omega, pk_m1]
      rfl
theorem rd_xNT2 {post : SX → Prop} {m n i : Nat} {c d p o tr nx wl uh fd : Nat → Nat} (hn : n ≤ 5) (hi : i + 1 < n) (hb : ∀ q, q < n → tr q < 2 ^ 31) : ∀ (j : Nat), j < n → post (nI m, nI n, rd_A c, rd_A d, rd_A p, rd_A o, rd_A (rd_rev 5 (rd_sw tr i (rd_nj tr i j)) (i + 1) (n - 1)), rd_A nx, rd_A wl, rd_A uh, rd_A fd) → wX_nextTrial_46 post (nI i) (nI m) (nI n) (rd_A c) (rd_A d) (rd_A p) (rd_A o) (rd_A tr) (rd_A nx) (rd_A wl) (rd_A uh) (rd_A fd) (j + 1) (nI j) := by
  intro j
  have fin : ∀ j, j < n → post (nI m, nI n, rd_A c, rd_A d, rd_A p, rd_A o, rd_A (rd_rev 5 (rd_sw tr i j) (i + 1) (n - 1)), rd_A nx, rd_A wl, rd_A uh, rd_A fd) → wX_nextTrial_72 post (nI i) (nI j) (nI m) (nI n) (rd_A c) (rd_A d) (rd_A p) (rd_A o) (rd_A tr) (rd_A nx) (rd_A wl) (rd_A uh) (rd_A fd) := by
    intro j hj h
    unfold wX_nextTrial_72
    refine rd_xSw (by omega) (by omega) (nm_r (nI_1 i) (nm_r (e' := nI (n - 1)) ?_ ⟨6, rd_xNT3 5 _ (i + 1) (n - 1) (by omega) (by omega) (by omega) h⟩))
    rw [show n = n - 1 + 1 by omega, nI_pred]
    rfl
  induction j with
  | zero =>
    intro hj h
    exact br_t (nI_le (by omega) (by omega)) (fin 0 hj h)
  | succ j ih =>
    intro hj h
    refine pk_le (j + 1) i (fun z => ?_) (fun z => ⟨rd_i (by omega), ⟨rd_i (by omega), pk_le (tr i) (tr (j + 1)) (fun y => ?_) (fun y => ?_) (rd_g (by omega)) (rd_g (by omega)) (hb _ (by omega)) (hb _ hj)⟩⟩)
    · have a : rd_nj tr i (j + 1) = j + 1 := if_neg (by omega)
      rw [a] at h
      exact fin (j + 1) hj h
    · have a : rd_nj tr i (j + 1) = j + 1 := if_neg (by omega)
      rw [a] at h
      exact fin (j + 1) hj h
    · have a : rd_nj tr i (j + 1) = rd_nj tr i j := if_pos ⟨z, y⟩
      rw [a] at h
      exact nm_r (pk_m1 j) (ih (by omega) h)
theorem rd_xNT1 {post : SX → Prop} {m n : Nat} {c d p o tr nx wl uh fd : Nat → Nat} (hn : n ≤ 5) (hb : ∀ q, q < n → tr q < 2 ^ 31) : ∀ (q : Nat), q + 1 ≤ n → post (nI m, nI n, rd_A c, rd_A d, rd_A p, rd_A o, rd_A (if rd_ni tr q = 0 then tr else rd_rev 5 (rd_sw tr (rd_ni tr q - 1) (rd_nj tr (rd_ni tr q - 1) (n - 1))) (rd_ni tr q) (n - 1)), rd_A nx, rd_A wl, rd_A uh, rd_A fd) → wX_nextTrial_7 post (nI m) (nI n) (rd_A c) (rd_A d) (rd_A p) (rd_A o) (rd_A tr) (rd_A nx) (rd_A wl) (rd_A uh) (rd_A fd) (q + 1) (rd_p q) := by
  intro q
  induction q with
  | zero =>
    intro hq h
    rw [if_pos (show rd_ni tr 0 = 0 from rfl)] at h
    exact br_t rd_m1l (br_f (by decide) h)
  | succ i ih =>
    intro hq h
    show wX_nextTrial_7 post (nI m) (nI n) (rd_A c) (rd_A d) (rd_A p) (rd_A o) (rd_A tr) (rd_A nx) (rd_A wl) (rd_A uh) (rd_A fd) (i + 1 + 1) (nI i)
    refine br_f (nI_pos (by omega)) ⟨rd_i (by omega), ⟨pk_in (i + 1) 5 (by omega) (nI_1 i), ?_⟩⟩
    rw [nI_1 i]
    refine pk_le (tr i) (tr (i + 1)) (fun z => ?_) (fun z => ?_) (rd_g (by omega)) (rd_g (by omega)) (hb _ (by omega)) (hb _ (by omega))
    · have a : rd_ni tr (i + 1) = i + 1 := if_neg (by omega)
      rw [a, if_neg (by omega), show i + 1 - 1 = i by omega] at h
      refine br_t (nI_pos' (by omega)) (nm_r (e' := nI (n - 1)) ?_ ⟨n - 1 + 1, rd_xNT2 hn (by omega) hb (n - 1) (by omega) h⟩)
      rw [show n = n - 1 + 1 by omega, nI_pred]
      rfl
    · have a : rd_ni tr (i + 1) = rd_ni tr i := if_pos z
      rw [a] at h
      exact nm_r (rd_pm i) (ih (by omega) h)
theorem rd_xNT {post : SX → Prop} {m n : Nat} {c d p o tr nx wl uh fd : Nat → Nat} (hn : n ≤ 5) (hb : ∀ q, q < n → tr q < 2 ^ 31) (h : post (nI m, nI n, rd_A c, rd_A d, rd_A p, rd_A o, rd_A (rd_next n tr), rd_A nx, rd_A wl, rd_A uh, rd_A fd)) : wpX_nextTrial post (nI m, nI n, rd_A c, rd_A d, rd_A p, rd_A o, rd_A tr, rd_A nx, rd_A wl, rd_A uh, rd_A fd) := by
  cases n with
  | zero =>
    have a : rd_next 0 tr = tr := if_pos rfl
    rw [a] at h
    exact nm_e ⟨1, br_t (by decide) (br_f (by decide) h)⟩
  | succ n => exact nm_r (rd_pm2 n) ⟨n + 1, rd_xNT1 hn hb n (Nat.le_refl _) h⟩
theorem rd_xTTOl {post : SX → Prop} {m n : Nat} {c d p o tr nx wl uh fd : Nat → Nat} (hn : n ≤ 5) (h : post (nI m, nI n, rd_A c, rd_A d, rd_A p, rd_A (rd_cp o tr n), rd_A tr, rd_A nx, rd_A wl, rd_A uh, rd_A fd)) : ∀ (e i : Nat), i + e = n → wX_takeTrialAsOrder_2 post (nI m) (nI n) (e + 1) (nI i) (rd_A c) (rd_A d) (rd_A p) (rd_A (rd_cp o tr i)) (rd_A tr) (rd_A nx) (rd_A wl) (rd_A uh) (rd_A fd) := by
  intro e
  induction e with
  | zero =>
    intro i hi
    have e : i = n := by omega
    subst e
    exact br_t (nI_le (Nat.le_refl i) (by omega)) h
  | succ e ih =>
    intro i hi
    have hi5 : i < 5 := by omega
    exact br_f (nI_ge (by omega) (by omega)) ⟨rd_i hi5, ⟨rd_i hi5, nm_r ((rd_s (x := tr i) hi5 (rd_g hi5)).trans (congrArg rd_A (rd_cpS o tr i))) (nm_r (nI_1 i) (ih (i + 1) (by omega)))⟩⟩
theorem rd_xTTO {post : SX → Prop} {m n : Nat} {c d p o tr nx wl uh fd : Nat → Nat} (hn : n ≤ 5) (h : post (nI m, nI n, rd_A c, rd_A d, rd_A p, rd_A (rd_cp o tr n), rd_A tr, rd_A nx, rd_A wl, rd_A uh, rd_A fd)) : wpX_takeTrialAsOrder post (nI m, nI n, rd_A c, rd_A d, rd_A p, rd_A o, rd_A tr, rd_A nx, rd_A wl, rd_A uh, rd_A fd) := by
  have a := rd_xTTOl (wl := wl) hn h n 0 (Nat.zero_add n)
  rw [rd_cp0] at a
  exact ⟨n + 1, a⟩
