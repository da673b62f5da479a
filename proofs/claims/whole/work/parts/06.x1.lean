/-! ===== the desk: one run ===== -/
theorem rd_xCRl {post : SX → Prop} {m n : Nat} {c d p o tr : Nat → Nat} (h : ∀ nx wl uh fd : Nat → Nat, (∀ k, k < 5 → nx k = 0 ∧ wl k = 0 ∧ uh k = 0 ∧ fd k = 0) → post (nI m, nI n, rd_A c, rd_A d, rd_A p, rd_A o, rd_A tr, rd_A nx, rd_A wl, rd_A uh, rd_A fd)) : ∀ (e k : Nat) (nx wl uh fd : Nat → Nat), k + e = 5 → (∀ j, j < k → nx j = 0 ∧ wl j = 0 ∧ uh j = 0 ∧ fd j = 0) → wX_clearRun_2 post (nI m) (nI n) (e + 1) (nI k) (rd_A c) (rd_A d) (rd_A p) (rd_A o) (rd_A tr) (rd_A nx) (rd_A wl) (rd_A uh) (rd_A fd) := by
  intro e
  induction e with
  | zero =>
    intro k nx wl uh fd hk hj
    exact br_t (nI_le (a := 5) (by omega) (by omega)) (h nx wl uh fd (fun j z => hj j (by omega)))
  | succ e ih =>
    intro k nx wl uh fd hk hj
    have hk5 : k < 5 := by omega
    refine br_f (nI_ge (b := 5) hk5 (by decide)) ⟨rd_i hk5, nm_r (rd_s (x := 0) hk5 rfl) ⟨rd_i hk5, nm_r (rd_s (x := 0) hk5 rfl) ⟨rd_i hk5, nm_r (rd_s (x := 0) hk5 rfl) ⟨rd_i hk5, nm_r (rd_s (x := 0) hk5 rfl) (nm_r (nI_1 k) (ih (k + 1) _ _ _ _ (by omega) ?_))⟩⟩⟩⟩
    intro j hj'
    by_cases z : j = k
    · subst z
      exact ⟨rd_us, rd_us, rd_us, rd_us⟩
    · rw [rd_un z, rd_un z, rd_un z, rd_un z]
      exact hj j (by omega)
theorem rd_xCR {post : SX → Prop} {m n : Nat} {c d p o tr nx wl uh fd : Nat → Nat} (h : ∀ nx wl uh fd : Nat → Nat, (∀ k, k < 5 → nx k = 0 ∧ wl k = 0 ∧ uh k = 0 ∧ fd k = 0) → post (nI m, nI n, rd_A c, rd_A d, rd_A p, rd_A o, rd_A tr, rd_A nx, rd_A wl, rd_A uh, rd_A fd)) : wpX_clearRun post (nI m, nI n, rd_A c, rd_A d, rd_A p, rd_A o, rd_A tr, rd_A nx, rd_A wl, rd_A uh, rd_A fd) :=
  ⟨6, rd_xCRl h 5 0 nx wl uh fd rfl (fun j z => absurd z (Nat.not_lt_zero j))⟩
theorem rd_xMJl {post : SX → Prop} {m n t : Nat} {c d p o tr uh fd : Nat → Nat} (hm : m < 32) (ht : t < 2 ^ 31) : ∀ (e k : Nat) (nx wl : Nat → Nat), k + e = 5 → (∀ j, k ≤ j → j < 5 → m.testBit j = true → nx j < 2 ^ 31) →
    (∀ nx' wl' : Nat → Nat, (∀ j, j < 5 → wl' j = if k ≤ j ∧ m.testBit j = true ∧ nx j = t then wl j + c j else wl j) → (∀ j, j < 5 → nx' j = if k ≤ j ∧ m.testBit j = true ∧ nx j = t then t + p j else nx j) → post (nI m, nI n, rd_A c, rd_A d, rd_A p, rd_A o, rd_A tr, rd_A nx', rd_A wl', rd_A uh, rd_A fd)) → wX_makeJobsReady_2 post (nI t) (nI m) (nI n) (e + 1) (nI k) (rd_A c) (rd_A d) (rd_A p) (rd_A o) (rd_A tr) (rd_A nx) (rd_A wl) (rd_A uh) (rd_A fd) := by
  intro e
  induction e with
  | zero =>
    intro k nx wl hk hb h
    exact br_t (nI_le (a := 5) (by omega) (by omega)) (h nx wl (fun j z => (if_neg (by omega)).symm) (fun j z => (if_neg (by omega)).symm))
  | succ e ih =>
    intro k nx wl hk hb h
    have hk5 : k < 5 := by omega
    have skip : ¬ (m.testBit k = true ∧ nx k = t) → wX_makeJobsReady_2 post (nI t) (nI m) (nI n) (e + 1) (nI (k + 1)) (rd_A c) (rd_A d) (rd_A p) (rd_A o) (rd_A tr) (rd_A nx) (rd_A wl) (rd_A uh) (rd_A fd) := by
      intro z
      refine ih (k + 1) nx wl (by omega) (fun j h1 h2 h3 => hb j (by omega) h2 h3) (fun nx' wl' h1 h2 => h nx' wl' (fun j hj => ?_) (fun j hj => ?_))
      · rw [h1 j hj]
        by_cases q : j = k
        · subst q
          rw [if_neg (by omega), if_neg (fun y => z y.2)]
        · by_cases y : k + 1 ≤ j ∧ m.testBit j = true ∧ nx j = t
          · rw [if_pos y, if_pos ⟨by omega, y.2⟩]
          · rw [if_neg y, if_neg (fun x => y ⟨by omega, x.2⟩)]
      · rw [h2 j hj]
        by_cases q : j = k
        · subst q
          rw [if_neg (by omega), if_neg (fun y => z y.2)]
        · by_cases y : k + 1 ≤ j ∧ m.testBit j = true ∧ nx j = t
          · rw [if_pos y, if_pos ⟨by omega, y.2⟩]
          · rw [if_neg y, if_neg (fun x => y ⟨by omega, x.2⟩)]
    refine br_f (nI_ge (b := 5) hk5 (by decide)) (rd_bc hm hk5 (fun z => nm_r (nI_1 k) (skip (fun y => rd_nft z y.1))) (fun z => ⟨rd_i hk5, pk_eq (nx k) t (fun q => ?_) (fun q => nm_r (nI_1 k) (skip (fun y => q y.2))) (rd_g hk5) rfl (hb k (Nat.le_refl k) hk5 z) ht⟩))
    refine ⟨rd_i hk5, ⟨rd_i hk5, ⟨rd_i hk5, nm_r (rd_s (x := wl k + c k) hk5 (by rw [rd_g hk5, rd_g hk5, nI_add])) ⟨rd_i hk5, ⟨rd_i hk5, nm_r (rd_s (x := t + p k) hk5 (by rw [rd_g hk5, nI_add])) (nm_r (nI_1 k) (ih (k + 1) _ _ (by omega) (fun j h1 h2 h3 => ?_) (fun nx' wl' h1 h2 => h nx' wl' (fun j hj => ?_) (fun j hj => ?_))))⟩⟩⟩⟩⟩
    · rw [rd_un (by omega)]
      exact hb j (by omega) h2 h3
    · rw [h1 j hj]
      by_cases y : j = k
      · subst y
        rw [if_neg (by omega), if_pos ⟨Nat.le_refl _, z, q⟩, rd_us]
      · rw [rd_un y, rd_un y]
        by_cases x : k + 1 ≤ j ∧ m.testBit j = true ∧ nx j = t
        · rw [if_pos x, if_pos ⟨by omega, x.2⟩]
        · rw [if_neg x, if_neg (fun w => x ⟨by omega, w.2⟩)]
    · rw [h2 j hj]
      by_cases y : j = k
      · subst y
        rw [if_neg (by omega), if_pos ⟨Nat.le_refl _, z, q⟩, rd_us]
      · rw [rd_un y]
        by_cases x : k + 1 ≤ j ∧ m.testBit j = true ∧ nx j = t
        · rw [if_pos x, if_pos ⟨by omega, x.2⟩]
        · rw [if_neg x, if_neg (fun w => x ⟨by omega, w.2⟩)]
theorem rd_xMJ {post : SX → Prop} {m n t : Nat} {c d p o tr nx wl uh fd : Nat → Nat} (hm : m < 32) (ht : t < 2 ^ 31) (hb : ∀ j, j < 5 → m.testBit j = true → nx j < 2 ^ 31) (h : ∀ nx' wl' : Nat → Nat, (∀ j, j < 5 → wl' j = if m.testBit j = true ∧ nx j = t then wl j + c j else wl j) → (∀ j, j < 5 → nx' j = if m.testBit j = true ∧ nx j = t then t + p j else nx j) → post (nI m, nI n, rd_A c, rd_A d, rd_A p, rd_A o, rd_A tr, rd_A nx', rd_A wl', rd_A uh, rd_A fd)) : wpX_makeJobsReady post (nI m, nI n, rd_A c, rd_A d, rd_A p, rd_A o, rd_A tr, rd_A nx, rd_A wl, rd_A uh, rd_A fd) (nI t) := by
  refine ⟨6, rd_xMJl hm ht 5 0 nx wl rfl (fun j _ h2 h3 => hb j h2 h3) (fun nx' wl' h1 h2 => h nx' wl' (fun j hj => ?_) (fun j hj => ?_))⟩
  · rw [h1 j hj]
    by_cases y : m.testBit j = true ∧ nx j = t
    · rw [if_pos y, if_pos ⟨Nat.zero_le j, y⟩]
    · rw [if_neg y, if_neg (fun x => y x.2)]
  · rw [h2 j hj]
    by_cases y : m.testBit j = true ∧ nx j = t
    · rw [if_pos y, if_pos ⟨Nat.zero_le j, y⟩]
    · rw [if_neg y, if_neg (fun x => y x.2)]
theorem rd_xMUl_order {post : Int32 → Prop} {m n : Nat} {c d p o tr nx wl uh fd : Nat → Nat} (hn : n ≤ 5) (hr : ∀ i, i < n → o i < 5) (hw : ∀ k, k < 5 → wl k < 2 ^ 31) : ∀ (e i : Nat), i + e = n → post (rd_o (rd_who o wl e i)) → wX_mostUrgentWithWork__order_2 post (nI m) (nI n) (rd_A c) (rd_A d) (rd_A p) (rd_A o) (rd_A tr) (rd_A nx) (rd_A wl) (rd_A uh) (rd_A fd) (e + 1) (nI i) := by
  intro e
  induction e with
  | zero =>
    intro i hi h
    exact br_t (nI_le (by omega) (by omega)) h
  | succ e ih =>
    intro i hi h
    have h5 : i < 5 := by omega
    have hr5 : o i < 5 := hr i (by omega)
    refine br_f (nI_ge (by omega) (by omega)) ⟨rd_i h5, ?_⟩
    rw [rd_g h5]
    refine ⟨rd_i hr5, ?_⟩
    refine pk_le (wl (o i)) 0 (fun z => nm_r (nI_1 i) (ih (i + 1) (by omega) ?_)) (fun z => ⟨rd_i h5, ?_⟩) (rd_g hr5) rfl (hw _ hr5) (by decide)
    · have a : rd_who o wl (e + 1) i = rd_who o wl e (i + 1) := if_neg (by omega)
      rw [← a]
      exact h
    · have a : rd_who o wl (e + 1) i = some (o i) := if_pos z
      rw [a] at h
      exact h
theorem rd_xMU_order {post : Int32 → Prop} {m n : Nat} {c d p o tr nx wl uh fd : Nat → Nat} (hn : n ≤ 5) (hr : ∀ i, i < n → o i < 5) (hw : ∀ k, k < 5 → wl k < 2 ^ 31) (h : post (rd_o (rd_who o wl n 0))) : wpX_mostUrgentWithWork__order post (nI m, nI n, rd_A c, rd_A d, rd_A p, rd_A o, rd_A tr, rd_A nx, rd_A wl, rd_A uh, rd_A fd) :=
  ⟨n + 1, rd_xMUl_order hn hr hw n 0 (Nat.zero_add n) h⟩
theorem rd_xMUl_trial {post : Int32 → Prop} {m n : Nat} {c d p o tr nx wl uh fd : Nat → Nat} (hn : n ≤ 5) (hr : ∀ i, i < n → tr i < 5) (hw : ∀ k, k < 5 → wl k < 2 ^ 31) : ∀ (e i : Nat), i + e = n → post (rd_o (rd_who tr wl e i)) → wX_mostUrgentWithWork__trial_2 post (nI m) (nI n) (rd_A c) (rd_A d) (rd_A p) (rd_A o) (rd_A tr) (rd_A nx) (rd_A wl) (rd_A uh) (rd_A fd) (e + 1) (nI i) := by
  intro e
  induction e with
  | zero =>
    intro i hi h
    exact br_t (nI_le (by omega) (by omega)) h
  | succ e ih =>
    intro i hi h
    have h5 : i < 5 := by omega
    have hr5 : tr i < 5 := hr i (by omega)
    refine br_f (nI_ge (by omega) (by omega)) ⟨rd_i h5, ?_⟩
    rw [rd_g h5]
    refine ⟨rd_i hr5, ?_⟩
    refine pk_le (wl (tr i)) 0 (fun z => nm_r (nI_1 i) (ih (i + 1) (by omega) ?_)) (fun z => ⟨rd_i h5, ?_⟩) (rd_g hr5) rfl (hw _ hr5) (by decide)
    · have a : rd_who tr wl (e + 1) i = rd_who tr wl e (i + 1) := if_neg (by omega)
      rw [← a]
      exact h
    · have a : rd_who tr wl (e + 1) i = some (tr i) := if_pos z
      rw [a] at h
      exact h
theorem rd_xMU_trial {post : Int32 → Prop} {m n : Nat} {c d p o tr nx wl uh fd : Nat → Nat} (hn : n ≤ 5) (hr : ∀ i, i < n → tr i < 5) (hw : ∀ k, k < 5 → wl k < 2 ^ 31) (h : post (rd_o (rd_who tr wl n 0))) : wpX_mostUrgentWithWork__trial post (nI m, nI n, rd_A c, rd_A d, rd_A p, rd_A o, rd_A tr, rd_A nx, rd_A wl, rd_A uh, rd_A fd) :=
  ⟨n + 1, rd_xMUl_trial hn hr hw n 0 (Nat.zero_add n) h⟩
theorem rd_xGU {post : SX → Prop} {m n k t : Nat} {c d p o tr nx wl uh fd : Nat → Nat} (hk : k < 5) (hw : 0 < wl k) (hu : uh k + 1 < 2 ^ 31) (hc : c k < 2 ^ 31) (h : post (nI m, nI n, rd_A c, rd_A d, rd_A p, rd_A o, rd_A tr, rd_A nx, rd_A (rd_up wl k (wl k - 1)), rd_A (rd_up uh k (uh k + 1)), rd_A (if uh k + 1 = c k then rd_up fd k (t + 1) else fd))) : wpX_giveUnit post (nI m, nI n, rd_A c, rd_A d, rd_A p, rd_A o, rd_A tr, rd_A nx, rd_A wl, rd_A uh, rd_A fd) (nI k) (nI t) := by
  have e1 : nI (wl k) - 1 = nI (wl k - 1) := by
    rw [show wl k = (wl k - 1) + 1 by omega, nI_pred]
    rfl
  refine ⟨rd_i hk, ⟨rd_i hk, nm_r (rd_s (x := wl k - 1) hk (by rw [rd_g hk]; exact e1)) ⟨rd_i hk, ⟨rd_i hk, nm_r (rd_s (x := uh k + 1) hk (by rw [rd_g hk, nI_1])) ⟨rd_i hk, ⟨rd_i hk, pk_eq (uh k + 1) (c k) (fun z => ?_) (fun z => ?_) ((rd_g hk).trans (by rw [rd_us])) (rd_g hk) hu hc⟩⟩⟩⟩⟩⟩
  · rw [if_pos z] at h
    exact ⟨rd_i hk, nm_r (rd_s (x := t + 1) hk (nI_1 t)) h⟩
  · rw [if_neg z] at h
    exact h
