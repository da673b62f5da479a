/-! ===== the desk: the row of units ===== -/
/-- what the desk holds of a run at the head of unit t -/
def rd_XI (m : Nat) (c p row : Nat → Nat) (n t : Nat) (nx wl uh fd : Nat → Nat) : Prop :=
  ∀ k, k < 5 → wl k = (rd_sim m c p row n t).1 k ∧ uh k = (rd_sim m c p row n t).2 k ∧ fd k = rd_fd m c p row n t k ∧ (m.testBit k = true → rd_nx (p k) t (nx k))
theorem rd_XI0 {m n : Nat} {c p row nx wl uh fd : Nat → Nat} (hp : ∀ k, m.testBit k = true → 0 < p k) (h : ∀ k, k < 5 → nx k = 0 ∧ wl k = 0 ∧ uh k = 0 ∧ fd k = 0) : rd_XI m c p row n 0 nx wl uh fd := by
  intro k hk
  obtain ⟨a, b, e, f⟩ := h k hk
  refine ⟨b, e, f, fun z => ?_⟩
  rw [a]
  exact rd_nx0 (hp k z)
/-- once the jobs of unit t are there -/
theorem rd_XI1 {m n t : Nat} {c p row nx wl uh fd nx' wl' : Nat → Nat} (hp : ∀ k, m.testBit k = true → 0 < p k) (H : rd_XI m c p row n t nx wl uh fd) (h1 : ∀ j, j < 5 → wl' j = if m.testBit j = true ∧ nx j = t then wl j + c j else wl j) (h2 : ∀ j, j < 5 → nx' j = if m.testBit j = true ∧ nx j = t then t + p j else nx j) : (∀ k, k < 5 → wl' k = rd_J m c p row n t k) ∧ (∀ k, k < 5 → m.testBit k = true → rd_nx (p k) (t + 1) (nx' k)) := by
  refine ⟨fun k hk => ?_, fun k hk hb => ?_⟩
  · obtain ⟨a, _, _, f⟩ := H k hk
    rw [h1 k hk, a]
    show _ = if m.testBit k = true ∧ t % p k = 0 then (rd_sim m c p row n t).1 k + c k else (rd_sim m c p row n t).1 k
    by_cases z : m.testBit k = true ∧ nx k = t
    · rw [if_pos z, if_pos ⟨z.1, (rd_nxE (f z.1)).mp z.2⟩]
    · rw [if_neg z, if_neg (fun y => z ⟨y.1, (rd_nxE (f y.1)).mpr y.2⟩)]
  · obtain ⟨_, _, _, f⟩ := H k hk
    rw [h2 k hk]
    by_cases z : nx k = t
    · rw [if_pos ⟨hb, z⟩]
      exact rd_nxT (hp k hb) (f hb) z
    · rw [if_neg (fun y => z y.2)]
      exact rd_nxF (f hb) z
theorem rd_XIN {m n t : Nat} {c p row nx wl uh fd nx' wl' : Nat → Nat} (H : rd_XI m c p row n t nx wl uh fd) (h1 : ∀ k, k < 5 → wl' k = rd_J m c p row n t k) (h2 : ∀ k, k < 5 → m.testBit k = true → rd_nx (p k) (t + 1) (nx' k)) (e : rd_to m c p row n t = none) : rd_XI m c p row n (t + 1) nx' wl' uh fd := by
  intro k hk
  obtain ⟨_, b, f, _⟩ := H k hk
  rw [rd_simN e]
  refine ⟨h1 k hk, b, ?_, h2 k hk⟩
  rw [f]
  show _ = if rd_to m c p row n t = some k ∧ (rd_sim m c p row n (t + 1)).2 k = c k then t + 1 else rd_fd m c p row n t k
  rw [if_neg (fun y => by rw [e] at y; exact nomatch y.1)]
theorem rd_XIS {m n t q : Nat} {c p row nx wl uh fd nx' wl' : Nat → Nat} (H : rd_XI m c p row n t nx wl uh fd) (h1 : ∀ k, k < 5 → wl' k = rd_J m c p row n t k) (h2 : ∀ k, k < 5 → m.testBit k = true → rd_nx (p k) (t + 1) (nx' k)) (e : rd_to m c p row n t = some q) (hq : q < 5) : rd_XI m c p row n (t + 1) nx' (rd_up wl' q (wl' q - 1)) (rd_up uh q (uh q + 1)) (if uh q + 1 = c q then rd_up fd q (t + 1) else fd) := by
  intro k hk
  obtain ⟨_, b, f, _⟩ := H k hk
  obtain ⟨_, bq, _, _⟩ := H q hq
  have eG := rd_evG (c := c) (n := n) e
  rw [← bq] at eG
  have efd : rd_fd m c p row n (t + 1) k = if rd_to m c p row n t = some k ∧ (rd_sim m c p row n (t + 1)).2 k = c k then t + 1 else rd_fd m c p row n t k := rfl
  by_cases z : k = q
  · subst z
    refine ⟨?_, ?_, ?_, h2 k hk⟩
    · rw [rd_simS e, rd_us, h1 k hk]
      exact rd_us.symm
    · rw [eG, rd_us]
    · rw [efd, eG]
      by_cases y : uh k + 1 = c k
      · rw [if_pos y, if_pos ⟨e, y⟩, rd_us]
      · rw [if_neg y, if_neg (fun x => y x.2), f]
  · have hne : ¬ some q = some k := fun y => z (Option.some.inj y).symm
    refine ⟨?_, ?_, ?_, h2 k hk⟩
    · rw [rd_simS e, rd_un z, h1 k hk]
      exact (rd_un z).symm
    · rw [rd_simS e, rd_un z, b]
      exact (rd_un z).symm
    · rw [efd.trans (if_neg (fun x => hne (e.symm.trans x.1))), ← f]
      by_cases y : uh q + 1 = c q
      · rw [if_pos y, rd_un z]
      · rw [if_neg y]
theorem rd_numC {m : Nat} {c d p : Nat → Nat} (H : rd_Num m c d p) : ∀ k, m.testBit k = true → c k ≤ 15 := by
  intro k hk
  obtain ⟨_, _, _, _⟩ := H k hk
  omega
theorem rd_numP {m : Nat} {c d p : Nat → Nat} (H : rd_Num m c d p) : ∀ k, m.testBit k = true → 0 < p k := by
  intro k hk
  obtain ⟨_, _, _, _⟩ := H k hk
  omega
theorem rd_xRSl_order {post : Int32 → SX → Prop} {m n T : Nat} {c d p o tr : Nat → Nat} (W : rd_WF m n c d p o) (hT : T ≤ 60) (h : ∀ nx wl uh fd : Nat → Nat, rd_XI m c p o n T nx wl uh fd → post (nI (rd_idle m c p o n T)) (nI m, nI n, rd_A c, rd_A d, rd_A p, rd_A o, rd_A tr, rd_A nx, rd_A wl, rd_A uh, rd_A fd)) : ∀ (e t : Nat) (nx wl uh fd : Nat → Nat), t + e = T → rd_XI m c p o n t nx wl uh fd → wX_runStart__order_9 post (nI T) (e + 1) (nI (rd_idle m c p o n t)) (nI t) (nI m) (nI n) (rd_A c) (rd_A d) (rd_A p) (rd_A o) (rd_A tr) (rd_A nx) (rd_A wl) (rd_A uh) (rd_A fd) := by
  obtain ⟨hm, hn, hR, hN⟩ := W
  have hn5 : n ≤ 5 := hn ▸ (rd_n5 m hm).1
  have hc := rd_numC hN
  have hp := rd_numP hN
  intro e
  induction e with
  | zero =>
    intro t nx wl uh fd ht H
    have e : t = T := by omega
    subst e
    exact br_t (nI_le (Nat.le_refl t) (by omega)) (h nx wl uh fd H)
  | succ e ih =>
    intro t nx wl uh fd ht H
    refine br_f (nI_ge (by omega) (by omega)) ?_
    refine rd_xMJ hm (by omega) (fun j hj hb => ?_) (fun nx' wl' h1 h2 => ?_)
    · obtain ⟨_, _, _, f⟩ := H j hj
      obtain ⟨_, _, f3⟩ := f hb
      obtain ⟨_, _, _, q⟩ := hN j hb
      omega
    obtain ⟨g1, g2⟩ := rd_XI1 hp H h1 h2
    have bJ : ∀ k, rd_J m c p o n t k ≤ 15 * t + 15 := rd_bndJ hc (rd_bndL hc t)
    refine rd_xMU_order hn5 (fun i hi => (hR.1 i hi).1) (fun k hk => by rw [g1 k hk]; have := bJ k; omega) ?_
    have ew : rd_who o wl' n 0 = rd_to m c p o n t := rd_whoC n 0 (fun j _ hj => g1 _ (hR.1 j (by omega)).1)
    rw [ew]
    cases eo : rd_to m c p o n t with
    | none =>
      have ei : rd_idle m c p o n (t + 1) = rd_idle m c p o n t + 1 := if_pos eo
      refine br_t rfl (nm_r (nI_1 _) (nm_r (nI_1 t) ?_))
      rw [← ei]
      exact ih (t + 1) nx' wl' uh fd (by omega) (rd_XIN H g1 g2 eo)
    | some q =>
      have ei : rd_idle m c p o n (t + 1) = rd_idle m c p o n t := if_neg (by rw [eo]; exact nofun)
      obtain ⟨hJ, i, hi, er⟩ := rd_toIn eo
      have hq : q < 5 := er ▸ (hR.1 i hi).1
      have hqb : m.testBit q = true := er ▸ (hR.1 i hi).2
      obtain ⟨_, bq, _, _⟩ := H q hq
      have bG := rd_bndG (m := m) (c := c) (p := p) (row := o) (n := n) t q
      have hcq := hc q hqb
      refine br_f (rd_m1n (f := q) (by omega)) (rd_xGU hq (by rw [g1 q hq]; exact hJ) (by omega) (by omega) (nm_r (nI_1 t) ?_))
      rw [← ei]
      exact ih (t + 1) nx' _ _ _ (by omega) (rd_XIS H g1 g2 eo hq)
theorem rd_xRS_order {post : Int32 → SX → Prop} {m n T : Nat} {c d p o tr nx wl uh fd : Nat → Nat} (W : rd_WF m n c d p o) (hT : T ≤ 60) (h : ∀ nx wl uh fd : Nat → Nat, rd_XI m c p o n T nx wl uh fd → post (nI (rd_idle m c p o n T)) (nI m, nI n, rd_A c, rd_A d, rd_A p, rd_A o, rd_A tr, rd_A nx, rd_A wl, rd_A uh, rd_A fd)) : wpX_runStart__order post (nI m, nI n, rd_A c, rd_A d, rd_A p, rd_A o, rd_A tr, rd_A nx, rd_A wl, rd_A uh, rd_A fd) (nI T) := by
  refine rd_xCR (fun nx wl uh fd H => ?_)
  exact ⟨T + 1, rd_xRSl_order W hT h T 0 nx wl uh fd (Nat.zero_add T) (rd_XI0 (rd_numP W.2.2.2) H)⟩
theorem rd_xRSl_trial {post : Int32 → SX → Prop} {m n T : Nat} {c d p o tr : Nat → Nat} (W : rd_WF m n c d p tr) (hT : T ≤ 60) (h : ∀ nx wl uh fd : Nat → Nat, rd_XI m c p tr n T nx wl uh fd → post (nI (rd_idle m c p tr n T)) (nI m, nI n, rd_A c, rd_A d, rd_A p, rd_A o, rd_A tr, rd_A nx, rd_A wl, rd_A uh, rd_A fd)) : ∀ (e t : Nat) (nx wl uh fd : Nat → Nat), t + e = T → rd_XI m c p tr n t nx wl uh fd → wX_runStart__trial_9 post (nI T) (e + 1) (nI (rd_idle m c p tr n t)) (nI t) (nI m) (nI n) (rd_A c) (rd_A d) (rd_A p) (rd_A o) (rd_A tr) (rd_A nx) (rd_A wl) (rd_A uh) (rd_A fd) := by
  obtain ⟨hm, hn, hR, hN⟩ := W
  have hn5 : n ≤ 5 := hn ▸ (rd_n5 m hm).1
  have hc := rd_numC hN
  have hp := rd_numP hN
  intro e
  induction e with
  | zero =>
    intro t nx wl uh fd ht H
    have e : t = T := by omega
    subst e
    exact br_t (nI_le (Nat.le_refl t) (by omega)) (h nx wl uh fd H)
  | succ e ih =>
    intro t nx wl uh fd ht H
    refine br_f (nI_ge (by omega) (by omega)) ?_
    refine rd_xMJ hm (by omega) (fun j hj hb => ?_) (fun nx' wl' h1 h2 => ?_)
    · obtain ⟨_, _, _, f⟩ := H j hj
      obtain ⟨_, _, f3⟩ := f hb
      obtain ⟨_, _, _, q⟩ := hN j hb
      omega
    obtain ⟨g1, g2⟩ := rd_XI1 hp H h1 h2
    have bJ : ∀ k, rd_J m c p tr n t k ≤ 15 * t + 15 := rd_bndJ hc (rd_bndL hc t)
    refine rd_xMU_trial hn5 (fun i hi => (hR.1 i hi).1) (fun k hk => by rw [g1 k hk]; have := bJ k; omega) ?_
    have ew : rd_who tr wl' n 0 = rd_to m c p tr n t := rd_whoC n 0 (fun j _ hj => g1 _ (hR.1 j (by omega)).1)
    rw [ew]
    cases eo : rd_to m c p tr n t with
    | none =>
      have ei : rd_idle m c p tr n (t + 1) = rd_idle m c p tr n t + 1 := if_pos eo
      refine br_t rfl (nm_r (nI_1 _) (nm_r (nI_1 t) ?_))
      rw [← ei]
      exact ih (t + 1) nx' wl' uh fd (by omega) (rd_XIN H g1 g2 eo)
    | some q =>
      have ei : rd_idle m c p tr n (t + 1) = rd_idle m c p tr n t := if_neg (by rw [eo]; exact nofun)
      obtain ⟨hJ, i, hi, er⟩ := rd_toIn eo
      have hq : q < 5 := er ▸ (hR.1 i hi).1
      have hqb : m.testBit q = true := er ▸ (hR.1 i hi).2
      obtain ⟨_, bq, _, _⟩ := H q hq
      have bG := rd_bndG (m := m) (c := c) (p := p) (row := tr) (n := n) t q
      have hcq := hc q hqb
      refine br_f (rd_m1n (f := q) (by omega)) (rd_xGU hq (by rw [g1 q hq]; exact hJ) (by omega) (by omega) (nm_r (nI_1 t) ?_))
      rw [← ei]
      exact ih (t + 1) nx' _ _ _ (by omega) (rd_XIS H g1 g2 eo hq)
theorem rd_xRS_trial {post : Int32 → SX → Prop} {m n T : Nat} {c d p o tr nx wl uh fd : Nat → Nat} (W : rd_WF m n c d p tr) (hT : T ≤ 60) (h : ∀ nx wl uh fd : Nat → Nat, rd_XI m c p tr n T nx wl uh fd → post (nI (rd_idle m c p tr n T)) (nI m, nI n, rd_A c, rd_A d, rd_A p, rd_A o, rd_A tr, rd_A nx, rd_A wl, rd_A uh, rd_A fd)) : wpX_runStart__trial post (nI m, nI n, rd_A c, rd_A d, rd_A p, rd_A o, rd_A tr, rd_A nx, rd_A wl, rd_A uh, rd_A fd) (nI T) := by
  refine rd_xCR (fun nx wl uh fd H => ?_)
  exact ⟨T + 1, rd_xRSl_trial W hT h T 0 nx wl uh fd (Nat.zero_add T) (rd_XI0 (rd_numP W.2.2.2) H)⟩
theorem rd_xRSn {post : Int32 → SX → Prop} {m n : Nat} {c d p o tr nx wl uh fd : Nat → Nat} {x : Int32} (hx : x < 0) (h : ∀ nx wl uh fd : Nat → Nat, post 0 (nI m, nI n, rd_A c, rd_A d, rd_A p, rd_A o, rd_A tr, rd_A nx, rd_A wl, rd_A uh, rd_A fd)) : wpX_runStart__order post (nI m, nI n, rd_A c, rd_A d, rd_A p, rd_A o, rd_A tr, rd_A nx, rd_A wl, rd_A uh, rd_A fd) x := by
  refine rd_xCR (fun nx wl uh fd H => ?_)
  exact ⟨1, br_t (Int32.le_of_lt hx) (h nx wl uh fd)⟩
theorem rd_xRR {post : Int32 → Prop} {m n k : Nat} {c d p o tr nx wl uh fd : Nat → Nat} (hk : k < 5) (hf : fd k < 2 ^ 31) (hp : p k < 2 ^ 31) (h : post (rd_R (fd k) (p k))) : wpX_responseInRun post (nI m, nI n, rd_A c, rd_A d, rd_A p, rd_A o, rd_A tr, rd_A nx, rd_A wl, rd_A uh, rd_A fd) (nI k) := by
  unfold rd_R at h
  refine ⟨rd_i hk, pk_eq (fd k) 0 (fun z => ?_) (fun z => ⟨rd_i hk, ⟨rd_i hk, pk_le (fd k) (p k) (fun y => ?_) (fun y => ?_) (rd_g hk) (rd_g hk) hf hp⟩⟩) (rd_g hk) rfl hf (by decide)⟩
  · rw [if_pos (Or.inl z)] at h
    exact br_f (by decide) h
  · rw [if_neg (by omega)] at h
    exact br_t rfl ⟨rd_i hk, by rw [rd_g hk]; exact h⟩
  · rw [if_pos (Or.inr y)] at h
    exact br_f (by decide) h
theorem rd_xTTl_order {post : Int32 → SX → Prop} {m n : Nat} {c d p o tr nx wl uh fd : Nat → Nat} (W : rd_WF m n c d p o) (H : rd_XI m c p o n 15 nx wl uh fd) (h : post (nI (rd_tx (rd_ok m c d p o n) o n)) (nI m, nI n, rd_A c, rd_A d, rd_A p, rd_A o, rd_A tr, rd_A nx, rd_A wl, rd_A uh, rd_A fd)) : ∀ (e i : Nat), i + e = n → wX_timelyTasks__order_12 post (nI m) (nI n) (rd_A c) (rd_A d) (rd_A p) (rd_A o) (rd_A tr) (rd_A nx) (rd_A wl) (rd_A uh) (rd_A fd) (e + 1) (nI (rd_tx (rd_ok m c d p o n) o i)) (nI i) := by
  obtain ⟨hm, hn, hR, hN⟩ := W
  have hn5 : n ≤ 5 := hn ▸ (rd_n5 m hm).1
  intro e
  induction e with
  | zero =>
    intro i hi
    have e : i = n := by omega
    subst e
    exact br_t (nI_le (Nat.le_refl i) (by omega)) h
  | succ e ih =>
    intro i hi
    have hi5 : i < 5 := by omega
    obtain ⟨hr5, hrb⟩ := hR.1 i (by omega)
    obtain ⟨_, _, ef, _⟩ := H (o i) hr5
    obtain ⟨_, _, q1, q2⟩ := hN (o i) hrb
    have bf := rd_fdB (m := m) (c := c) (p := p) (row := o) (n := n) 15 (o i)
    have bt := (rd_txB (f := rd_ok m c d p o n) (row := o) i (fun j hj => (hR.1 j (by omega)).1)).1
    have no : ¬ rd_ok m c d p o n (o i) = true → wX_timelyTasks__order_12 post (nI m) (nI n) (rd_A c) (rd_A d) (rd_A p) (rd_A o) (rd_A tr) (rd_A nx) (rd_A wl) (rd_A uh) (rd_A fd) (e + 1) (nI (rd_tx (rd_ok m c d p o n) o i)) (nI (i + 1)) := by
      intro z
      have a : rd_tx (rd_ok m c d p o n) o (i + 1) = rd_tx (rd_ok m c d p o n) o i := if_neg z
      rw [← a]
      exact ih (i + 1) (by omega)
    refine br_f (nI_ge (by omega) (by omega)) ⟨rd_i hi5, nm_r (rd_g hi5) (rd_xRR hr5 (by omega) (by omega) ?_)⟩
    rw [ef]
    unfold rd_R
    by_cases z : rd_fd m c p o n 15 (o i) = 0 ∨ p (o i) < rd_fd m c p o n 15 (o i)
    · rw [if_pos z]
      refine br_t rfl (nm_r (nI_1 i) (no (fun y => ?_)))
      have y' := of_decide_eq_true y
      omega
    · rw [if_neg z]
      refine br_f (rd_m3n (by omega)) ⟨rd_i hr5, pk_lt (d (o i)) (rd_fd m c p o n 15 (o i)) (fun y => nm_r (nI_1 i) (no (fun x => ?_))) (fun y => ?_) (rd_g hr5) rfl (by omega) (by omega)⟩
      · have y' := of_decide_eq_true x
        omega
      · have a : rd_tx (rd_ok m c d p o n) o (i + 1) = rd_tx (rd_ok m c d p o n) o i ||| 2 ^ o i := if_pos (decide_eq_true ⟨by omega, by omega, y⟩)
        refine nm_r (rd_or _ bt _ hr5) (nm_r (nI_1 i) ?_)
        rw [← a]
        exact ih (i + 1) (by omega)
theorem rd_xTT_order {post : Int32 → SX → Prop} {m n : Nat} {c d p o tr nx wl uh fd : Nat → Nat} (W : rd_WF m n c d p o) (h : ∀ nx wl uh fd : Nat → Nat, post (nI (rd_tx (rd_ok m c d p o n) o n)) (nI m, nI n, rd_A c, rd_A d, rd_A p, rd_A o, rd_A tr, rd_A nx, rd_A wl, rd_A uh, rd_A fd)) : wpX_timelyTasks__order post (nI m, nI n, rd_A c, rd_A d, rd_A p, rd_A o, rd_A tr, rd_A nx, rd_A wl, rd_A uh, rd_A fd) := by
  unfold wpX_timelyTasks__order
  refine rd_xRS_order (T := 15) W (by decide) (fun nx wl uh fd H => ?_)
  exact ⟨n + 1, rd_xTTl_order W H (h nx wl uh fd) n 0 (Nat.zero_add n)⟩
theorem rd_xTTl_trial {post : Int32 → SX → Prop} {m n : Nat} {c d p o tr nx wl uh fd : Nat → Nat} (W : rd_WF m n c d p tr) (H : rd_XI m c p tr n 15 nx wl uh fd) (h : post (nI (rd_tx (rd_ok m c d p tr n) tr n)) (nI m, nI n, rd_A c, rd_A d, rd_A p, rd_A o, rd_A tr, rd_A nx, rd_A wl, rd_A uh, rd_A fd)) : ∀ (e i : Nat), i + e = n → wX_timelyTasks__trial_12 post (nI m) (nI n) (rd_A c) (rd_A d) (rd_A p) (rd_A o) (rd_A tr) (rd_A nx) (rd_A wl) (rd_A uh) (rd_A fd) (e + 1) (nI (rd_tx (rd_ok m c d p tr n) tr i)) (nI i) := by
  obtain ⟨hm, hn, hR, hN⟩ := W
  have hn5 : n ≤ 5 := hn ▸ (rd_n5 m hm).1
  intro e
  induction e with
  | zero =>
    intro i hi
    have e : i = n := by omega
    subst e
    exact br_t (nI_le (Nat.le_refl i) (by omega)) h
  | succ e ih =>
    intro i hi
    have hi5 : i < 5 := by omega
    obtain ⟨hr5, hrb⟩ := hR.1 i (by omega)
    obtain ⟨_, _, ef, _⟩ := H (tr i) hr5
    obtain ⟨_, _, q1, q2⟩ := hN (tr i) hrb
    have bf := rd_fdB (m := m) (c := c) (p := p) (row := tr) (n := n) 15 (tr i)
    have bt := (rd_txB (f := rd_ok m c d p tr n) (row := tr) i (fun j hj => (hR.1 j (by omega)).1)).1
    have no : ¬ rd_ok m c d p tr n (tr i) = true → wX_timelyTasks__trial_12 post (nI m) (nI n) (rd_A c) (rd_A d) (rd_A p) (rd_A o) (rd_A tr) (rd_A nx) (rd_A wl) (rd_A uh) (rd_A fd) (e + 1) (nI (rd_tx (rd_ok m c d p tr n) tr i)) (nI (i + 1)) := by
      intro z
      have a : rd_tx (rd_ok m c d p tr n) tr (i + 1) = rd_tx (rd_ok m c d p tr n) tr i := if_neg z
      rw [← a]
      exact ih (i + 1) (by omega)
    refine br_f (nI_ge (by omega) (by omega)) ⟨rd_i hi5, nm_r (rd_g hi5) (rd_xRR hr5 (by omega) (by omega) ?_)⟩
    rw [ef]
    unfold rd_R
    by_cases z : rd_fd m c p tr n 15 (tr i) = 0 ∨ p (tr i) < rd_fd m c p tr n 15 (tr i)
    · rw [if_pos z]
      refine br_t rfl (nm_r (nI_1 i) (no (fun y => ?_)))
      have y' := of_decide_eq_true y
      omega
    · rw [if_neg z]
      refine br_f (rd_m3n (by omega)) ⟨rd_i hr5, pk_lt (d (tr i)) (rd_fd m c p tr n 15 (tr i)) (fun y => nm_r (nI_1 i) (no (fun x => ?_))) (fun y => ?_) (rd_g hr5) rfl (by omega) (by omega)⟩
      · have y' := of_decide_eq_true x
        omega
      · have a : rd_tx (rd_ok m c d p tr n) tr (i + 1) = rd_tx (rd_ok m c d p tr n) tr i ||| 2 ^ tr i := if_pos (decide_eq_true ⟨by omega, by omega, y⟩)
        refine nm_r (rd_or _ bt _ hr5) (nm_r (nI_1 i) ?_)
        rw [← a]
        exact ih (i + 1) (by omega)
theorem rd_xTT_trial {post : Int32 → SX → Prop} {m n : Nat} {c d p o tr nx wl uh fd : Nat → Nat} (W : rd_WF m n c d p tr) (h : ∀ nx wl uh fd : Nat → Nat, post (nI (rd_tx (rd_ok m c d p tr n) tr n)) (nI m, nI n, rd_A c, rd_A d, rd_A p, rd_A o, rd_A tr, rd_A nx, rd_A wl, rd_A uh, rd_A fd)) : wpX_timelyTasks__trial post (nI m, nI n, rd_A c, rd_A d, rd_A p, rd_A o, rd_A tr, rd_A nx, rd_A wl, rd_A uh, rd_A fd) := by
  unfold wpX_timelyTasks__trial
  refine rd_xRS_trial (T := 15) W (by decide) (fun nx wl uh fd H => ?_)
  exact ⟨n + 1, rd_xTTl_trial W H (h nx wl uh fd) n 0 (Nat.zero_add n)⟩
