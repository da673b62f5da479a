/-! ===== the desk: its calls, the rest ===== -/
theorem rd_xGCN {post : Int32 → SX → Prop} {m : Nat} {c d p o : Nat → Nat} {u : SX} {x : Int32} (hm : m < 32) (U : rd_XS m c d p o u) (hx : ∀ j, j < 5 → x = nI j → m.testBit j = false) (h : post (-1) u) : wpX_greatestCost post u x := by
  obtain ⟨tr, nx, wl, uh, fd, rfl⟩ := U
  unfold wpX_greatestCost
  exact rd_xIsN hm hx (br_t rfl h)
theorem rd_xLPN {post : Int32 → SX → Prop} {m : Nat} {c d p o : Nat → Nat} {u : SX} {x : Int32} (hm : m < 32) (U : rd_XS m c d p o u) (hx : ∀ j, j < 5 → x = nI j → m.testBit j = false) (h : post (-1) u) : wpX_leastPeriod post u x := by
  obtain ⟨tr, nx, wl, uh, fd, rfl⟩ := U
  unfold wpX_leastPeriod
  exact rd_xIsN hm hx (br_t rfl h)
/-- good with another cost, another period of k -/
def rd_fc (m : Nat) (c d p o : Nat → Nat) (k x : Nat) : Bool := rd_good m (rd_up c k x) d p o (rd_n m)
def rd_fp (m : Nat) (c d p o : Nat → Nat) (k x : Nat) : Bool := rd_good m c d (rd_up p k x) o (rd_n m)
theorem rd_xGCl {post : Int32 → SX → Prop} {m k : Nat} {c d p o : Nat → Nat} (W : rd_WF m (rd_n m) c d p o) (hk : k < 5) (hb : m.testBit k = true) (h : ∀ u', rd_XS m c d p o u' → post (nI (rd_last (rd_fc m c d p o k) (d k))) u') : ∀ (i y : Nat) (tr nx wl uh fd : Nat → Nat), i ≤ d k → rd_last (rd_fc m c d p o k) i = rd_last (rd_fc m c d p o k) (d k) → wX_greatestCost_27 post (nI k) (nI (c k)) (i + 1) 0 (nI i) (nI m) (nI (rd_n m)) (rd_A (rd_up c k y)) (rd_A d) (rd_A p) (rd_A o) (rd_A tr) (rd_A nx) (rd_A wl) (rd_A uh) (rd_A fd) := by
  have hm := W.1
  have hn5 := (rd_n5 m hm).1
  obtain ⟨q0, q1, q2, q3⟩ := W.2.2.2 k hb
  have fin : ∀ (y : Nat) (tr nx wl uh fd : Nat → Nat), vp_in (nI k) 5 ∧ ∀ a : Nat → Int32, a = upd (rd_A (rd_up c k y)) (nI k).toNatClampNeg (nI (c k)) → post (nI (rd_last (rd_fc m c d p o k) (d k))) (nI m, nI (rd_n m), a, rd_A d, rd_A p, rd_A o, rd_A tr, rd_A nx, rd_A wl, rd_A uh, rd_A fd) := by
    intro y tr nx wl uh fd
    exact ⟨rd_i hk, nm_r ((rd_s (x := c k) hk rfl).trans (by rw [rd_upup, rd_upid])) (h _ ⟨tr, nx, wl, uh, fd, rfl⟩)⟩
  intro i
  induction i with
  | zero =>
    intro y tr nx wl uh fd hi e
    have e0 : rd_last (rd_fc m c d p o k) (d k) = 0 := e.symm
    have f := fin y tr nx wl uh fd
    rw [e0] at f
    exact br_t (by decide) f
  | succ i ih =>
    intro y tr nx wl uh fd hi e
    have W' := rd_WFc (k := k) (x := i + 1) W (by omega) hi
    obtain ⟨b, eg⟩ := rd_txG W'
    refine br_f (nI_nlt (b := 1) (by omega) (by omega)) (br_t rfl ⟨rd_i hk, nm_r ((rd_s (x := i + 1) hk rfl).trans (by rw [rd_upup])) (rd_xTT_order W' (fun nx wl uh fd => pk_eq (rd_tx (rd_ok m (rd_up c k (i + 1)) d p o (rd_n m)) o (rd_n m)) m (fun z => ?_) (fun z => ?_)))⟩)
    · have ev : rd_last (rd_fc m c d p o k) (d k) = i + 1 := by
        rw [← e]
        exact rd_lastU (eg.mp z)
      have f := fin (i + 1) tr nx wl uh fd
      rw [ev] at f
      refine nm_r (pk_m1 i) ?_
      exact pk_lt i 1 (fun _ => f) (fun _ => br_f (nI_ne0 (by omega) (by omega)) f)
    · refine nm_r (pk_m1 i) (ih (i + 1) tr nx wl uh fd (by omega) ?_)
      rw [← e]
      exact (rd_lastN (f := rd_fc m c d p o k) (i := i) (fun w => z (eg.mpr w))).symm
theorem rd_xGCK {post : Int32 → SX → Prop} {m k : Nat} {c d p o : Nat → Nat} {u : SX} (W : rd_WF m (rd_n m) c d p o) (U : rd_XS m c d p o u) (hk : k < 5) (hb : m.testBit k = true) (h : ∀ u', rd_XS m c d p o u' → post (nI (rd_last (rd_fc m c d p o k) (d k))) u') : wpX_greatestCost post u (nI k) := by
  obtain ⟨tr, nx, wl, uh, fd, rfl⟩ := U
  unfold wpX_greatestCost
  refine rd_xIsK W.1 hk hb (br_f (by decide) ⟨rd_i hk, nm_r (rd_g hk) ⟨rd_i hk, nm_r (rd_g hk) ?_⟩⟩)
  have a := rd_xGCl W hk hb h (d k) (c k) tr nx wl uh fd (Nat.le_refl _) rfl
  rw [rd_upid] at a
  exact ⟨_, a⟩
theorem rd_xLPl {post : Int32 → SX → Prop} {m k : Nat} {c d p o : Nat → Nat} (W : rd_WF m (rd_n m) c d p o) (hk : k < 5) (hb : m.testBit k = true) (h : ∀ u', rd_XS m c d p o u' → post (nI (rd_frst (rd_fp m c d p o k) (16 - d k) (d k))) u') : ∀ (e i y : Nat) (tr nx wl uh fd : Nat → Nat), i + e = 16 → d k ≤ i → rd_frst (rd_fp m c d p o k) e i = rd_frst (rd_fp m c d p o k) (16 - d k) (d k) → wX_leastPeriod_27 post (nI k) (nI (p k)) (e + 1) 0 (nI i) (nI m) (nI (rd_n m)) (rd_A c) (rd_A d) (rd_A (rd_up p k y)) (rd_A o) (rd_A tr) (rd_A nx) (rd_A wl) (rd_A uh) (rd_A fd) := by
  have hm := W.1
  have hn5 := (rd_n5 m hm).1
  obtain ⟨q0, q1, q2, q3⟩ := W.2.2.2 k hb
  have fin : ∀ (y : Nat) (tr nx wl uh fd : Nat → Nat), vp_in (nI k) 5 ∧ ∀ a : Nat → Int32, a = upd (rd_A (rd_up p k y)) (nI k).toNatClampNeg (nI (p k)) → post (nI (rd_frst (rd_fp m c d p o k) (16 - d k) (d k))) (nI m, nI (rd_n m), rd_A c, rd_A d, a, rd_A o, rd_A tr, rd_A nx, rd_A wl, rd_A uh, rd_A fd) := by
    intro y tr nx wl uh fd
    exact ⟨rd_i hk, nm_r ((rd_s (x := p k) hk rfl).trans (by rw [rd_upup, rd_upid])) (h _ ⟨tr, nx, wl, uh, fd, rfl⟩)⟩
  intro e
  induction e with
  | zero =>
    intro i y tr nx wl uh fd hi hd e
    have e0 : rd_frst (rd_fp m c d p o k) (16 - d k) (d k) = 0 := e.symm
    have f := fin y tr nx wl uh fd
    rw [e0] at f
    exact br_t (nI_lt (a := 15) (by omega) (by omega)) f
  | succ e ih =>
    intro i y tr nx wl uh fd hi hd ee
    have W' := rd_WFp (k := k) (x := i) W hd (by omega)
    obtain ⟨b, eg⟩ := rd_txG W'
    refine br_f (nI_nlt (a := 15) (by omega) (by omega)) (br_t rfl ⟨rd_i hk, nm_r ((rd_s (x := i) hk rfl).trans (by rw [rd_upup])) (rd_xTT_order W' (fun nx wl uh fd => pk_eq (rd_tx (rd_ok m c d (rd_up p k i) o (rd_n m)) o (rd_n m)) m (fun z => ?_) (fun z => ?_)))⟩)
    · have ev : rd_frst (rd_fp m c d p o k) (16 - d k) (d k) = i := by
        rw [← ee]
        exact rd_frstU (eg.mp z)
      have f := fin i tr nx wl uh fd
      rw [ev] at f
      refine nm_r (nI_1 i) ?_
      exact pk_lt 15 (i + 1) (fun _ => f) (fun _ => br_f (nI_ne0 (by omega) (by omega)) f)
    · refine nm_r (nI_1 i) (ih (i + 1) i tr nx wl uh fd (by omega) (by omega) ?_)
      rw [← ee]
      exact (rd_frstN (f := rd_fp m c d p o k) (e := e) (a := i) (fun w => z (eg.mpr w))).symm
theorem rd_xLPK {post : Int32 → SX → Prop} {m k : Nat} {c d p o : Nat → Nat} {u : SX} (W : rd_WF m (rd_n m) c d p o) (U : rd_XS m c d p o u) (hk : k < 5) (hb : m.testBit k = true) (h : ∀ u', rd_XS m c d p o u' → post (nI (rd_frst (rd_fp m c d p o k) (16 - d k) (d k))) u') : wpX_leastPeriod post u (nI k) := by
  obtain ⟨tr, nx, wl, uh, fd, rfl⟩ := U
  obtain ⟨q0, q1, q2, q3⟩ := W.2.2.2 k hb
  unfold wpX_leastPeriod
  refine rd_xIsK W.1 hk hb (br_f (by decide) ⟨rd_i hk, nm_r (rd_g hk) ⟨rd_i hk, nm_r (rd_g hk) ?_⟩⟩)
  have a := rd_xLPl W hk hb h (16 - d k) (d k) (p k) tr nx wl uh fd (by omega) (Nat.le_refl _) rfl
  rw [rd_upid] at a
  exact ⟨_, a⟩
theorem rd_xIdN {post : Int32 → SX → Prop} {m : Nat} {c d p o : Nat → Nat} {u : SX} {x : Int32} (U : rd_XS m c d p o u) (hx : x < 0) (h : ∀ u', rd_XS m c d p o u' → post 0 u') : wpX_idle post u x := by
  obtain ⟨tr, nx, wl, uh, fd, rfl⟩ := U
  unfold wpX_idle
  refine br_t (Int32.le_trans (Int32.le_of_lt hx) (by decide)) ?_
  unfold wX_idle_17
  exact rd_xRSn hx (fun nx wl uh fd => h _ ⟨tr, nx, wl, uh, fd, rfl⟩)
/-- the units that idle asks for -/
def rd_60 (a : Nat) : Nat := if a ≤ 60 then a else 60
theorem rd_xIdK {post : Int32 → SX → Prop} {m a : Nat} {c d p o : Nat → Nat} {u : SX} (W : rd_WF m (rd_n m) c d p o) (U : rd_XS m c d p o u) (ha : a < 2 ^ 31) (h : ∀ u', rd_XS m c d p o u' → post (nI (rd_idle m c p o (rd_n m) (rd_60 a))) u') : wpX_idle post u (nI a) := by
  obtain ⟨tr, nx, wl, uh, fd, rfl⟩ := U
  unfold wpX_idle
  refine pk_le a 60 (fun z => ?_) (fun z => ?_)
  · rw [show rd_60 a = a from if_pos z] at h
    unfold wX_idle_17
    exact rd_xRS_order W z (fun nx wl uh fd _ => h _ ⟨tr, nx, wl, uh, fd, rfl⟩)
  · rw [show rd_60 a = 60 from if_neg (by omega)] at h
    unfold wX_idle_17
    exact rd_xRS_order (T := 60) W (Nat.le_refl _) (fun nx wl uh fd _ => h _ ⟨tr, nx, wl, uh, fd, rfl⟩)
/-! fits -/
theorem rd_WFfit {m a b e : Nat} {c d p o : Nat → Nat} (W : rd_WF m (rd_n m) c d p o) (hn : rd_n m < 5) : rd_WF m (rd_n m) (rd_up c (rd_fr m) a) (rd_up d (rd_fr m) b) (rd_up p (rd_fr m) e) (rd_up o (rd_n m) (rd_fr m)) := by
  obtain ⟨hm, _, hR, hN⟩ := W
  obtain ⟨hk, hf⟩ := rd_fr1 m hm hn
  refine ⟨hm, rfl, rd_RowC (fun i hi => (rd_un (by omega)).symm) hR, fun j hj => ?_⟩
  have ne : j ≠ rd_fr m := fun z => by rw [z, hf] at hj; exact nomatch hj
  rw [rd_un ne, rd_un ne, rd_un ne]
  exact hN j hj
/-- the answer of fits -/
def rd_fv (m a b e : Nat) (c d p : Nat → Nat) : Bool := decide (0 < rd_cnt (rd_gc (m ||| 2 ^ rd_fr m) (rd_up c (rd_fr m) a) (rd_up d (rd_fr m) b) (rd_up p (rd_fr m) e)) (rd_fac (rd_n (m ||| 2 ^ rd_fr m))))
theorem rd_fitE {m : Nat} {o : Nat → Nat} (hm : m < 32) (hn : rd_n m < 5) : rd_cl (m ||| 2 ^ rd_fr m) (rd_fr m) = m ∧ rd_take (rd_up o (rd_n m) (rd_fr m)) (rd_n (m ||| 2 ^ rd_fr m)) (rd_n m) = rd_up o (rd_n m) (rd_fr m) ∧ (m ||| 2 ^ rd_fr m).testBit (rd_fr m) = true ∧ rd_n m < rd_n (m ||| 2 ^ rd_fr m) := by
  obtain ⟨hk, hf⟩ := rd_fr1 m hm hn
  have e2 := rd_nor m hm _ hk hf
  refine ⟨rd_orcl m hm _ hk hf, rd_tkLo (by omega), ?_, by omega⟩
  rw [rd_orB m hm _ hk _ hk]
  simp
