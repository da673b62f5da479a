/-! ===== the well-formed state over the calls ===== -/
def rd_XS (m : Nat) (c d p o : Nat → Nat) (u : SX) : Prop := ∃ tr nx wl uh fd : Nat → Nat, u = (nI m, nI (rd_n m), rd_A c, rd_A d, rd_A p, rd_A o, rd_A tr, rd_A nx, rd_A wl, rd_A uh, rd_A fd)
def rd_YS (m : Nat) (c d p o : Nat → Nat) (v : SY) : Prop := ∃ ro lf gv : Nat → Nat, v = (nI (rd_n m), rd_B m, rd_A c, rd_A d, rd_A p, rd_A o, rd_A ro, rd_A lf, rd_A gv)
theorem rd_WFadd {m a b e : Nat} {c d p o : Nat → Nat} (W : rd_WF m (rd_n m) c d p o) (hn : rd_n m < 5) (h1 : 1 ≤ a) (h2 : a ≤ b) (h3 : b ≤ e) (h4 : e ≤ 15) : rd_WF (m ||| 2 ^ rd_fr m) (rd_n (m ||| 2 ^ rd_fr m)) (rd_up c (rd_fr m) a) (rd_up d (rd_fr m) b) (rd_up p (rd_fr m) e) (rd_up o (rd_n m) (rd_fr m)) := by
  obtain ⟨hm, _, hR, hN⟩ := W
  obtain ⟨hk, hf⟩ := rd_fr1 m hm hn
  refine ⟨rd_orL m hm _ hk, rfl, ?_, rd_NumOr hm hk hN h1 h2 h3 h4⟩
  rw [rd_nor m hm _ hk hf, ← rd_putN]
  exact rd_putRow hm hR hk hf (Nat.le_refl _)
theorem rd_WFrem {m j k : Nat} {c d p o : Nat → Nat} (W : rd_WF m (rd_n m) c d p o) (hk : k < 5) (hb : m.testBit k = true) (hj : j < rd_n m) (e : o j = k) : rd_WF (rd_cl m k) (rd_n (rd_cl m k)) c d p (rd_take o (rd_n m) j) := by
  obtain ⟨hm, _, hR, hN⟩ := W
  refine ⟨rd_clL m hm k hk, rfl, ?_, rd_NumCl hm hk hN⟩
  have a := rd_ncl m hm k hk hb
  rw [← a] at hR hj ⊢
  exact rd_takeRow hm hR hj e
theorem rd_WFpla {m j k i : Nat} {c d p o : Nat → Nat} (W : rd_WF m (rd_n m) c d p o) (hk : k < 5) (hb : m.testBit k = true) (hj : j < rd_n m) (e : o j = k) (hi : i < rd_n m) : rd_WF m (rd_n m) c d p (rd_put (rd_take o (rd_n m) j) (rd_n m - 1) k i) := by
  have W' := rd_WFrem W hk hb hj e
  obtain ⟨hm, _, hR, hN⟩ := W
  obtain ⟨hm', _, hR', _⟩ := W'
  refine ⟨hm, rfl, ?_, hN⟩
  have a := rd_ncl m hm k hk hb
  have b := rd_putRow (i := i) hm' hR' hk (rd_clbk m hm k hk) (by omega)
  rw [rd_clor m hm k hk hb, a] at b
  rw [show rd_n m - 1 = rd_n (rd_cl m k) by omega]
  exact b
theorem rd_WFrow {m n : Nat} {c d p o row : Nat → Nat} (W : rd_WF m n c d p o) {code : Nat} (hc : code < rd_fac n) (h : ∀ i, i < n → row i = rd_pe m code i) : rd_WF m n c d p row := by
  obtain ⟨hm, hn, _, hN⟩ := W
  subst hn
  exact ⟨hm, rfl, rd_RowC (fun i hi => (h i hi).symm) (rd_peRow hm hc), hN⟩
theorem rd_WFc {m n k x : Nat} {c d p o : Nat → Nat} (W : rd_WF m n c d p o) (h1 : 1 ≤ x) (h2 : x ≤ d k) : rd_WF m n (rd_up c k x) d p o := ⟨W.1, W.2.1, W.2.2.1, rd_NumC W.2.2.2 h1 h2⟩
theorem rd_WFp {m n k x : Nat} {c d p o : Nat → Nat} (W : rd_WF m n c d p o) (h1 : d k ≤ x) (h2 : x ≤ 15) : rd_WF m n c d (rd_up p k x) o := ⟨W.1, W.2.1, W.2.2.1, rd_NumP W.2.2.2 h1 h2⟩
/-- the order with number code is good -/
def rd_gc (m : Nat) (c d p : Nat → Nat) (code : Nat) : Bool := rd_good m c d p (rd_pe m code) (rd_n m)
theorem rd_gcR {m code : Nat} {c d p row : Nat → Nat} (h : ∀ i, i < rd_n m → row i = rd_pe m code i) : rd_good m c d p row (rd_n m) = rd_gc m c d p code := rd_goodR h
/-- what the desk asks: are all tasks timely -/
theorem rd_txG {m n : Nat} {c d p row : Nat → Nat} (W : rd_WF m n c d p row) : rd_tx (rd_ok m c d p row n) row n < 32 ∧ (rd_tx (rd_ok m c d p row n) row n = m ↔ rd_good m c d p row n = true) :=
  ⟨(rd_txB n (fun j hj => (W.2.2.1.1 j hj).1)).1, rd_txAll W.1 W.2.2.1⟩
theorem rd_lsB {f : Nat → Bool} {e : Nat → Nat} : ∀ N, (∀ i, i < N → e i < 5) → rd_ls f e N < 32 := by
  intro N
  induction N with
  | zero => intro _; exact (show (0 : Nat) < 32 by decide)
  | succ N ih =>
    intro h
    have a := ih (fun i hi => h i (by omega))
    show (if f N = true then rd_ls f e N ||| 2 ^ e N else rd_ls f e N) < 32
    by_cases z : f N = true
    · rw [if_pos z]
      exact rd_orL _ a _ (h N (Nat.lt_succ_self N))
    · rw [if_neg z]
      exact a
theorem rd_Tem (m : Nat) (x : Int32) : (∃ j, j < 5 ∧ x = nI j ∧ m.testBit j = true) ∨ (∀ j, j < 5 → x = nI j → m.testBit j = false) := by
  rcases pk_ix x (n := 5) (by decide) with h | h | ⟨j, hj, e⟩
  · exact Or.inr (fun j hj e => (rd_no1 h (by omega) e).elim)
  · exact Or.inr (fun j hj e => (rd_no2 h hj (by decide) e).elim)
  · cases z : m.testBit j with
    | true => exact Or.inl ⟨j, hj, e, z⟩
    | false =>
      refine Or.inr (fun i hi e' => ?_)
      rw [← rd_inj5 hj hi (e.symm.trans e')]
      exact z
theorem rd_Pem (n : Nat) (hn : n ≤ 5) (x : Int32) : (∃ j, j < n ∧ x = nI j) ∨ (∀ j, j < n → ¬ x = nI j) := by
  rcases pk_ix x (n := n) (by omega) with h | h | ⟨j, hj, e⟩
  · exact Or.inr (fun j hj e => rd_no1 h (by omega) e)
  · exact Or.inr (fun j hj e => rd_no2 h hj (by omega) e)
  · exact Or.inl ⟨j, hj, e⟩
/-- the three numbers of a task are fine -/
def rd_fine (x y z : Int32) : Prop := 1 ≤ x ∧ x ≤ y ∧ y ≤ z ∧ z ≤ 15
theorem rd_fineN {x y z : Int32} (h : rd_fine x y z) : ∃ a b e : Nat, x = nI a ∧ y = nI b ∧ z = nI e ∧ 1 ≤ a ∧ a ≤ b ∧ b ≤ e ∧ e ≤ 15 := by
  obtain ⟨h1, h2, h3, h4⟩ := h
  have p1 : (0 : Int32) ≤ x := Int32.le_trans (by decide) h1
  have p2 := Int32.le_trans p1 h2
  have p3 := Int32.le_trans p2 h3
  obtain ⟨a, ha, rfl⟩ := nI_of (x := x) (Int32.not_lt.mpr p1)
  obtain ⟨b, hb, rfl⟩ := nI_of (x := y) (Int32.not_lt.mpr p2)
  obtain ⟨e, he, rfl⟩ := nI_of (x := z) (Int32.not_lt.mpr p3)
  refine ⟨a, b, e, rfl, rfl, rfl, ?_, (nI_leI ha hb).mp h2, (nI_leI hb he).mp h3, ?_⟩
  · exact (nI_leI (a := 1) (by decide) ha).mp h1
  · exact (nI_leI (b := 15) he (by decide)).mp h4
theorem rd_Nfine {a b e : Nat} (h1 : 1 ≤ a) (h2 : a ≤ b) (h3 : b ≤ e) (h4 : e ≤ 15) : rd_fine (nI a) (nI b) (nI e) :=
  ⟨nI_le (a := 1) h1 (by omega), nI_le h2 (by omega), nI_le h3 (by omega), nI_le (b := 15) h4 (by decide)⟩
