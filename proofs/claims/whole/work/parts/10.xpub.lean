/-! ===== the desk: its calls ===== -/
theorem rd_nlt {a b : Int32} (h : a ≤ b) : ¬ b < a := Int32.not_lt.mpr h
theorem rd_xIsK {post : Int32 → Prop} {m n k : Nat} {c d p o tr nx wl uh fd : Nat → Nat} (hm : m < 32) (hk : k < 5) (hb : m.testBit k = true) (h : post 1) : wpX_isTask post (nI m, nI n, rd_A c, rd_A d, rd_A p, rd_A o, rd_A tr, rd_A nx, rd_A wl, rd_A uh, rd_A fd) (nI k) :=
  rd_xIs (nI k) hm (fun _ _ _ _ => h) (fun z => by have := z k hk rfl; rw [hb] at this; exact nomatch this)
theorem rd_xIsN {post : Int32 → Prop} {m n : Nat} {c d p o tr nx wl uh fd : Nat → Nat} {x : Int32} (hm : m < 32) (hx : ∀ j, j < 5 → x = nI j → m.testBit j = false) (h : post 0) : wpX_isTask post (nI m, nI n, rd_A c, rd_A d, rd_A p, rd_A o, rd_A tr, rd_A nx, rd_A wl, rd_A uh, rd_A fd) x :=
  rd_xIs x hm (fun j hj e z => by rw [hx j hj e] at z; exact nomatch z) (fun _ => h)
theorem rd_xPlK {post : Int32 → Prop} {m n i : Nat} {c d p o tr nx wl uh fd : Nat → Nat} (hn : n ≤ 5) (hi : i < n) (h : post 1) : wpX_isPlace post (nI m, nI n, rd_A c, rd_A d, rd_A p, rd_A o, rd_A tr, rd_A nx, rd_A wl, rd_A uh, rd_A fd) (nI i) :=
  rd_xPl (nI i) hn (fun _ _ _ => h) (fun z => absurd rfl (z i hi))
theorem rd_xPlN {post : Int32 → Prop} {m n : Nat} {c d p o tr nx wl uh fd : Nat → Nat} {x : Int32} (hn : n ≤ 5) (hx : ∀ j, j < n → ¬ x = nI j) (h : post 0) : wpX_isPlace post (nI m, nI n, rd_A c, rd_A d, rd_A p, rd_A o, rd_A tr, rd_A nx, rd_A wl, rd_A uh, rd_A fd) x :=
  rd_xPl x hn (fun j hj e => absurd e (hx j hj)) (fun _ => h)
theorem rd_xAddB {post : Int32 → SX → Prop} {m : Nat} {c d p o : Nat → Nat} {u : SX} {x y z : Int32} (U : rd_XS m c d p o u) (hf : ¬ rd_fine x y z) (h : post (-1) u) : wpX_add post u x y z := by
  obtain ⟨tr, nx, wl, uh, fd, rfl⟩ := U
  by_cases h1 : 1 ≤ x
  · by_cases h2 : x ≤ y
    · by_cases h3 : y ≤ z
      · by_cases h4 : z ≤ 15
        · exact absurd ⟨h1, h2, h3, h4⟩ hf
        · exact br_f (rd_nlt h1) (br_f (rd_nlt h2) (br_f (rd_nlt h3) (br_f h4 h)))
      · exact br_f (rd_nlt h1) (br_f (rd_nlt h2) (br_t (Int32.not_le.mp h3) h))
    · exact br_f (rd_nlt h1) (br_t (Int32.not_le.mp h2) h)
  · exact br_t (Int32.not_le.mp h1) h
theorem rd_xAddF {post : Int32 → SX → Prop} {m : Nat} {c d p o : Nat → Nat} {u : SX} {x y z : Int32} (U : rd_XS m c d p o u) (hf : rd_fine x y z) (hn : rd_n m = 5) (h : post (-2) u) : wpX_add post u x y z := by
  obtain ⟨tr, nx, wl, uh, fd, rfl⟩ := U
  obtain ⟨h1, h2, h3, h4⟩ := hf
  exact br_f (rd_nlt h1) (br_f (rd_nlt h2) (br_f (rd_nlt h3) (br_t h4 (br_f (by rw [hn]; decide) h))))
theorem rd_xAddK {post : Int32 → SX → Prop} {m a b e : Nat} {c d p o : Nat → Nat} {u : SX} (W : rd_WF m (rd_n m) c d p o) (U : rd_XS m c d p o u) (h1 : 1 ≤ a) (h2 : a ≤ b) (h3 : b ≤ e) (h4 : e ≤ 15) (hn : rd_n m < 5) (h : ∀ u', rd_XS (m ||| 2 ^ rd_fr m) (rd_up c (rd_fr m) a) (rd_up d (rd_fr m) b) (rd_up p (rd_fr m) e) (rd_up o (rd_n m) (rd_fr m)) u' → post (nI (rd_fr m)) u') : wpX_add post u (nI a) (nI b) (nI e) := by
  obtain ⟨tr, nx, wl, uh, fd, rfl⟩ := U
  obtain ⟨g1, g2, g3, g4⟩ := rd_Nfine h1 h2 h3 h4
  obtain ⟨hk, hf⟩ := rd_fr1 m W.1 hn
  have e2 := rd_nor m W.1 _ hk hf
  refine br_f (rd_nlt g1) (br_f (rd_nlt g2) (br_f (rd_nlt g3) (br_t g4 (br_t (nI_lt (b := 5) hn (by decide)) ?_))))
  refine rd_xLF W.1 ⟨rd_i hk, nm_r (rd_s hk rfl) ⟨rd_i hk, nm_r (rd_s hk rfl) ⟨rd_i hk, nm_r (rd_s hk rfl) (nm_r (rd_or m W.1 _ hk) ?_)⟩⟩⟩
  refine rd_xPI hn (Nat.le_refl _) ?_
  refine h _ ⟨tr, nx, wl, uh, fd, ?_⟩
  rw [rd_putN, e2]
theorem rd_xRemN {post : Int32 → SX → Prop} {m : Nat} {c d p o : Nat → Nat} {u : SX} {x : Int32} (hm : m < 32) (U : rd_XS m c d p o u) (hx : ∀ j, j < 5 → x = nI j → m.testBit j = false) (h : post 0 u) : wpX_remove post u x := by
  obtain ⟨tr, nx, wl, uh, fd, rfl⟩ := U
  unfold wpX_remove
  exact rd_xIsN hm hx (br_t rfl h)
theorem rd_xRemK {post : Int32 → SX → Prop} {m j k : Nat} {c d p o : Nat → Nat} {u : SX} (W : rd_WF m (rd_n m) c d p o) (U : rd_XS m c d p o u) (hk : k < 5) (hb : m.testBit k = true) (hj : j < rd_n m) (ej : o j = k) (h : ∀ u', rd_XS (rd_cl m k) c d p (rd_take o (rd_n m) j) u' → post 1 u') : wpX_remove post u (nI k) := by
  obtain ⟨tr, nx, wl, uh, fd, rfl⟩ := U
  obtain ⟨hm, _, hR, hN⟩ := W
  have hn5 := (rd_n5 m hm).1
  have en := rd_ncl m hm k hk hb
  unfold wpX_remove
  refine rd_xIsK hm hk hb (br_f (by decide) ?_)
  refine rd_xTO hn5 hj hk (fun i hi => (hR.1 i hi).1) ej (fun i hi ne e => ne (hR.2.1 i hi j hj (e.trans ej.symm))) (nm_r (rd_clr m hm k hk) (h _ ⟨tr, nx, wl, uh, fd, ?_⟩))
  rw [show rd_n m - 1 = rd_n (rd_cl m k) by omega]
theorem rd_xPlaN {post : Int32 → SX → Prop} {m : Nat} {c d p o : Nat → Nat} {u : SX} {x y : Int32} (hm : m < 32) (U : rd_XS m c d p o u) (hx : (∀ j, j < 5 → x = nI j → m.testBit j = false) ∨ (∀ j, j < rd_n m → ¬ y = nI j)) (h : post 0 u) : wpX_place post u x y := by
  obtain ⟨tr, nx, wl, uh, fd, rfl⟩ := U
  unfold wpX_place
  rcases rd_Tem m x with ⟨q, hq, rfl, hb⟩ | hx'
  · rcases hx with hx | hy
    · have := hx q hq rfl
      rw [hb] at this
      exact nomatch this
    · exact rd_xIsK hm hq hb (br_f (by decide) (rd_xPlN (rd_n5 m hm).1 hy (br_t rfl h)))
  · exact rd_xIsN hm hx' (br_t rfl h)
theorem rd_xPlaK {post : Int32 → SX → Prop} {m j k i : Nat} {c d p o : Nat → Nat} {u : SX} (W : rd_WF m (rd_n m) c d p o) (U : rd_XS m c d p o u) (hk : k < 5) (hb : m.testBit k = true) (hj : j < rd_n m) (ej : o j = k) (hi : i < rd_n m) (h : ∀ u', rd_XS m c d p (rd_put (rd_take o (rd_n m) j) (rd_n m - 1) k i) u' → post 1 u') : wpX_place post u (nI k) (nI i) := by
  obtain ⟨tr, nx, wl, uh, fd, rfl⟩ := U
  obtain ⟨hm, _, hR, hN⟩ := W
  have hn5 := (rd_n5 m hm).1
  unfold wpX_place
  refine rd_xIsK hm hk hb (br_f (by decide) (rd_xPlK hn5 hi (br_f (by decide) ?_)))
  refine rd_xTO hn5 hj hk (fun i hi => (hR.1 i hi).1) ej (fun i hi ne e => ne (hR.2.1 i hi j hj (e.trans ej.symm))) ?_
  refine rd_xPI (by omega) (by omega) (h _ ⟨tr, nx, wl, uh, fd, ?_⟩)
  rw [show rd_n m - 1 + 1 = rd_n m by omega]
theorem rd_xTsk {post : Int32 → Prop} {m : Nat} {c d p o : Nat → Nat} {u : SX} (U : rd_XS m c d p o u) (h : post (nI m)) : wpX_tasks post u := by
  obtain ⟨tr, nx, wl, uh, fd, rfl⟩ := U
  exact h
theorem rd_xAtK {post : Int32 → Prop} {m i : Nat} {c d p o : Nat → Nat} {u : SX} (hm : m < 32) (U : rd_XS m c d p o u) (hi : i < rd_n m) (h : post (nI (o i))) : wpX_at post u (nI i) := by
  obtain ⟨tr, nx, wl, uh, fd, rfl⟩ := U
  have hn5 := (rd_n5 m hm).1
  unfold wpX_at
  refine rd_xPlK hn5 hi (br_f (by decide) ⟨rd_i (by omega), ?_⟩)
  rw [rd_g (by omega)]
  exact h
theorem rd_xAtN {post : Int32 → Prop} {m : Nat} {c d p o : Nat → Nat} {u : SX} {x : Int32} (hm : m < 32) (U : rd_XS m c d p o u) (hx : ∀ j, j < rd_n m → ¬ x = nI j) (h : post (-1)) : wpX_at post u x := by
  obtain ⟨tr, nx, wl, uh, fd, rfl⟩ := U
  unfold wpX_at
  exact rd_xPlN (rd_n5 m hm).1 hx (br_t rfl h)
theorem rd_xResN {post : Int32 → SX → Prop} {m : Nat} {c d p o : Nat → Nat} {u : SX} {x : Int32} (hm : m < 32) (U : rd_XS m c d p o u) (hx : ∀ j, j < 5 → x = nI j → m.testBit j = false) (h : post (-1) u) : wpX_response post u x := by
  obtain ⟨tr, nx, wl, uh, fd, rfl⟩ := U
  unfold wpX_response
  exact rd_xIsN hm hx (br_t rfl h)
theorem rd_xResK {post : Int32 → SX → Prop} {m k : Nat} {c d p o : Nat → Nat} {u : SX} (W : rd_WF m (rd_n m) c d p o) (U : rd_XS m c d p o u) (hk : k < 5) (hb : m.testBit k = true) (h : ∀ u', rd_XS m c d p o u' → post (rd_R (rd_fd m c p o (rd_n m) 15 k) (p k)) u') : wpX_response post u (nI k) := by
  obtain ⟨tr, nx, wl, uh, fd, rfl⟩ := U
  obtain ⟨q0, q1, q2, q3⟩ := W.2.2.2 k hb
  unfold wpX_response
  refine rd_xIsK W.1 hk hb (br_f (by decide) ?_)
  refine rd_xRS_order (T := 15) W (by decide) (fun nx wl uh fd H => ?_)
  have ef := (H k hk).2.2.1
  have bf := rd_fdB (m := m) (c := c) (p := p) (row := o) (n := rd_n m) 15 k
  refine rd_xRR hk (by omega) (by omega) ?_
  rw [ef]
  exact h _ ⟨tr, nx, wl, uh, fd, rfl⟩
theorem rd_xGood {post : Int32 → SX → Prop} {m : Nat} {c d p o : Nat → Nat} {u : SX} (W : rd_WF m (rd_n m) c d p o) (U : rd_XS m c d p o u) (h : ∀ u', rd_XS m c d p o u' → post (rd_b (rd_good m c d p o (rd_n m))) u') : wpX_good post u := by
  obtain ⟨tr, nx, wl, uh, fd, rfl⟩ := U
  have hm := W.1
  obtain ⟨b, e⟩ := rd_txG W
  unfold wpX_good
  refine rd_xTT_order W (fun nx wl uh fd => ?_)
  have h' := h _ ⟨tr, nx, wl, uh, fd, rfl⟩
  refine pk_eq (rd_tx (rd_ok m c d p o (rd_n m)) o (rd_n m)) m (fun z => ?_) (fun z => ?_)
  · rw [rd_bt (e.mp z)] at h'
    exact h'
  · rw [rd_bf (fun y => z (e.mpr y))] at h'
    exact h'
theorem rd_xInT {post : Int32 → SX → Prop} {m : Nat} {c d p o : Nat → Nat} {u : SX} (W : rd_WF m (rd_n m) c d p o) (U : rd_XS m c d p o u) (h : ∀ u', rd_XS m c d p o u' → post (nI (rd_tx (rd_ok m c d p o (rd_n m)) o (rd_n m))) u') : wpX_inTime post u := by
  obtain ⟨tr, nx, wl, uh, fd, rfl⟩ := U
  unfold wpX_inTime
  exact rd_xTT_order W (fun nx wl uh fd => h _ ⟨tr, nx, wl, uh, fd, rfl⟩)
/-! the searches over all orders -/
/-- after the step the trial is the next order, if there is one -/
theorem rd_trN {m e : Nat} {tr : Nat → Nat} (hm : m < 32) (he : e < rd_fac (rd_n m)) (H : ∀ i, i < rd_n m → tr i = rd_pe m e i) : e + 1 < rd_fac (rd_n m) → ∀ i, i < rd_n m → rd_next (rd_n m) tr i = rd_pe m (e + 1) i := by
  intro h i hi
  rw [rd_nextC (by omega) H i hi]
  exact rd_peNext m hm e he h i hi
theorem rd_trB {m e : Nat} {tr : Nat → Nat} (hm : m < 32) (he : e < rd_fac (rd_n m)) (H : ∀ i, i < rd_n m → tr i = rd_pe m e i) : ∀ i, i < rd_n m → tr i < 2 ^ 31 := by
  intro i hi
  have := (rd_peIn m hm e he i hi).1
  rw [H i hi]
  omega
theorem rd_xGOl {post : Int32 → SX → Prop} {m : Nat} {c d p o : Nat → Nat} (W : rd_WF m (rd_n m) c d p o) (h : ∀ u', rd_XS m c d p o u' → post (nI (rd_cnt (rd_gc m c d p) (rd_fac (rd_n m)))) u') : ∀ (e i : Nat) (tr nx wl uh fd : Nat → Nat), i + e = rd_fac (rd_n m) → (i < rd_fac (rd_n m) → ∀ q, q < rd_n m → tr q = rd_pe m i q) → wX_goodOrders_13 post (nI (rd_fac (rd_n m))) (e + 1) (nI (rd_cnt (rd_gc m c d p) i)) (nI i) (nI m) (nI (rd_n m)) (rd_A c) (rd_A d) (rd_A p) (rd_A o) (rd_A tr) (rd_A nx) (rd_A wl) (rd_A uh) (rd_A fd) := by
  have hm := W.1
  have hn5 := (rd_n5 m hm).1
  have hF := (rd_facB (rd_n m) (by omega)).1
  intro e
  induction e with
  | zero =>
    intro i tr nx wl uh fd hi H
    have e : i = rd_fac (rd_n m) := by omega
    rw [e]
    exact br_t (nI_le (Nat.le_refl _) (by omega)) (h _ ⟨tr, nx, wl, uh, fd, rfl⟩)
  | succ e ih =>
    intro i tr nx wl uh fd hi H
    have hiF : i < rd_fac (rd_n m) := by omega
    have Hi := H hiF
    have W' := rd_WFrow W hiF Hi
    obtain ⟨b, eg⟩ := rd_txG W'
    have cB := rd_cntB (rd_gc m c d p) i
    refine br_f (nI_ge hiF (by omega)) (rd_xTT_trial W' (fun nx wl uh fd => pk_eq (rd_tx (rd_ok m c d p tr (rd_n m)) tr (rd_n m)) m (fun z => ?_) (fun z => ?_)))
    · have a : rd_cnt (rd_gc m c d p) (i + 1) = rd_cnt (rd_gc m c d p) i + 1 := if_pos (by rw [← rd_gcR Hi]; exact eg.mp z)
      refine nm_r (nI_1 _) ?_
      unfold wX_goodOrders_36
      refine rd_xNT hn5 (rd_trB hm hiF Hi) (nm_r (nI_1 i) ?_)
      rw [← a]
      exact ih (i + 1) _ _ _ _ _ (by omega) (rd_trN hm hiF Hi)
    · have a : rd_cnt (rd_gc m c d p) (i + 1) = rd_cnt (rd_gc m c d p) i := if_neg (by rw [← rd_gcR Hi]; exact fun y => z (eg.mpr y))
      unfold wX_goodOrders_36
      refine rd_xNT hn5 (rd_trB hm hiF Hi) (nm_r (nI_1 i) ?_)
      rw [← a]
      exact ih (i + 1) _ _ _ _ _ (by omega) (rd_trN hm hiF Hi)
theorem rd_xGO {post : Int32 → SX → Prop} {m : Nat} {c d p o : Nat → Nat} {u : SX} (W : rd_WF m (rd_n m) c d p o) (U : rd_XS m c d p o u) (h : ∀ u', rd_XS m c d p o u' → post (nI (rd_cnt (rd_gc m c d p) (rd_fac (rd_n m)))) u') : wpX_goodOrders post u := by
  obtain ⟨tr, nx, wl, uh, fd, rfl⟩ := U
  have hm := W.1
  have hn5 := (rd_n5 m hm).1
  unfold wpX_goodOrders
  refine rd_xNO hn5 (rd_xFT hm (fun tr' H => ?_))
  exact ⟨rd_fac (rd_n m) + 1, rd_xGOl W h (rd_fac (rd_n m)) 0 tr' nx wl uh fd (Nat.zero_add _) (fun _ => H)⟩
theorem rd_xArrl {post : Int32 → SX → Prop} {m : Nat} {c d p o : Nat → Nat} (W : rd_WF m (rd_n m) c d p o) (h1 : ∀ e u', e < rd_fac (rd_n m) → rd_gc m c d p e = true → (∀ i, i < e → rd_gc m c d p i = false) → rd_XS m c d p (rd_cp o (rd_pe m e) (rd_n m)) u' → post 1 u') (h0 : (∀ e, e < rd_fac (rd_n m) → rd_gc m c d p e = false) → ∀ u', rd_XS m c d p o u' → post 0 u') : ∀ (e i : Nat) (tr nx wl uh fd : Nat → Nat), i + e = rd_fac (rd_n m) → (i < rd_fac (rd_n m) → ∀ q, q < rd_n m → tr q = rd_pe m i q) → (∀ q, q < i → rd_gc m c d p q = false) → wX_arrange_11 post (nI (rd_fac (rd_n m))) (e + 1) (nI i) (nI m) (nI (rd_n m)) (rd_A c) (rd_A d) (rd_A p) (rd_A o) (rd_A tr) (rd_A nx) (rd_A wl) (rd_A uh) (rd_A fd) := by
  have hm := W.1
  have hn5 := (rd_n5 m hm).1
  have hF := (rd_facB (rd_n m) (by omega)).1
  intro e
  induction e with
  | zero =>
    intro i tr nx wl uh fd hi H L
    have e : i = rd_fac (rd_n m) := by omega
    rw [e] at L ⊢
    exact br_t (nI_le (Nat.le_refl _) (by omega)) (h0 L _ ⟨tr, nx, wl, uh, fd, rfl⟩)
  | succ e ih =>
    intro i tr nx wl uh fd hi H L
    have hiF : i < rd_fac (rd_n m) := by omega
    have Hi := H hiF
    have W' := rd_WFrow W hiF Hi
    obtain ⟨b, eg⟩ := rd_txG W'
    refine br_f (nI_ge hiF (by omega)) (rd_xTT_trial W' (fun nx wl uh fd => pk_eq (rd_tx (rd_ok m c d p tr (rd_n m)) tr (rd_n m)) m (fun z => ?_) (fun z => ?_)))
    · refine rd_xTTO hn5 (h1 i _ hiF (by rw [← rd_gcR Hi]; exact eg.mp z) L ⟨tr, nx, wl, uh, fd, ?_⟩)
      rw [rd_cpC Hi]
    · have a : rd_gc m c d p i = false := rd_tf (by rw [← rd_gcR Hi]; exact fun y => z (eg.mpr y))
      refine rd_xNT hn5 (rd_trB hm hiF Hi) (nm_r (nI_1 i) (ih (i + 1) _ _ _ _ _ (by omega) (rd_trN hm hiF Hi) (fun q hq => ?_)))
      rcases Nat.lt_or_ge q i with y | y
      · exact L q y
      · rw [show q = i by omega]
        exact a
theorem rd_xArr {post : Int32 → SX → Prop} {m : Nat} {c d p o : Nat → Nat} {u : SX} (W : rd_WF m (rd_n m) c d p o) (U : rd_XS m c d p o u) (h1 : ∀ e u', e < rd_fac (rd_n m) → rd_gc m c d p e = true → (∀ i, i < e → rd_gc m c d p i = false) → rd_XS m c d p (rd_cp o (rd_pe m e) (rd_n m)) u' → post 1 u') (h0 : (∀ e, e < rd_fac (rd_n m) → rd_gc m c d p e = false) → ∀ u', rd_XS m c d p o u' → post 0 u') : wpX_arrange post u := by
  obtain ⟨tr, nx, wl, uh, fd, rfl⟩ := U
  have hm := W.1
  have hn5 := (rd_n5 m hm).1
  unfold wpX_arrange
  refine rd_xNO hn5 (rd_xFT hm (fun tr' H => ?_))
  exact ⟨rd_fac (rd_n m) + 1, rd_xArrl W h1 h0 (rd_fac (rd_n m)) 0 tr' nx wl uh fd (Nat.zero_add _) (fun _ => H) (fun q hq => absurd hq (Nat.not_lt_zero q))⟩
/-- the tasks that are last in a good order -/
def rd_lv (m : Nat) (c d p : Nat → Nat) (e : Nat) : Nat := rd_ls (rd_gc m c d p) (fun code => rd_pe m code (rd_n m - 1)) e
def rd_lv0 (m : Nat) (c d p : Nat → Nat) : Nat := if rd_n m = 0 then 0 else rd_lv m c d p (rd_fac (rd_n m))
theorem rd_lvB {m e : Nat} {c d p : Nat → Nat} (hm : m < 32) (hn : 0 < rd_n m) (he : e ≤ rd_fac (rd_n m)) : rd_lv m c d p e < 32 := rd_lsB e (fun i hi => (rd_peIn m hm i (by omega) _ (by omega)).1)
theorem rd_xCBLl {post : Int32 → SX → Prop} {m : Nat} {c d p o : Nat → Nat} (W : rd_WF m (rd_n m) c d p o) (hn : 0 < rd_n m) (h : ∀ u', rd_XS m c d p o u' → post (nI (rd_lv m c d p (rd_fac (rd_n m)))) u') : ∀ (e i : Nat) (tr nx wl uh fd : Nat → Nat), i + e = rd_fac (rd_n m) → (i < rd_fac (rd_n m) → ∀ q, q < rd_n m → tr q = rd_pe m i q) → wX_canBeLast_22 post (nI (rd_fac (rd_n m))) (e + 1) (nI (rd_lv m c d p i)) (nI i) (nI m) (nI (rd_n m)) (rd_A c) (rd_A d) (rd_A p) (rd_A o) (rd_A tr) (rd_A nx) (rd_A wl) (rd_A uh) (rd_A fd) := by
  have hm := W.1
  have hn5 := (rd_n5 m hm).1
  have hF := (rd_facB (rd_n m) (by omega)).1
  intro e
  induction e with
  | zero =>
    intro i tr nx wl uh fd hi H
    have e : i = rd_fac (rd_n m) := by omega
    rw [e]
    exact br_t (nI_le (Nat.le_refl _) (by omega)) (h _ ⟨tr, nx, wl, uh, fd, rfl⟩)
  | succ e ih =>
    intro i tr nx wl uh fd hi H
    have hiF : i < rd_fac (rd_n m) := by omega
    have Hi := H hiF
    have W' := rd_WFrow W hiF Hi
    obtain ⟨b, eg⟩ := rd_txG W'
    have e1 : nI (rd_n m) - 1 = nI (rd_n m - 1) := (rd_pm1 _).trans (by rw [show rd_n m = rd_n m - 1 + 1 by omega]; rfl)
    have t5 : tr (rd_n m - 1) < 5 := (W'.2.2.1.1 _ (by omega)).1
    refine br_f (nI_ge hiF (by omega)) (rd_xTT_trial W' (fun nx wl uh fd => pk_eq (rd_tx (rd_ok m c d p tr (rd_n m)) tr (rd_n m)) m (fun z => ?_) (fun z => ?_)))
    · have a : rd_lv m c d p (i + 1) = rd_lv m c d p i ||| 2 ^ tr (rd_n m - 1) := by
        rw [Hi _ (by omega)]
        exact if_pos (by rw [← rd_gcR Hi]; exact eg.mp z)
      refine ⟨pk_in (rd_n m - 1) 5 (by omega) e1, nm_r (e' := nI (rd_lv m c d p (i + 1))) ?_ ?_⟩
      · rw [a, e1, rd_g (by omega), rd_or _ (rd_lvB hm hn (by omega)) _ t5]
      · unfold wX_canBeLast_58
        exact rd_xNT hn5 (rd_trB hm hiF Hi) (nm_r (nI_1 i) (ih (i + 1) _ _ _ _ _ (by omega) (rd_trN hm hiF Hi)))
    · have a : rd_lv m c d p (i + 1) = rd_lv m c d p i := if_neg (by rw [← rd_gcR Hi]; exact fun y => z (eg.mpr y))
      unfold wX_canBeLast_58
      refine rd_xNT hn5 (rd_trB hm hiF Hi) (nm_r (nI_1 i) ?_)
      rw [← a]
      exact ih (i + 1) _ _ _ _ _ (by omega) (rd_trN hm hiF Hi)
theorem rd_xCBL {post : Int32 → SX → Prop} {m : Nat} {c d p o : Nat → Nat} {u : SX} (W : rd_WF m (rd_n m) c d p o) (U : rd_XS m c d p o u) (h : ∀ u', rd_XS m c d p o u' → post (nI (rd_lv0 m c d p)) u') : wpX_canBeLast post u := by
  have U0 := U
  obtain ⟨tr, nx, wl, uh, fd, rfl⟩ := U
  have hm := W.1
  have hn5 := (rd_n5 m hm).1
  unfold rd_lv0 at h
  unfold wpX_canBeLast
  refine pk_eq (rd_n m) 0 (fun z => ?_) (fun z => ?_)
  · rw [if_pos z] at h
    exact h _ U0
  · rw [if_neg z] at h
    refine rd_xNO hn5 (rd_xFT hm (fun tr' H => ?_))
    exact ⟨rd_fac (rd_n m) + 1, rd_xCBLl W (by omega) h (rd_fac (rd_n m)) 0 tr' nx wl uh fd (Nat.zero_add _) (fun _ => H)⟩
