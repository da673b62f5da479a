/-! ===== the reference: its calls, the rest ===== -/
theorem rd_yPlal {post : Int32 → SY → Prop} {m n k i : Nat} {c d p o ro lf gv : Nat → Nat} (hn : n < 5) (hi : i ≤ n) (h : post 1 (nI (n + 1), rd_B m, rd_A c, rd_A d, rd_A p, rd_A (rd_put o n k i), rd_A ro, rd_A lf, rd_A gv)) : ∀ (e : Nat), i + e ≤ n → wY_place_39 post (nI k) (nI i) (nI n) (e + 1) (nI (i + e)) (rd_B m) (rd_A c) (rd_A d) (rd_A p) (rd_A (rd_shr o n (i + e))) (rd_A ro) (rd_A lf) (rd_A gv) := by
  intro e
  induction e with
  | zero =>
    intro hq
    exact br_t (nI_le (by omega) (by omega)) ⟨rd_i (by omega), nm_r ((rd_s (x := k) (by omega) rfl).trans (congrArg rd_A (rd_shrE o n k i))) (nm_r (nI_1 n) h)⟩
  | succ e ih =>
    intro hq
    have e1 : nI (i + (e + 1)) - 1 = nI (i + e) := nI_pred (i + e)
    refine br_f (nI_ge (by omega) (by omega)) ⟨pk_in (i + e) 5 (by omega) e1, ⟨rd_i (by omega), nm_r (e' := rd_A (rd_shr o n (i + e))) ?_ (nm_r (pk_m1 (i + e)) (ih (by omega)))⟩⟩
    rw [e1, rd_g (by omega), rd_s (x := rd_shr o n (i + (e + 1)) (i + e)) (by omega) rfl]
    exact congrArg rd_A (rd_shrS (o := o) (n := n) (i := i + e) hq)
theorem rd_yPlaK {post : Int32 → SY → Prop} {m j k i : Nat} {c d p o : Nat → Nat} {v : SY} (W : rd_WF m (rd_n m) c d p o) (V : rd_YS m c d p o v) (hk : k < 5) (hb : m.testBit k = true) (hj : j < rd_n m) (ej : o j = k) (hi : i < rd_n m) (h : ∀ v', rd_YS m c d p (rd_put (rd_take o (rd_n m) j) (rd_n m - 1) k i) v' → post 1 v') : wpY_place post v (nI k) (nI i) := by
  obtain ⟨ro, lf, gv, rfl⟩ := V
  obtain ⟨hm, _, hR, hN⟩ := W
  have hn5 := (rd_n5 m hm).1
  unfold wpY_place
  refine rd_yIsK hk hb (br_f (by decide) (br_f (nI_pos (by omega)) (br_t (nI_lt hi (by omega)) ?_)))
  refine rd_yFi hn5 hj hk (fun i hi => (hR.1 i hi).1) ej (fun i hi ne e => ne (hR.2.1 i hi j hj (e.trans ej.symm))) ?_
  refine rd_yTO hn5 hj ?_
  have a := rd_yPlal (post := post) (m := m) (n := rd_n m - 1) (k := k) (i := i) (c := c) (d := d) (p := p) (o := rd_take o (rd_n m) j) (ro := ro) (lf := lf) (gv := gv) (by omega) (by omega) (h _ ⟨ro, lf, gv, by rw [show rd_n m - 1 + 1 = rd_n m by omega]⟩) (rd_n m - 1 - i) (by omega)
  rw [show i + (rd_n m - 1 - i) = rd_n m - 1 by omega, rd_shr0] at a
  exact ⟨_, a⟩
theorem rd_yInTl {post : Int32 → SY → Prop} {m n : Nat} {c d p o ro : Nat → Nat} (W : rd_WF m n c d p ro) (h : ∀ lf gv : Nat → Nat, post (nI (rd_ty (rd_ok m c d p ro n) m 5)) (nI n, rd_B m, rd_A c, rd_A d, rd_A p, rd_A o, rd_A ro, rd_A lf, rd_A gv)) : ∀ (e k : Nat) (lf gv : Nat → Nat), k + e = 5 → wY_inTime_8 post (e + 1) (nI (rd_ty (rd_ok m c d p ro n) m k)) (nI k) (nI n) (rd_B m) (rd_A c) (rd_A d) (rd_A p) (rd_A o) (rd_A ro) (rd_A lf) (rd_A gv) := by
  intro e
  induction e with
  | zero =>
    intro k lf gv hk
    have ek : k = 5 := by omega
    subst ek
    exact br_t (nI_le (a := 5) (Nat.le_refl 5) (by decide)) (h lf gv)
  | succ e ih =>
    intro k lf gv hk
    have hk5 : k < 5 := by omega
    have bt := (rd_tyB (f := rd_ok m c d p ro n) (m := m) k (by omega)).1
    have no : ∀ lf gv, ¬ (m.testBit k = true ∧ rd_ok m c d p ro n k = true) → wY_inTime_8 post (e + 1) (nI (rd_ty (rd_ok m c d p ro n) m k)) (nI (k + 1)) (nI n) (rd_B m) (rd_A c) (rd_A d) (rd_A p) (rd_A o) (rd_A ro) (rd_A lf) (rd_A gv) := by
      intro lf gv z
      have a : rd_ty (rd_ok m c d p ro n) m (k + 1) = rd_ty (rd_ok m c d p ro n) m k := if_neg z
      rw [← a]
      exact ih (k + 1) lf gv (by omega)
    refine br_f (nI_ge (b := 5) hk5 (by decide)) ⟨rd_i hk5, rd_Bc hk5 (fun y => nm_r (nI_1 k) (no lf gv (fun x => rd_nft y x.1))) (fun y => ?_)⟩
    refine rd_yPu W hk5 y (fun lf gv => ?_)
    cases x : rd_ok m c d p ro n k with
    | false => exact br_t rfl (nm_r (nI_1 k) (no lf gv (fun q => rd_nft x q.2)))
    | true =>
      have a : rd_ty (rd_ok m c d p ro n) m (k + 1) = rd_ty (rd_ok m c d p ro n) m k ||| 2 ^ k := if_pos ⟨y, x⟩
      refine br_f (by decide) (nm_r (rd_or _ bt k hk5) (nm_r (nI_1 k) ?_))
      rw [← a]
      exact ih (k + 1) lf gv (by omega)
theorem rd_yInT {post : Int32 → SY → Prop} {m : Nat} {c d p o : Nat → Nat} {v : SY} (W : rd_WF m (rd_n m) c d p o) (V : rd_YS m c d p o v) (h : ∀ v', rd_YS m c d p o v' → post (nI (rd_tx (rd_ok m c d p o (rd_n m)) o (rd_n m))) v') : wpY_inTime post v := by
  obtain ⟨ro, lf, gv, rfl⟩ := V
  unfold wpY_inTime
  refine rd_yUO (rd_n5 m W.1).1 (fun ro' H => ?_)
  refine ⟨6, rd_yInTl (rd_WFuo W H) (fun lf gv => ?_) 5 0 lf gv rfl⟩
  rw [rd_okR H, ← rd_txty W.2.2.1]
  exact h _ ⟨ro', lf, gv, rfl⟩
theorem rd_yGOl {post : Int32 → SY → Prop} {m : Nat} {c d p o : Nat → Nat} (W : rd_WF m (rd_n m) c d p o) (h : ∀ v', rd_YS m c d p o v' → post (nI (rd_cnt (rd_gc m c d p) (rd_fac (rd_n m)))) v') : ∀ (e i : Nat) (ro lf gv : Nat → Nat), i + e = rd_fac (rd_n m) → wY_goodOrders_9 post (nI (rd_fac (rd_n m))) (e + 1) (nI (rd_cnt (rd_gc m c d p) i)) (nI i) (nI (rd_n m)) (rd_B m) (rd_A c) (rd_A d) (rd_A p) (rd_A o) (rd_A ro) (rd_A lf) (rd_A gv) := by
  have hm := W.1
  have hn5 := (rd_n5 m hm).1
  have hF := (rd_facB (rd_n m) (by omega)).1
  intro e
  induction e with
  | zero =>
    intro i ro lf gv hi
    have e : i = rd_fac (rd_n m) := by omega
    rw [e]
    exact br_t (nI_le (Nat.le_refl _) (by omega)) (h _ ⟨ro, lf, gv, rfl⟩)
  | succ e ih =>
    intro i ro lf gv hi
    have hiF : i < rd_fac (rd_n m) := by omega
    refine br_f (nI_ge hiF (by omega)) (rd_ySp hm hiF (fun ro' H => ?_))
    refine rd_yAP (rd_WFrow W hiF H) (fun lf gv => ?_)
    rw [rd_gcR H]
    cases z : rd_gc m c d p i with
    | true =>
      have a : rd_cnt (rd_gc m c d p) (i + 1) = rd_cnt (rd_gc m c d p) i + 1 := if_pos z
      refine br_f (by decide) (nm_r (nI_1 _) (nm_r (nI_1 i) ?_))
      rw [← a]
      exact ih (i + 1) ro' lf gv (by omega)
    | false =>
      have a : rd_cnt (rd_gc m c d p) (i + 1) = rd_cnt (rd_gc m c d p) i := if_neg (rd_nft z)
      refine br_t rfl (nm_r (nI_1 i) ?_)
      rw [← a]
      exact ih (i + 1) ro' lf gv (by omega)
theorem rd_yGO {post : Int32 → SY → Prop} {m : Nat} {c d p o : Nat → Nat} {v : SY} (W : rd_WF m (rd_n m) c d p o) (V : rd_YS m c d p o v) (h : ∀ v', rd_YS m c d p o v' → post (nI (rd_cnt (rd_gc m c d p) (rd_fac (rd_n m)))) v') : wpY_goodOrders post v := by
  obtain ⟨ro, lf, gv, rfl⟩ := V
  unfold wpY_goodOrders
  exact rd_yOr (rd_n5 m W.1).1 ⟨_, rd_yGOl W h (rd_fac (rd_n m)) 0 ro lf gv (Nat.zero_add _)⟩
theorem rd_yArrc {post : Int32 → SY → Prop} {m n : Nat} {c d p o ro lf gv : Nat → Nat} (hn : n ≤ 5) (h : post 1 (nI n, rd_B m, rd_A c, rd_A d, rd_A p, rd_A (rd_cp o ro n), rd_A ro, rd_A lf, rd_A gv)) : ∀ (e i : Nat), i + e = n → wY_arrange_26 post (nI n) (e + 1) (nI i) (rd_B m) (rd_A c) (rd_A d) (rd_A p) (rd_A (rd_cp o ro i)) (rd_A ro) (rd_A lf) (rd_A gv) := by
  intro e
  induction e with
  | zero =>
    intro i hi
    have e : i = n := by omega
    subst e
    exact br_t (nI_le (Nat.le_refl i) (by omega)) h
  | succ e ih =>
    intro i hi
    have hi5 : i < 5 := by omega
    exact br_f (nI_ge (by omega) (by omega)) ⟨rd_i hi5, ⟨rd_i hi5, nm_r ((rd_s (x := ro i) hi5 (rd_g hi5)).trans (congrArg rd_A (rd_cpS o ro i))) (nm_r (nI_1 i) (ih (i + 1) (by omega)))⟩⟩
theorem rd_yArrl {post : Int32 → SY → Prop} {m : Nat} {c d p o : Nat → Nat} (W : rd_WF m (rd_n m) c d p o) (h1 : ∀ e v', e < rd_fac (rd_n m) → rd_gc m c d p e = true → (∀ i, i < e → rd_gc m c d p i = false) → rd_YS m c d p (rd_cp o (rd_pe m e) (rd_n m)) v' → post 1 v') (h0 : (∀ e, e < rd_fac (rd_n m) → rd_gc m c d p e = false) → ∀ v', rd_YS m c d p o v' → post 0 v') : ∀ (e i : Nat) (ro lf gv : Nat → Nat), i + e = rd_fac (rd_n m) → (∀ q, q < i → rd_gc m c d p q = false) → wY_arrange_7 post (nI (rd_fac (rd_n m))) (e + 1) (nI i) (nI (rd_n m)) (rd_B m) (rd_A c) (rd_A d) (rd_A p) (rd_A o) (rd_A ro) (rd_A lf) (rd_A gv) := by
  have hm := W.1
  have hn5 := (rd_n5 m hm).1
  have hF := (rd_facB (rd_n m) (by omega)).1
  intro e
  induction e with
  | zero =>
    intro i ro lf gv hi L
    have e : i = rd_fac (rd_n m) := by omega
    rw [e] at L ⊢
    exact br_t (nI_le (Nat.le_refl _) (by omega)) (h0 L _ ⟨ro, lf, gv, rfl⟩)
  | succ e ih =>
    intro i ro lf gv hi L
    have hiF : i < rd_fac (rd_n m) := by omega
    refine br_f (nI_ge hiF (by omega)) (rd_ySp hm hiF (fun ro' H => ?_))
    refine rd_yAP (rd_WFrow W hiF H) (fun lf gv => ?_)
    rw [rd_gcR H]
    cases z : rd_gc m c d p i with
    | true =>
      have a := rd_yArrc (post := post) (m := m) (n := rd_n m) (c := c) (d := d) (p := p) (o := o) (ro := ro') (lf := lf) (gv := gv) hn5 (h1 i _ hiF z L ⟨ro', lf, gv, by rw [rd_cpC H]⟩) (rd_n m) 0 (Nat.zero_add _)
      rw [rd_cp0] at a
      exact br_f (by decide) ⟨_, a⟩
    | false =>
      refine br_t rfl (nm_r (nI_1 i) (ih (i + 1) ro' lf gv (by omega) (fun q hq => ?_)))
      rcases Nat.lt_or_ge q i with y | y
      · exact L q y
      · rw [show q = i by omega]
        exact z
theorem rd_yArr {post : Int32 → SY → Prop} {m : Nat} {c d p o : Nat → Nat} {v : SY} (W : rd_WF m (rd_n m) c d p o) (V : rd_YS m c d p o v) (h1 : ∀ e v', e < rd_fac (rd_n m) → rd_gc m c d p e = true → (∀ i, i < e → rd_gc m c d p i = false) → rd_YS m c d p (rd_cp o (rd_pe m e) (rd_n m)) v' → post 1 v') (h0 : (∀ e, e < rd_fac (rd_n m) → rd_gc m c d p e = false) → ∀ v', rd_YS m c d p o v' → post 0 v') : wpY_arrange post v := by
  obtain ⟨ro, lf, gv, rfl⟩ := V
  unfold wpY_arrange
  exact rd_yOr (rd_n5 m W.1).1 ⟨_, rd_yArrl W h1 h0 (rd_fac (rd_n m)) 0 ro lf gv (Nat.zero_add _) (fun q hq => absurd hq (Nat.not_lt_zero q))⟩
theorem rd_yCBLl {post : Int32 → SY → Prop} {m : Nat} {c d p o : Nat → Nat} (W : rd_WF m (rd_n m) c d p o) (hn : 0 < rd_n m) (h : ∀ v', rd_YS m c d p o v' → post (nI (rd_lv m c d p (rd_fac (rd_n m)))) v') : ∀ (e i : Nat) (ro lf gv : Nat → Nat), i + e = rd_fac (rd_n m) → wY_canBeLast_9 post (nI (rd_fac (rd_n m))) (e + 1) (nI (rd_lv m c d p i)) (nI i) (nI (rd_n m)) (rd_B m) (rd_A c) (rd_A d) (rd_A p) (rd_A o) (rd_A ro) (rd_A lf) (rd_A gv) := by
  have hm := W.1
  have hn5 := (rd_n5 m hm).1
  have hF := (rd_facB (rd_n m) (by omega)).1
  intro e
  induction e with
  | zero =>
    intro i ro lf gv hi
    have e : i = rd_fac (rd_n m) := by omega
    rw [e]
    exact br_t (nI_le (Nat.le_refl _) (by omega)) (h _ ⟨ro, lf, gv, rfl⟩)
  | succ e ih =>
    intro i ro lf gv hi
    have hiF : i < rd_fac (rd_n m) := by omega
    refine br_f (nI_ge hiF (by omega)) (br_f (nI_nle hn (by omega)) (rd_ySp hm hiF (fun ro' H => ?_)))
    have W' := rd_WFrow W hiF H
    refine rd_yAP W' (fun lf gv => ?_)
    rw [rd_gcR H]
    have e1 : nI (rd_n m) - 1 = nI (rd_n m - 1) := (rd_pm1 _).trans (by rw [show rd_n m = rd_n m - 1 + 1 by omega]; rfl)
    have t5 : ro' (rd_n m - 1) < 5 := (W'.2.2.1.1 _ (by omega)).1
    cases z : rd_gc m c d p i with
    | true =>
      have a : rd_lv m c d p (i + 1) = rd_lv m c d p i ||| 2 ^ ro' (rd_n m - 1) := by
        rw [H _ (by omega)]
        exact if_pos z
      refine br_f (by decide) ⟨pk_in (rd_n m - 1) 5 (by omega) e1, nm_r (e' := nI (rd_lv m c d p (i + 1))) ?_ (nm_r (nI_1 i) (ih (i + 1) ro' lf gv (by omega)))⟩
      rw [a, e1, rd_g (by omega), rd_or _ (rd_lvB hm hn (by omega)) _ t5]
    | false =>
      have a : rd_lv m c d p (i + 1) = rd_lv m c d p i := if_neg (rd_nft z)
      refine br_t rfl (nm_r (nI_1 i) ?_)
      rw [← a]
      exact ih (i + 1) ro' lf gv (by omega)
theorem rd_yCBL {post : Int32 → SY → Prop} {m : Nat} {c d p o : Nat → Nat} {v : SY} (W : rd_WF m (rd_n m) c d p o) (V : rd_YS m c d p o v) (h : ∀ v', rd_YS m c d p o v' → post (nI (rd_lv0 m c d p)) v') : wpY_canBeLast post v := by
  have V0 := V
  obtain ⟨ro, lf, gv, rfl⟩ := V
  unfold rd_lv0 at h
  unfold wpY_canBeLast
  refine rd_yOr (rd_n5 m W.1).1 ?_
  by_cases z : rd_n m = 0
  · rw [if_pos z] at h
    have e1 : rd_fac (rd_n m) = 1 := by rw [z]; rfl
    refine ⟨1, br_f ?_ (br_t ?_ (h _ V0))⟩
    · rw [e1]
      decide
    · rw [z]
      decide
  · rw [if_neg z] at h
    exact ⟨_, rd_yCBLl W (by omega) h (rd_fac (rd_n m)) 0 ro lf gv (Nat.zero_add _)⟩
theorem rd_yGCN {post : Int32 → SY → Prop} {m : Nat} {c d p o : Nat → Nat} {v : SY} {x : Int32} (V : rd_YS m c d p o v) (hx : ∀ j, j < 5 → x = nI j → m.testBit j = false) (h : post (-1) v) : wpY_greatestCost post v x := by
  obtain ⟨ro, lf, gv, rfl⟩ := V
  unfold wpY_greatestCost
  exact rd_yIsN hx (br_t rfl h)
theorem rd_yLPN {post : Int32 → SY → Prop} {m : Nat} {c d p o : Nat → Nat} {v : SY} {x : Int32} (V : rd_YS m c d p o v) (hx : ∀ j, j < 5 → x = nI j → m.testBit j = false) (h : post (-1) v) : wpY_leastPeriod post v x := by
  obtain ⟨ro, lf, gv, rfl⟩ := V
  unfold wpY_leastPeriod
  exact rd_yIsN hx (br_t rfl h)
theorem rd_yGCl {post : Int32 → SY → Prop} {m k : Nat} {c d p o ro : Nat → Nat} (W : rd_WF m (rd_n m) c d p o) (H : ∀ i, i < rd_n m → ro i = o i) (hk : k < 5) (hb : m.testBit k = true) (h : ∀ v', rd_YS m c d p o v' → post (nI (rd_last (rd_fc m c d p o k) (d k))) v') : ∀ (e i y : Nat) (lf gv : Nat → Nat), i + e = d k → wY_greatestCost_26 post (nI k) (nI (c k)) (e + 1) (nI (rd_last (rd_fc m c d p o k) i)) (nI (i + 1)) (nI (rd_n m)) (rd_B m) (rd_A (rd_up c k y)) (rd_A d) (rd_A p) (rd_A o) (rd_A ro) (rd_A lf) (rd_A gv) := by
  obtain ⟨q0, q1, q2, q3⟩ := W.2.2.2 k hb
  intro e
  induction e with
  | zero =>
    intro i y lf gv hi
    have e : i = d k := by omega
    rw [e]
    refine ⟨rd_i hk, br_t ?_ ⟨rd_i hk, nm_r ((rd_s (x := c k) hk rfl).trans (by rw [rd_upup, rd_upid])) (h _ ⟨ro, lf, gv, rfl⟩)⟩⟩
    rw [rd_g hk]
    exact nI_lt (by omega) (by omega)
  | succ e ih =>
    intro i y lf gv hi
    refine ⟨rd_i hk, br_f ?_ ⟨rd_i hk, nm_r ((rd_s (x := i + 1) hk rfl).trans (by rw [rd_upup])) ?_⟩⟩
    · rw [rd_g hk]
      exact nI_nlt (by omega) (by omega)
    refine rd_yAP (rd_WFc (k := k) (x := i + 1) (rd_WFuo W H) (by omega) (by omega)) (fun lf gv => ?_)
    rw [rd_goodR H]
    have IH := ih (i + 1) (i + 1) lf gv (by omega)
    cases z : rd_good m (rd_up c k (i + 1)) d p o (rd_n m) with
    | true =>
      rw [rd_lastU (f := rd_fc m c d p o k) z] at IH
      exact br_f (by decide) (nm_r (nI_1 (i + 1)) IH)
    | false =>
      rw [rd_lastN (f := rd_fc m c d p o k) (rd_nft z)] at IH
      exact br_t rfl (nm_r (nI_1 (i + 1)) IH)
theorem rd_yGCK {post : Int32 → SY → Prop} {m k : Nat} {c d p o : Nat → Nat} {v : SY} (W : rd_WF m (rd_n m) c d p o) (V : rd_YS m c d p o v) (hk : k < 5) (hb : m.testBit k = true) (h : ∀ v', rd_YS m c d p o v' → post (nI (rd_last (rd_fc m c d p o k) (d k))) v') : wpY_greatestCost post v (nI k) := by
  obtain ⟨ro, lf, gv, rfl⟩ := V
  unfold wpY_greatestCost
  refine rd_yIsK hk hb (br_f (by decide) (rd_yUO (rd_n5 m W.1).1 (fun ro' H => ⟨rd_i hk, nm_r (rd_g hk) ?_⟩)))
  have a := rd_yGCl W H hk hb h (d k) 0 (c k) lf gv (Nat.zero_add _)
  rw [rd_upid] at a
  exact ⟨_, a⟩
theorem rd_yLPl {post : Int32 → SY → Prop} {m k : Nat} {c d p o ro : Nat → Nat} (W : rd_WF m (rd_n m) c d p o) (H : ∀ i, i < rd_n m → ro i = o i) (hk : k < 5) (hb : m.testBit k = true) (h : ∀ v', rd_YS m c d p o v' → post (nI (rd_frst (rd_fp m c d p o k) (16 - d k) (d k))) v') : ∀ (e y : Nat) (lf gv : Nat → Nat), d k + e ≤ 16 → wY_leastPeriod_27 post (nI k) (nI (p k)) (e + 1) (nI (rd_frst (rd_fp m c d p o k) (16 - (d k + e)) (d k + e))) (rd_p (d k + e)) (nI (rd_n m)) (rd_B m) (rd_A c) (rd_A d) (rd_A (rd_up p k y)) (rd_A o) (rd_A ro) (rd_A lf) (rd_A gv) := by
  obtain ⟨q0, q1, q2, q3⟩ := W.2.2.2 k hb
  intro e
  induction e with
  | zero =>
    intro y lf gv hi
    have ep : rd_p (d k + 0) = nI (d k - 1) := by
      rw [show d k + 0 = d k - 1 + 1 by omega]
      rfl
    rw [ep]
    refine ⟨rd_i hk, br_t ?_ ⟨rd_i hk, nm_r ((rd_s (x := p k) hk rfl).trans (by rw [rd_upup, rd_upid])) (h _ ⟨ro, lf, gv, rfl⟩)⟩⟩
    rw [rd_g hk]
    exact nI_lt (by omega) (by omega)
  | succ e ih =>
    intro y lf gv hi
    have ep : rd_p (d k + (e + 1)) = nI (d k + e) := rfl
    rw [ep]
    refine ⟨rd_i hk, br_f ?_ ⟨rd_i hk, nm_r ((rd_s (x := d k + e) hk rfl).trans (by rw [rd_upup])) ?_⟩⟩
    · rw [rd_g hk]
      exact nI_nlt (by omega) (by omega)
    refine rd_yAP (rd_WFp (k := k) (x := d k + e) (rd_WFuo W H) (by omega) (by omega)) (fun lf gv => ?_)
    rw [rd_goodR H]
    have IH := ih (d k + e) lf gv (by omega)
    rw [show 16 - (d k + e) = 16 - (d k + (e + 1)) + 1 by omega] at IH
    cases z : rd_good m c d (rd_up p k (d k + e)) o (rd_n m) with
    | true =>
      rw [rd_frstU (f := rd_fp m c d p o k) z] at IH
      exact br_f (by decide) (nm_r (rd_pm (d k + e)) IH)
    | false =>
      rw [rd_frstN (f := rd_fp m c d p o k) (rd_nft z)] at IH
      exact br_t rfl (nm_r (rd_pm (d k + e)) IH)
theorem rd_yLPK {post : Int32 → SY → Prop} {m k : Nat} {c d p o : Nat → Nat} {v : SY} (W : rd_WF m (rd_n m) c d p o) (V : rd_YS m c d p o v) (hk : k < 5) (hb : m.testBit k = true) (h : ∀ v', rd_YS m c d p o v' → post (nI (rd_frst (rd_fp m c d p o k) (16 - d k) (d k))) v') : wpY_leastPeriod post v (nI k) := by
  obtain ⟨ro, lf, gv, rfl⟩ := V
  obtain ⟨q0, q1, q2, q3⟩ := W.2.2.2 k hb
  unfold wpY_leastPeriod
  refine rd_yIsK hk hb (br_f (by decide) (rd_yUO (rd_n5 m W.1).1 (fun ro' H => ⟨rd_i hk, nm_r (rd_g hk) ?_⟩)))
  have a := rd_yLPl W H hk hb h (16 - d k) (p k) lf gv (by omega)
  rw [rd_upid, show d k + (16 - d k) = 16 by omega] at a
  exact ⟨_, a⟩
theorem rd_yIdN {post : Int32 → SY → Prop} {m : Nat} {c d p o : Nat → Nat} {v : SY} {x : Int32} (hm : m < 32) (V : rd_YS m c d p o v) (hx : x < 0) (h : ∀ v', rd_YS m c d p o v' → post 0 v') : wpY_idle post v x := by
  obtain ⟨ro, lf, gv, rfl⟩ := V
  unfold wpY_idle
  refine rd_yUO (rd_n5 m hm).1 (fun ro' H => rd_yST (fun lf gv _ => ⟨1, ?_⟩))
  exact br_f (by decide) (br_t (Int32.le_of_lt hx) (h _ ⟨ro', lf, gv, rfl⟩))
theorem rd_yIdl {post : Int32 → SY → Prop} {m a : Nat} {c d p o ro : Nat → Nat} (W : rd_WF m (rd_n m) c d p ro) (ha : a < 2 ^ 31) (h : ∀ v', rd_YS m c d p o v' → post (nI (rd_idle m c p ro (rd_n m) (rd_60 a))) v') : ∀ (e t : Nat) (lf gv : Nat → Nat), t + e = rd_60 a → rd_YI m c p ro (rd_n m) t lf gv → wY_idle_12 post (nI a) (e + 1) (nI (rd_idle m c p ro (rd_n m) t)) (nI t) (nI (rd_n m)) (rd_B m) (rd_A c) (rd_A d) (rd_A p) (rd_A o) (rd_A ro) (rd_A lf) (rd_A gv) := by
  have b60 : rd_60 a ≤ 60 ∧ rd_60 a ≤ a ∧ (rd_60 a = 60 ∨ rd_60 a = a) := by
    unfold rd_60
    by_cases z : a ≤ 60
    · rw [if_pos z]; omega
    · rw [if_neg z]; omega
  intro e
  induction e with
  | zero =>
    intro t lf gv ht H
    have e : t = rd_60 a := by omega
    have h' := h _ ⟨ro, lf, gv, rfl⟩
    rw [← e] at h'
    refine pk_le 60 t (fun _ => h') (fun z => br_t (nI_le (by omega) (by omega)) h')
  | succ e ih =>
    intro t lf gv ht H
    refine br_f (nI_ge (b := 60) (by omega) (by decide)) (br_f (nI_ge (by omega) ha) ?_)
    refine rd_yUn W (by omega) H (fun lf' gv' H' => ?_)
    have IH := ih (t + 1) lf' gv' (by omega) H'
    cases eo : rd_to m c p ro (rd_n m) t with
    | none =>
      have ei : rd_idle m c p ro (rd_n m) (t + 1) = rd_idle m c p ro (rd_n m) t + 1 := if_pos eo
      rw [ei] at IH
      exact br_f (by decide) (nm_r (nI_1 _) (nm_r (nI_1 t) IH))
    | some q =>
      have ei : rd_idle m c p ro (rd_n m) (t + 1) = rd_idle m c p ro (rd_n m) t := if_neg (by rw [eo]; exact nofun)
      rw [ei] at IH
      obtain ⟨_, i, hi, er⟩ := rd_toIn eo
      have hq : q < 5 := er ▸ (W.2.2.1.1 i hi).1
      exact br_t (nI_pos' (by omega)) (nm_r (nI_1 t) IH)
theorem rd_idleR {m n t : Nat} {c p row row' : Nat → Nat} (h : ∀ j, j < n → row j = row' j) : rd_idle m c p row n t = rd_idle m c p row' n t := by
  induction t with
  | zero => rfl
  | succ t ih =>
    show (if rd_to m c p row n t = none then rd_idle m c p row n t + 1 else rd_idle m c p row n t) = (if rd_to m c p row' n t = none then rd_idle m c p row' n t + 1 else rd_idle m c p row' n t)
    rw [rd_toR h, ih]
theorem rd_yIdK {post : Int32 → SY → Prop} {m a : Nat} {c d p o : Nat → Nat} {v : SY} (W : rd_WF m (rd_n m) c d p o) (V : rd_YS m c d p o v) (ha : a < 2 ^ 31) (h : ∀ v', rd_YS m c d p o v' → post (nI (rd_idle m c p o (rd_n m) (rd_60 a))) v') : wpY_idle post v (nI a) := by
  obtain ⟨ro, lf, gv, rfl⟩ := V
  unfold wpY_idle
  refine rd_yUO (rd_n5 m W.1).1 (fun ro' H => rd_yST (fun lf gv H0 => ?_))
  rw [← rd_idleR H] at h
  exact ⟨_, rd_yIdl (rd_WFuo W H) ha h (rd_60 a) 0 lf gv (Nat.zero_add _) (rd_YI0 H0)⟩
