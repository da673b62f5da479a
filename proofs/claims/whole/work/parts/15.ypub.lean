/-! ===== the reference: its calls ===== -/
theorem rd_yIsK {post : Int32 → Prop} {m n k : Nat} {c d p o ro lf gv : Nat → Nat} (hk : k < 5) (hb : m.testBit k = true) (h : post 1) : wpY_is post (nI n, rd_B m, rd_A c, rd_A d, rd_A p, rd_A o, rd_A ro, rd_A lf, rd_A gv) (nI k) :=
  rd_yIs (nI k) (fun _ _ _ _ => h) (fun z => by have := z k hk rfl; rw [hb] at this; exact nomatch this)
theorem rd_yIsN {post : Int32 → Prop} {m n : Nat} {c d p o ro lf gv : Nat → Nat} {x : Int32} (hx : ∀ j, j < 5 → x = nI j → m.testBit j = false) (h : post 0) : wpY_is post (nI n, rd_B m, rd_A c, rd_A d, rd_A p, rd_A o, rd_A ro, rd_A lf, rd_A gv) x :=
  rd_yIs x (fun j hj e z => by rw [hx j hj e] at z; exact nomatch z) (fun _ => h)
theorem rd_yFiB {post : Int32 → Prop} {m n : Nat} {c d p o ro lf gv : Nat → Nat} {x y z : Int32} (hf : ¬ rd_fine x y z) (h : post 0) : wpY_fine post (nI n, rd_B m, rd_A c, rd_A d, rd_A p, rd_A o, rd_A ro, rd_A lf, rd_A gv) x y z := by
  by_cases h1 : 1 ≤ x
  · by_cases h2 : x ≤ y
    · by_cases h3 : y ≤ z
      · by_cases h4 : z ≤ 15
        · exact absurd ⟨h1, h2, h3, h4⟩ hf
        · exact br_f (rd_nlt h1) (br_f (rd_nlt h2) (br_f (rd_nlt h3) (br_t (Int32.not_le.mp h4) h)))
      · exact br_f (rd_nlt h1) (br_f (rd_nlt h2) (br_t (Int32.not_le.mp h3) h))
    · exact br_f (rd_nlt h1) (br_t (Int32.not_le.mp h2) h)
  · exact br_t (Int32.not_le.mp h1) h
theorem rd_yFiK {post : Int32 → Prop} {m n : Nat} {c d p o ro lf gv : Nat → Nat} {x y z : Int32} (hf : rd_fine x y z) (h : post 1) : wpY_fine post (nI n, rd_B m, rd_A c, rd_A d, rd_A p, rd_A o, rd_A ro, rd_A lf, rd_A gv) x y z := by
  obtain ⟨h1, h2, h3, h4⟩ := hf
  exact br_f (rd_nlt h1) (br_f (rd_nlt h2) (br_f (rd_nlt h3) (br_f (rd_nlt h4) h)))
theorem rd_yAddB {post : Int32 → SY → Prop} {m : Nat} {c d p o : Nat → Nat} {v : SY} {x y z : Int32} (V : rd_YS m c d p o v) (hf : ¬ rd_fine x y z) (h : post (-1) v) : wpY_add post v x y z := by
  obtain ⟨ro, lf, gv, rfl⟩ := V
  unfold wpY_add
  exact rd_yFiB hf (br_t rfl h)
theorem rd_yAddFl {post : Int32 → SY → Prop} {n : Nat} {c d p o ro lf gv : Nat → Nat} {x y z : Int32} (h : post (-2) (nI n, rd_B 31, rd_A c, rd_A d, rd_A p, rd_A o, rd_A ro, rd_A lf, rd_A gv)) : ∀ (e k : Nat), k + e = 5 → wY_add_15 post x y z (nI n) (rd_B 31) (rd_A c) (rd_A d) (rd_A p) (rd_A o) (rd_A ro) (rd_A lf) (rd_A gv) (e + 1) (nI k) := by
  intro e
  induction e with
  | zero =>
    intro k hk
    exact br_t (nI_le (a := 5) (by omega) (by omega)) h
  | succ e ih =>
    intro k hk
    have hk5 : k < 5 := by omega
    refine br_f (nI_ge (b := 5) hk5 (by decide)) ⟨rd_i hk5, rd_Bc hk5 (fun z => ?_) (fun z => nm_r (nI_1 k) (ih (k + 1) (by omega)))⟩
    rw [rd_31 k hk5] at z
    exact nomatch z
theorem rd_yAddF {post : Int32 → SY → Prop} {m : Nat} {c d p o : Nat → Nat} {v : SY} {x y z : Int32} (W : rd_WF m (rd_n m) c d p o) (V : rd_YS m c d p o v) (hf : rd_fine x y z) (hn : rd_n m = 5) (h : post (-2) v) : wpY_add post v x y z := by
  obtain ⟨ro, lf, gv, rfl⟩ := V
  have e31 := (rd_n5 m W.1).2 hn
  subst e31
  unfold wpY_add
  exact rd_yFiK hf (br_f (by decide) ⟨6, rd_yAddFl h 5 0 rfl⟩)
theorem rd_yAddKl {post : Int32 → SY → Prop} {m a b e : Nat} {c d p o ro lf gv : Nat → Nat} (W : rd_WF m (rd_n m) c d p o) (hn : rd_n m < 5) (h : ∀ u', rd_YS (m ||| 2 ^ rd_fr m) (rd_up c (rd_fr m) a) (rd_up d (rd_fr m) b) (rd_up p (rd_fr m) e) (rd_up o (rd_n m) (rd_fr m)) u' → post (nI (rd_fr m)) u') : ∀ (q k : Nat), k + q = rd_fr m → wY_add_15 post (nI a) (nI b) (nI e) (nI (rd_n m)) (rd_B m) (rd_A c) (rd_A d) (rd_A p) (rd_A o) (rd_A ro) (rd_A lf) (rd_A gv) (q + 1) (nI k) := by
  have hm := W.1
  obtain ⟨hk, hf⟩ := rd_fr1 m hm hn
  have e2 := rd_nor m hm _ hk hf
  intro q
  induction q with
  | zero =>
    intro k hq
    have ek : k = rd_fr m := by omega
    rw [ek]
    refine br_f (nI_ge (b := 5) hk (by decide)) ⟨rd_i hk, rd_Bc hk (fun _ => ?_) (fun z => ?_)⟩
    · refine ⟨rd_i hk, nm_r (e' := rd_B (m ||| 2 ^ rd_fr m)) ?_ ⟨rd_i hk, nm_r (rd_s hk rfl) ⟨rd_i hk, nm_r (rd_s hk rfl) ⟨rd_i hk, nm_r (rd_s hk rfl) ⟨rd_i hn, nm_r (rd_s hn rfl) (nm_r (nI_1 _) (h _ ⟨ro, lf, gv, ?_⟩))⟩⟩⟩⟩⟩
      · rw [rd_vb1, nI_clamp (by omega)]
        exact rd_Bor hm hk
      · rw [e2]
    · rw [hf] at z
      exact nomatch z
  | succ q ih =>
    intro k hq
    have hk5 : k < 5 := by omega
    refine br_f (nI_ge (b := 5) hk5 (by decide)) ⟨rd_i hk5, rd_Bc hk5 (fun z => ?_) (fun z => nm_r (nI_1 k) (ih (k + 1) (by omega)))⟩
    rw [rd_fr2 m hm k (by omega)] at z
    exact nomatch z
theorem rd_yAddK {post : Int32 → SY → Prop} {m a b e : Nat} {c d p o : Nat → Nat} {v : SY} (W : rd_WF m (rd_n m) c d p o) (V : rd_YS m c d p o v) (h1 : 1 ≤ a) (h2 : a ≤ b) (h3 : b ≤ e) (h4 : e ≤ 15) (hn : rd_n m < 5) (h : ∀ u', rd_YS (m ||| 2 ^ rd_fr m) (rd_up c (rd_fr m) a) (rd_up d (rd_fr m) b) (rd_up p (rd_fr m) e) (rd_up o (rd_n m) (rd_fr m)) u' → post (nI (rd_fr m)) u') : wpY_add post v (nI a) (nI b) (nI e) := by
  obtain ⟨ro, lf, gv, rfl⟩ := V
  unfold wpY_add
  exact rd_yFiK (rd_Nfine h1 h2 h3 h4) (br_f (by decide) ⟨_, rd_yAddKl W hn h (rd_fr m) 0 (Nat.zero_add _)⟩)
theorem rd_yRemN {post : Int32 → SY → Prop} {m : Nat} {c d p o : Nat → Nat} {v : SY} {x : Int32} (V : rd_YS m c d p o v) (hx : ∀ j, j < 5 → x = nI j → m.testBit j = false) (h : post 0 v) : wpY_remove post v x := by
  obtain ⟨ro, lf, gv, rfl⟩ := V
  unfold wpY_remove
  exact rd_yIsN hx (br_t rfl h)
theorem rd_yRemK {post : Int32 → SY → Prop} {m j k : Nat} {c d p o : Nat → Nat} {v : SY} (W : rd_WF m (rd_n m) c d p o) (V : rd_YS m c d p o v) (hk : k < 5) (hb : m.testBit k = true) (hj : j < rd_n m) (ej : o j = k) (h : ∀ u', rd_YS (rd_cl m k) c d p (rd_take o (rd_n m) j) u' → post 1 u') : wpY_remove post v (nI k) := by
  obtain ⟨ro, lf, gv, rfl⟩ := V
  obtain ⟨hm, _, hR, hN⟩ := W
  have hn5 := (rd_n5 m hm).1
  have en := rd_ncl m hm k hk hb
  unfold wpY_remove
  refine rd_yIsK hk hb (br_f (by decide) ?_)
  refine rd_yFi hn5 hj hk (fun i hi => (hR.1 i hi).1) ej (fun i hi ne e => ne (hR.2.1 i hi j hj (e.trans ej.symm))) ?_
  refine rd_yTO hn5 hj ⟨rd_i hk, nm_r (e' := rd_B (rd_cl m k)) ?_ (h _ ⟨ro, lf, gv, ?_⟩)⟩
  · rw [rd_vb0, nI_clamp (by omega)]
    exact rd_Bcl hm hk
  · rw [show rd_n m - 1 = rd_n (rd_cl m k) by omega]
theorem rd_yPlaN {post : Int32 → SY → Prop} {m : Nat} {c d p o : Nat → Nat} {v : SY} {x y : Int32} (hm : m < 32) (V : rd_YS m c d p o v) (hx : (∀ j, j < 5 → x = nI j → m.testBit j = false) ∨ (∀ j, j < rd_n m → ¬ y = nI j)) (h : post 0 v) : wpY_place post v x y := by
  obtain ⟨ro, lf, gv, rfl⟩ := V
  have hn5 := (rd_n5 m hm).1
  unfold wpY_place
  rcases rd_Tem m x with ⟨q, hq, rfl, hb⟩ | hx'
  · rcases hx with hx | hy
    · have := hx q hq rfl
      rw [hb] at this
      exact nomatch this
    · refine rd_yIsK hq hb (br_f (by decide) ?_)
      rcases pk_ix y (n := rd_n m) (by omega) with g | g | ⟨j, hj, e⟩
      · exact br_t g h
      · exact br_f (rd_nlt (Int32.le_trans (nI_pos' (by omega)) g)) (br_f (rd_nlt g) h)
      · exact absurd e (hy j hj)
  · exact rd_yIsN hx' (br_t rfl h)
theorem rd_yTskl {post : Int32 → Prop} {m n : Nat} {c d p o ro lf gv : Nat → Nat} (hm : m < 32) (h : post (nI m)) : ∀ (e k : Nat), k + e = 5 → wY_tasks_4 post (nI n) (rd_B m) (rd_A c) (rd_A d) (rd_A p) (rd_A o) (rd_A ro) (rd_A lf) (rd_A gv) (e + 1) (nI (rd_ms m k)) (nI k) := by
  intro e
  induction e with
  | zero =>
    intro k hk
    have ek : k = 5 := by omega
    subst ek
    rw [rd_ms5 m hm]
    exact br_t (nI_le (a := 5) (Nat.le_refl _) (by decide)) h
  | succ e ih =>
    intro k hk
    have hk5 : k < 5 := by omega
    have IH := ih (k + 1) (by omega)
    refine br_f (nI_ge (b := 5) hk5 (by decide)) ⟨rd_i hk5, rd_Bc hk5 (fun z => ?_) (fun z => ?_)⟩
    · have a : rd_ms m (k + 1) = rd_ms m k := if_neg (rd_nft z)
      rw [a] at IH
      exact nm_r (nI_1 k) IH
    · have a : rd_ms m (k + 1) = rd_ms m k ||| 2 ^ k := if_pos z
      rw [a] at IH
      exact nm_r (rd_or _ (rd_msL m hm k (by omega)) k hk5) (nm_r (nI_1 k) IH)
theorem rd_yTsk {post : Int32 → Prop} {m : Nat} {c d p o : Nat → Nat} {v : SY} (hm : m < 32) (V : rd_YS m c d p o v) (h : post (nI m)) : wpY_tasks post v := by
  obtain ⟨ro, lf, gv, rfl⟩ := V
  exact ⟨6, rd_yTskl hm h 5 0 rfl⟩
theorem rd_yAtK {post : Int32 → Prop} {m i : Nat} {c d p o : Nat → Nat} {v : SY} (hm : m < 32) (V : rd_YS m c d p o v) (hi : i < rd_n m) (h : post (nI (o i))) : wpY_at post v (nI i) := by
  obtain ⟨ro, lf, gv, rfl⟩ := V
  have hn5 := (rd_n5 m hm).1
  refine br_f (nI_pos (by omega)) (br_f (nI_ge hi (by omega)) ⟨rd_i (by omega), ?_⟩)
  rw [rd_g (by omega)]
  exact h
theorem rd_yAtN {post : Int32 → Prop} {m : Nat} {c d p o : Nat → Nat} {v : SY} {x : Int32} (hm : m < 32) (V : rd_YS m c d p o v) (hx : ∀ j, j < rd_n m → ¬ x = nI j) (h : post (-1)) : wpY_at post v x := by
  obtain ⟨ro, lf, gv, rfl⟩ := V
  have hn5 := (rd_n5 m hm).1
  rcases pk_ix x (n := rd_n m) (by omega) with g | g | ⟨j, hj, e⟩
  · exact br_t g h
  · exact br_f (rd_nlt (Int32.le_trans (nI_pos' (by omega)) g)) (br_t g h)
  · exact absurd e (hx j hj)
theorem rd_WFuo {m n : Nat} {c d p o ro : Nat → Nat} (W : rd_WF m n c d p o) (h : ∀ i, i < n → ro i = o i) : rd_WF m n c d p ro := ⟨W.1, W.2.1, rd_RowC (fun i hi => (h i hi).symm) W.2.2.1, W.2.2.2⟩
theorem rd_yResN {post : Int32 → SY → Prop} {m : Nat} {c d p o : Nat → Nat} {v : SY} {x : Int32} (hm : m < 32) (V : rd_YS m c d p o v) (hx : ∀ j, j < 5 → x = nI j → m.testBit j = false) (h : ∀ v', rd_YS m c d p o v' → post (-1) v') : wpY_response post v x := by
  obtain ⟨ro, lf, gv, rfl⟩ := V
  unfold wpY_response
  refine rd_yUO (rd_n5 m hm).1 (fun ro' H => ?_)
  exact rd_yIsN hx (br_t rfl (h _ ⟨ro', lf, gv, rfl⟩))
theorem rd_yResK {post : Int32 → SY → Prop} {m k : Nat} {c d p o : Nat → Nat} {v : SY} (W : rd_WF m (rd_n m) c d p o) (V : rd_YS m c d p o v) (hk : k < 5) (hb : m.testBit k = true) (h : ∀ v', rd_YS m c d p o v' → post (rd_R (rd_fd m c p o (rd_n m) 15 k) (p k)) v') : wpY_response post v (nI k) := by
  obtain ⟨ro, lf, gv, rfl⟩ := V
  unfold wpY_response
  refine rd_yUO (rd_n5 m W.1).1 (fun ro' H => ?_)
  refine rd_yIsK hk hb (br_f (by decide) (rd_yRO (rd_WFuo W H) hk hb (fun lf gv => ?_)))
  rw [rd_fdR H]
  exact h _ ⟨ro', lf, gv, rfl⟩
theorem rd_yGood {post : Int32 → SY → Prop} {m : Nat} {c d p o : Nat → Nat} {v : SY} (W : rd_WF m (rd_n m) c d p o) (V : rd_YS m c d p o v) (h : ∀ v', rd_YS m c d p o v' → post (rd_b (rd_good m c d p o (rd_n m))) v') : wpY_good post v := by
  obtain ⟨ro, lf, gv, rfl⟩ := V
  unfold wpY_good
  refine rd_yUO (rd_n5 m W.1).1 (fun ro' H => ?_)
  refine rd_yAP (rd_WFuo W H) (fun lf gv => ?_)
  rw [rd_goodR H]
  exact ⟨rd_nb _, h _ ⟨ro', lf, gv, rfl⟩⟩
