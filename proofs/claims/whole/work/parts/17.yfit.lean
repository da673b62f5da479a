/-! ===== fits: the reference ===== -/
theorem rd_yFitB {post : Int32 → SY → Prop} {m : Nat} {c d p o : Nat → Nat} {v : SY} {x y z : Int32} (V : rd_YS m c d p o v) (hf : ¬ rd_fine x y z) (h : post 0 v) : wpY_fits post v x y z := by
  obtain ⟨ro, lf, gv, rfl⟩ := V
  unfold wpY_fits
  exact rd_yAddB ⟨ro, lf, gv, rfl⟩ hf (br_f (by decide) h)
theorem rd_yFitF {post : Int32 → SY → Prop} {m : Nat} {c d p o : Nat → Nat} {v : SY} {x y z : Int32} (W : rd_WF m (rd_n m) c d p o) (V : rd_YS m c d p o v) (hf : rd_fine x y z) (hn : rd_n m = 5) (h : post 0 v) : wpY_fits post v x y z := by
  obtain ⟨ro, lf, gv, rfl⟩ := V
  unfold wpY_fits
  exact rd_yAddF W ⟨ro, lf, gv, rfl⟩ hf hn (br_f (by decide) h)
theorem rd_yFitK {post : Int32 → SY → Prop} {m a b e : Nat} {c d p o : Nat → Nat} {v : SY} (W : rd_WF m (rd_n m) c d p o) (V : rd_YS m c d p o v) (h1 : 1 ≤ a) (h2 : a ≤ b) (h3 : b ≤ e) (h4 : e ≤ 15) (hn : rd_n m < 5) (h : ∀ v', rd_YS m (rd_up c (rd_fr m) a) (rd_up d (rd_fr m) b) (rd_up p (rd_fr m) e) (rd_up o (rd_n m) (rd_fr m)) v' → post (rd_b (rd_fv m a b e c d p)) v') : wpY_fits post v (nI a) (nI b) (nI e) := by
  obtain ⟨ro, lf, gv, rfl⟩ := V
  have hm := W.1
  obtain ⟨hk, hf⟩ := rd_fr1 m hm hn
  obtain ⟨g1, g2, g3, g4⟩ := rd_fitE (o := o) hm hn
  have W1 := rd_WFadd W hn h1 h2 h3 h4
  have bc := rd_cntB (rd_gc (m ||| 2 ^ rd_fr m) (rd_up c (rd_fr m) a) (rd_up d (rd_fr m) b) (rd_up p (rd_fr m) e)) (rd_fac (rd_n (m ||| 2 ^ rd_fr m)))
  have bf := (rd_facB (rd_n (m ||| 2 ^ rd_fr m)) (by have := (rd_n5 _ W1.1).1; omega)).1
  unfold wpY_fits
  refine rd_yAddK W ⟨ro, lf, gv, rfl⟩ h1 h2 h3 h4 hn (fun u1 U1 => ?_)
  obtain ⟨ro, lf, gv, rfl⟩ := U1
  refine br_t (nI_pos' (by omega)) ?_
  refine rd_yGO W1 ⟨ro, lf, gv, rfl⟩ (fun u2 U2 => ?_)
  obtain ⟨ro, lf, gv, rfl⟩ := U2
  refine pk_le (rd_cnt (rd_gc (m ||| 2 ^ rd_fr m) (rd_up c (rd_fr m) a) (rd_up d (rd_fr m) b) (rd_up p (rd_fr m) e)) (rd_fac (rd_n (m ||| 2 ^ rd_fr m)))) 0 (fun z => ?_) (fun z => ?_)
  · unfold wY_fits_28
    refine rd_yRemK W1 ⟨ro, lf, gv, rfl⟩ hk g3 g4 rd_us (fun u3 U3 => ?_)
    rw [g1, g2] at U3
    obtain ⟨ro, lf, gv, rfl⟩ := U3
    have h' := h _ ⟨ro, lf, gv, rfl⟩
    rw [rd_bf (fun y => by have := of_decide_eq_true y; omega)] at h'
    exact ⟨rfl, h'⟩
  · unfold wY_fits_28
    refine rd_yRemK W1 ⟨ro, lf, gv, rfl⟩ hk g3 g4 rd_us (fun u3 U3 => ?_)
    rw [g1, g2] at U3
    obtain ⟨ro, lf, gv, rfl⟩ := U3
    have h' := h _ ⟨ro, lf, gv, rfl⟩
    rw [rd_bt (x := rd_fv m a b e c d p) (decide_eq_true z)] at h'
    exact ⟨rfl, h'⟩
