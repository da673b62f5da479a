/-! ===== fits: the desk ===== -/
theorem rd_xFitB {post : Int32 → SX → Prop} {m : Nat} {c d p o : Nat → Nat} {u : SX} {x y z : Int32} (U : rd_XS m c d p o u) (hf : ¬ rd_fine x y z) (h : post 0 u) : wpX_fits post u x y z := by
  obtain ⟨tr, nx, wl, uh, fd, rfl⟩ := U
  unfold wpX_fits
  exact rd_xAddB ⟨tr, nx, wl, uh, fd, rfl⟩ hf (br_f (by decide) h)
theorem rd_xFitF {post : Int32 → SX → Prop} {m : Nat} {c d p o : Nat → Nat} {u : SX} {x y z : Int32} (U : rd_XS m c d p o u) (hf : rd_fine x y z) (hn : rd_n m = 5) (h : post 0 u) : wpX_fits post u x y z := by
  obtain ⟨tr, nx, wl, uh, fd, rfl⟩ := U
  unfold wpX_fits
  exact rd_xAddF ⟨tr, nx, wl, uh, fd, rfl⟩ hf hn (br_f (by decide) h)
theorem rd_xFitK {post : Int32 → SX → Prop} {m a b e : Nat} {c d p o : Nat → Nat} {u : SX} (W : rd_WF m (rd_n m) c d p o) (U : rd_XS m c d p o u) (h1 : 1 ≤ a) (h2 : a ≤ b) (h3 : b ≤ e) (h4 : e ≤ 15) (hn : rd_n m < 5) (h : ∀ u', rd_XS m (rd_up c (rd_fr m) a) (rd_up d (rd_fr m) b) (rd_up p (rd_fr m) e) (rd_up o (rd_n m) (rd_fr m)) u' → post (rd_b (rd_fv m a b e c d p)) u') : wpX_fits post u (nI a) (nI b) (nI e) := by
  obtain ⟨tr, nx, wl, uh, fd, rfl⟩ := U
  have hm := W.1
  obtain ⟨hk, hf⟩ := rd_fr1 m hm hn
  obtain ⟨g1, g2, g3, g4⟩ := rd_fitE (o := o) hm hn
  have W1 := rd_WFadd W hn h1 h2 h3 h4
  have bc := rd_cntB (rd_gc (m ||| 2 ^ rd_fr m) (rd_up c (rd_fr m) a) (rd_up d (rd_fr m) b) (rd_up p (rd_fr m) e)) (rd_fac (rd_n (m ||| 2 ^ rd_fr m)))
  have bf := (rd_facB (rd_n (m ||| 2 ^ rd_fr m)) (by have := (rd_n5 _ W1.1).1; omega)).1
  unfold wpX_fits
  refine rd_xAddK W ⟨tr, nx, wl, uh, fd, rfl⟩ h1 h2 h3 h4 hn (fun u1 U1 => ?_)
  obtain ⟨tr, nx, wl, uh, fd, rfl⟩ := U1
  refine br_t (nI_pos' (by omega)) ?_
  refine rd_xGO W1 ⟨tr, nx, wl, uh, fd, rfl⟩ (fun u2 U2 => ?_)
  obtain ⟨tr, nx, wl, uh, fd, rfl⟩ := U2
  refine pk_le (rd_cnt (rd_gc (m ||| 2 ^ rd_fr m) (rd_up c (rd_fr m) a) (rd_up d (rd_fr m) b) (rd_up p (rd_fr m) e)) (rd_fac (rd_n (m ||| 2 ^ rd_fr m)))) 0 (fun z => ?_) (fun z => ?_)
  · unfold wX_fits_28
    refine rd_xRemK W1 ⟨tr, nx, wl, uh, fd, rfl⟩ hk g3 g4 rd_us (fun u3 U3 => ?_)
    rw [g1, g2] at U3
    obtain ⟨tr, nx, wl, uh, fd, rfl⟩ := U3
    have h' := h _ ⟨tr, nx, wl, uh, fd, rfl⟩
    rw [rd_bf (fun y => by have := of_decide_eq_true y; omega)] at h'
    exact ⟨rfl, h'⟩
  · unfold wX_fits_28
    refine rd_xRemK W1 ⟨tr, nx, wl, uh, fd, rfl⟩ hk g3 g4 rd_us (fun u3 U3 => ?_)
    rw [g1, g2] at U3
    obtain ⟨tr, nx, wl, uh, fd, rfl⟩ := U3
    have h' := h _ ⟨tr, nx, wl, uh, fd, rfl⟩
    rw [rd_bt (x := rd_fv m a b e c d p) (decide_eq_true z)] at h'
    exact ⟨rfl, h'⟩
