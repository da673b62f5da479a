/-! ===== the relation, and what is owed ===== -/
def i_Rel (_ : Nat) (u : SX) (v : SY) : Prop := ∃ (m : Nat) (c d p o : Nat → Nat), rd_WF m (rd_n m) c d p o ∧ rd_XS m c d p o u ∧ rd_YS m c d p o v
theorem i_up {k : Nat} {u : SX} {v : SY} (h : i_Rel k u v) : i_Rel (k + 4) u v := h
theorem rd_WF0 : rd_WF 0 (rd_n 0) (fun _ => 0) (fun _ => 0) (fun _ => 0) (fun _ => 0) := by
  refine ⟨by decide, rfl, ⟨fun i hi => absurd hi (Nat.not_lt_zero i), fun i hi => absurd hi (Nat.not_lt_zero i), fun k _ hb => ?_⟩, fun k hb => ?_⟩
  · rw [Nat.zero_testBit] at hb
    exact nomatch hb
  · rw [Nat.zero_testBit] at hb
    exact nomatch hb
theorem rd_Bz : (fun _ => 0 : Nat → Int32) = rd_B 0 := by
  funext k
  show 0 = if (0 : Nat).testBit k = true then (1 : Int32) else 0
  rw [Nat.zero_testBit]
  rfl
theorem i_vc0 : wpX_init (fun u => wpY_init (fun v => i_Rel 0 u v)) := by
  refine ⟨0, fun _ => 0, fun _ => 0, fun _ => 0, fun _ => 0, rd_WF0, ⟨fun _ => 0, fun _ => 0, fun _ => 0, fun _ => 0, fun _ => 0, rfl⟩, ⟨fun _ => 0, fun _ => 0, fun _ => 0, ?_⟩⟩
  rw [← rd_Bz]
  rfl
theorem i_vc_add {k : Nat} {u : SX} {v : SY} (I : i_Rel k u v) (hk : k + 4 ≤ 2048) (v1 : Int32) (v2 : Int32) (v3 : Int32) : wpX_add (fun r u' => wpY_add (fun r' v' => r' = r ∧ i_Rel (k + 4) u' v') v v1 v2 v3) u v1 v2 v3 := by
  obtain ⟨m, c, d, p, o, W, U, V⟩ := I
  by_cases hf : rd_fine v1 v2 v3
  · rcases Nat.lt_or_ge (rd_n m) 5 with hn | hn
    · obtain ⟨a, b, e, rfl, rfl, rfl, h1, h2, h3, h4⟩ := rd_fineN hf
      exact rd_xAddK W U h1 h2 h3 h4 hn (fun u' U' => rd_yAddK W V h1 h2 h3 h4 hn (fun v' V' => ⟨rfl, _, _, _, _, _, rd_WFadd W hn h1 h2 h3 h4, U', V'⟩))
    · have e5 : rd_n m = 5 := Nat.le_antisymm (rd_n5 m W.1).1 hn
      exact rd_xAddF U hf e5 (rd_yAddF W V hf e5 ⟨rfl, m, c, d, p, o, W, U, V⟩)
  · exact rd_xAddB U hf (rd_yAddB V hf ⟨rfl, m, c, d, p, o, W, U, V⟩)
theorem i_vc_remove {k : Nat} {u : SX} {v : SY} (I : i_Rel k u v) (hk : k + 4 ≤ 2048) (v1 : Int32) : wpX_remove (fun r u' => wpY_remove (fun r' v' => r' = r ∧ i_Rel (k + 4) u' v') v v1) u v1 := by
  obtain ⟨m, c, d, p, o, W, U, V⟩ := I
  rcases rd_Tem m v1 with ⟨q, hq, rfl, hb⟩ | hx
  · obtain ⟨j, hj, ej, _⟩ := rd_pos W.2.2.1 hq hb
    exact rd_xRemK W U hq hb hj ej (fun u' U' => rd_yRemK W V hq hb hj ej (fun v' V' => ⟨rfl, _, _, _, _, _, rd_WFrem W hq hb hj ej, U', V'⟩))
  · exact rd_xRemN W.1 U hx (rd_yRemN V hx ⟨rfl, m, c, d, p, o, W, U, V⟩)
theorem i_vc_place {k : Nat} {u : SX} {v : SY} (I : i_Rel k u v) (hk : k + 4 ≤ 2048) (v1 : Int32) (v2 : Int32) : wpX_place (fun r u' => wpY_place (fun r' v' => r' = r ∧ i_Rel (k + 4) u' v') v v1 v2) u v1 v2 := by
  obtain ⟨m, c, d, p, o, W, U, V⟩ := I
  rcases rd_Tem m v1 with ⟨q, hq, rfl, hb⟩ | hx
  · rcases rd_Pem (rd_n m) (rd_n5 m W.1).1 v2 with ⟨i, hi, rfl⟩ | hy
    · obtain ⟨j, hj, ej, _⟩ := rd_pos W.2.2.1 hq hb
      exact rd_xPlaK W U hq hb hj ej hi (fun u' U' => rd_yPlaK W V hq hb hj ej hi (fun v' V' => ⟨rfl, _, _, _, _, _, rd_WFpla W hq hb hj ej hi, U', V'⟩))
    · exact rd_xPlaN W.1 U (Or.inr hy) (rd_yPlaN W.1 V (Or.inr hy) ⟨rfl, m, c, d, p, o, W, U, V⟩)
  · exact rd_xPlaN W.1 U (Or.inl hx) (rd_yPlaN W.1 V (Or.inl hx) ⟨rfl, m, c, d, p, o, W, U, V⟩)
theorem i_vc_tasks {k : Nat} {u : SX} {v : SY} (I : i_Rel k u v) (hk : k + 4 ≤ 2048) : wpX_tasks (fun r => wpY_tasks (fun r' => r' = r ∧ i_Rel (k + 4) u v) v) u := by
  obtain ⟨m, c, d, p, o, W, U, V⟩ := I
  exact rd_xTsk U (rd_yTsk W.1 V ⟨rfl, m, c, d, p, o, W, U, V⟩)
theorem i_vc_at {k : Nat} {u : SX} {v : SY} (I : i_Rel k u v) (hk : k + 4 ≤ 2048) (v1 : Int32) : wpX_at (fun r => wpY_at (fun r' => r' = r ∧ i_Rel (k + 4) u v) v v1) u v1 := by
  obtain ⟨m, c, d, p, o, W, U, V⟩ := I
  rcases rd_Pem (rd_n m) (rd_n5 m W.1).1 v1 with ⟨i, hi, rfl⟩ | hy
  · exact rd_xAtK W.1 U hi (rd_yAtK W.1 V hi ⟨rfl, m, c, d, p, o, W, U, V⟩)
  · exact rd_xAtN W.1 U hy (rd_yAtN W.1 V hy ⟨rfl, m, c, d, p, o, W, U, V⟩)
theorem i_vc_response {k : Nat} {u : SX} {v : SY} (I : i_Rel k u v) (hk : k + 4 ≤ 2048) (v1 : Int32) : wpX_response (fun r u' => wpY_response (fun r' v' => r' = r ∧ i_Rel (k + 4) u' v') v v1) u v1 := by
  obtain ⟨m, c, d, p, o, W, U, V⟩ := I
  rcases rd_Tem m v1 with ⟨q, hq, rfl, hb⟩ | hx
  · exact rd_xResK W U hq hb (fun u' U' => rd_yResK W V hq hb (fun v' V' => ⟨rfl, m, c, d, p, o, W, U', V'⟩))
  · exact rd_xResN W.1 U hx (rd_yResN W.1 V hx (fun v' V' => ⟨rfl, m, c, d, p, o, W, U, V'⟩))
theorem i_vc_good {k : Nat} {u : SX} {v : SY} (I : i_Rel k u v) (hk : k + 4 ≤ 2048) : wpX_good (fun r u' => wpY_good (fun r' v' => r' = r ∧ i_Rel (k + 4) u' v') v) u := by
  obtain ⟨m, c, d, p, o, W, U, V⟩ := I
  exact rd_xGood W U (fun u' U' => rd_yGood W V (fun v' V' => ⟨rfl, m, c, d, p, o, W, U', V'⟩))
theorem i_vc_inTime {k : Nat} {u : SX} {v : SY} (I : i_Rel k u v) (hk : k + 4 ≤ 2048) : wpX_inTime (fun r u' => wpY_inTime (fun r' v' => r' = r ∧ i_Rel (k + 4) u' v') v) u := by
  obtain ⟨m, c, d, p, o, W, U, V⟩ := I
  exact rd_xInT W U (fun u' U' => rd_yInT W V (fun v' V' => ⟨rfl, m, c, d, p, o, W, U', V'⟩))
theorem i_vc_goodOrders {k : Nat} {u : SX} {v : SY} (I : i_Rel k u v) (hk : k + 4 ≤ 2048) : wpX_goodOrders (fun r u' => wpY_goodOrders (fun r' v' => r' = r ∧ i_Rel (k + 4) u' v') v) u := by
  obtain ⟨m, c, d, p, o, W, U, V⟩ := I
  exact rd_xGO W U (fun u' U' => rd_yGO W V (fun v' V' => ⟨rfl, m, c, d, p, o, W, U', V'⟩))
theorem rd_WFarr {m e : Nat} {c d p o : Nat → Nat} (W : rd_WF m (rd_n m) c d p o) (he : e < rd_fac (rd_n m)) : rd_WF m (rd_n m) c d p (rd_cp o (rd_pe m e) (rd_n m)) := rd_WFrow W he (fun i hi => rd_cpI hi)
theorem i_vc_arrange {k : Nat} {u : SX} {v : SY} (I : i_Rel k u v) (hk : k + 4 ≤ 2048) : wpX_arrange (fun r u' => wpY_arrange (fun r' v' => r' = r ∧ i_Rel (k + 4) u' v') v) u := by
  obtain ⟨m, c, d, p, o, W, U, V⟩ := I
  refine rd_xArr W U (fun e u' he ge le U' => ?_) (fun no u' U' => ?_)
  · refine rd_yArr W V (fun e' v' he' ge' le' V' => ?_) (fun no v' V' => ?_)
    · have ee : e' = e := by
        rcases Nat.lt_trichotomy e' e with q | q | q
        · have := le e' q
          rw [ge'] at this
          exact nomatch this
        · exact q
        · have := le' e q
          rw [ge] at this
          exact nomatch this
      subst ee
      exact ⟨rfl, _, _, _, _, _, rd_WFarr W he, U', V'⟩
    · have := no e he
      rw [ge] at this
      exact nomatch this
  · refine rd_yArr W V (fun e' v' he' ge' le' V' => ?_) (fun _ v' V' => ⟨rfl, m, c, d, p, o, W, U', V'⟩)
    have := no e' he'
    rw [ge'] at this
    exact nomatch this
theorem i_vc_canBeLast {k : Nat} {u : SX} {v : SY} (I : i_Rel k u v) (hk : k + 4 ≤ 2048) : wpX_canBeLast (fun r u' => wpY_canBeLast (fun r' v' => r' = r ∧ i_Rel (k + 4) u' v') v) u := by
  obtain ⟨m, c, d, p, o, W, U, V⟩ := I
  exact rd_xCBL W U (fun u' U' => rd_yCBL W V (fun v' V' => ⟨rfl, m, c, d, p, o, W, U', V'⟩))
theorem i_vc_greatestCost {k : Nat} {u : SX} {v : SY} (I : i_Rel k u v) (hk : k + 4 ≤ 2048) (v1 : Int32) : wpX_greatestCost (fun r u' => wpY_greatestCost (fun r' v' => r' = r ∧ i_Rel (k + 4) u' v') v v1) u v1 := by
  obtain ⟨m, c, d, p, o, W, U, V⟩ := I
  rcases rd_Tem m v1 with ⟨q, hq, rfl, hb⟩ | hx
  · exact rd_xGCK W U hq hb (fun u' U' => rd_yGCK W V hq hb (fun v' V' => ⟨rfl, m, c, d, p, o, W, U', V'⟩))
  · exact rd_xGCN W.1 U hx (rd_yGCN V hx ⟨rfl, m, c, d, p, o, W, U, V⟩)
theorem i_vc_leastPeriod {k : Nat} {u : SX} {v : SY} (I : i_Rel k u v) (hk : k + 4 ≤ 2048) (v1 : Int32) : wpX_leastPeriod (fun r u' => wpY_leastPeriod (fun r' v' => r' = r ∧ i_Rel (k + 4) u' v') v v1) u v1 := by
  obtain ⟨m, c, d, p, o, W, U, V⟩ := I
  rcases rd_Tem m v1 with ⟨q, hq, rfl, hb⟩ | hx
  · exact rd_xLPK W U hq hb (fun u' U' => rd_yLPK W V hq hb (fun v' V' => ⟨rfl, m, c, d, p, o, W, U', V'⟩))
  · exact rd_xLPN W.1 U hx (rd_yLPN V hx ⟨rfl, m, c, d, p, o, W, U, V⟩)
theorem i_vc_idle {k : Nat} {u : SX} {v : SY} (I : i_Rel k u v) (hk : k + 4 ≤ 2048) (v1 : Int32) : wpX_idle (fun r u' => wpY_idle (fun r' v' => r' = r ∧ i_Rel (k + 4) u' v') v v1) u v1 := by
  obtain ⟨m, c, d, p, o, W, U, V⟩ := I
  by_cases hx : v1 < 0
  · exact rd_xIdN U hx (fun u' U' => rd_yIdN W.1 V hx (fun v' V' => ⟨rfl, m, c, d, p, o, W, U', V'⟩))
  · obtain ⟨a, ha, rfl⟩ := nI_of hx
    exact rd_xIdK W U ha (fun u' U' => rd_yIdK W V ha (fun v' V' => ⟨rfl, m, c, d, p, o, W, U', V'⟩))
theorem i_vc_fits {k : Nat} {u : SX} {v : SY} (I : i_Rel k u v) (hk : k + 4 ≤ 2048) (v1 : Int32) (v2 : Int32) (v3 : Int32) : wpX_fits (fun r u' => wpY_fits (fun r' v' => r' = r ∧ i_Rel (k + 4) u' v') v v1 v2 v3) u v1 v2 v3 := by
  obtain ⟨m, c, d, p, o, W, U, V⟩ := I
  by_cases hf : rd_fine v1 v2 v3
  · rcases Nat.lt_or_ge (rd_n m) 5 with hn | hn
    · obtain ⟨a, b, e, rfl, rfl, rfl, h1, h2, h3, h4⟩ := rd_fineN hf
      exact rd_xFitK W U h1 h2 h3 h4 hn (fun u' U' => rd_yFitK W V h1 h2 h3 h4 hn (fun v' V' => ⟨rfl, _, _, _, _, _, rd_WFfit W hn, U', V'⟩))
    · have e5 : rd_n m = 5 := Nat.le_antisymm (rd_n5 m W.1).1 hn
      exact rd_xFitF U hf e5 (rd_yFitF W V hf e5 ⟨rfl, m, c, d, p, o, W, U, V⟩)
  · exact rd_xFitB U hf (rd_yFitB V hf ⟨rfl, m, c, d, p, o, W, U, V⟩)
