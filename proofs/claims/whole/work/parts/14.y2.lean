/-! ===== the reference: a unit, a response ===== -/
theorem rd_yUnl {post : Int32 → SY → Prop} {m n t : Nat} {c d p o ro gv : Nat → Nat} (W : rd_WF m n c d p ro) (ht : t ≤ 60) (H0 : ∀ k, k < 5 → m.testBit k = true → gv k = (rd_sim m c p ro n t).2 k) (h : ∀ lf' gv' : Nat → Nat, rd_YI m c p ro n (t + 1) lf' gv' → post (rd_o (rd_to m c p ro n t)) (nI n, rd_B m, rd_A c, rd_A d, rd_A p, rd_A o, rd_A ro, rd_A lf', rd_A gv')) : ∀ (q : Nat) (lf : Nat → Nat), q ≤ n → rd_UI (rd_sim m c p ro n t).1 (rd_J m c p ro n t) ro n q lf → wY_unit_9 post (nI t) (nI n) (q + 1) (rd_o (rd_who ro (rd_J m c p ro n t) (n - q) q)) (rd_p q) (rd_B m) (rd_A c) (rd_A d) (rd_A p) (rd_A o) (rd_A ro) (rd_A lf) (rd_A gv) := by
  obtain ⟨hm, hn, hR, hN⟩ := W
  have hn5 : n ≤ 5 := hn ▸ (rd_n5 m hm).1
  have hc := rd_numC hN
  have bJ : ∀ k, rd_J m c p ro n t k ≤ 15 * t + 15 := rd_bndJ hc (rd_bndL hc t)
  intro q
  induction q with
  | zero =>
    intro lf hq H
    have hl := rd_UIe hR H
    have ez : rd_who ro (rd_J m c p ro n t) (n - 0) 0 = rd_to m c p ro n t := rfl
    refine br_t rd_m1l ?_
    rw [ez]
    have HY : rd_YI m c p ro n t (rd_sim m c p ro n t).1 gv := fun k hk hb => ⟨rfl, H0 k hk hb⟩
    cases eo : rd_to m c p ro n t with
    | none =>
      have h' := h lf gv (rd_YIN HY hl eo)
      rw [eo] at h'
      exact br_t rd_m1l h'
    | some k =>
      obtain ⟨hJ, i, hi, er⟩ := rd_toIn eo
      have hk : k < 5 := er ▸ (hR.1 i hi).1
      have hkb : m.testBit k = true := er ▸ (hR.1 i hi).2
      have hlk := hl k hk hkb
      have h' := h _ _ (rd_YIS HY hl eo)
      rw [eo] at h'
      have e1 : nI (lf k) - 1 = nI (lf k - 1) := by
        rw [show lf k = (lf k - 1) + 1 by omega, nI_pred]
        rfl
      exact br_f (nI_pos (by omega)) ⟨rd_i hk, ⟨rd_i hk, nm_r (rd_s (x := lf k - 1) hk (show rd_A lf (nI k).toNatClampNeg - 1 = nI (lf k - 1) by rw [rd_g hk]; exact e1)) ⟨rd_i hk, ⟨rd_i hk, nm_r (rd_s (x := gv k + 1) hk (show rd_A gv (nI k).toNatClampNeg + 1 = nI (gv k + 1) by rw [rd_g hk, nI_1])) h'⟩⟩⟩⟩
  | succ i ih =>
    intro lf hq H
    have hi5 : i < 5 := by omega
    have hin : i < n := by omega
    obtain ⟨hr5, hrb⟩ := hR.1 i hin
    obtain ⟨_, _, _, q2⟩ := hN (ro i) hrb
    have q1 := rd_numP hN (ro i) hrb
    have eL : lf (ro i) = (rd_sim m c p ro n t).1 (ro i) := H.1 i (by omega)
    have hb := bJ (ro i)
    have IH := ih _ (by omega) (rd_UIs hR hin H)
    rw [show n - i = n - (i + 1) + 1 by omega] at IH
    have fin : ∀ y : Int32, y = nI (rd_J m c p ro n t (ro i)) → wY_unit_73 post (wY_unit_9 post (nI t) (nI n) (i + 1)) (nI t) (rd_o (rd_who ro (rd_J m c p ro n t) (n - (i + 1)) (i + 1))) (nI i) (nI (ro i)) y (nI (ro i)) (nI n) (rd_B m) (rd_A c) (rd_A d) (rd_A p) (rd_A o) (rd_A ro) (rd_A lf) (rd_A gv) := by
      intro y ey
      refine ⟨rd_i hr5, nm_r (rd_s hr5 ey) ⟨rd_i hr5, pk_le (rd_J m c p ro n t (ro i)) 0 (fun z => ?_) (fun z => ?_) ((rd_g hr5).trans (by rw [rd_us])) rfl (by omega) (by decide)⟩⟩
      · have a : rd_who ro (rd_J m c p ro n t) (n - (i + 1) + 1) i = rd_who ro (rd_J m c p ro n t) (n - (i + 1)) (i + 1) := if_neg (by omega)
        rw [a] at IH
        exact nm_r (rd_pm i) IH
      · have a : rd_who ro (rd_J m c p ro n t) (n - (i + 1) + 1) i = some (ro i) := if_pos z
        rw [a] at IH
        exact nm_r (rd_pm i) IH
    refine br_f (nI_pos (by omega)) ⟨rd_i hi5, nm_r (rd_g hi5) ⟨rd_i hr5, nm_r (rd_g hr5) (br_f (nI_nle q1 (by omega)) ⟨nI_ne0 q1 (by omega), ?_⟩)⟩⟩
    rw [pk_rem (by omega) q1 (by omega)]
    refine pk_eq (t % p (ro i)) 0 (fun z => ⟨rd_i hr5, ⟨rd_i hr5, fin _ ?_⟩⟩) (fun z => ⟨rd_i hr5, fin _ ?_⟩) rfl rfl (by have := Nat.mod_le t (p (ro i)); omega) (by decide)
    · have a : rd_J m c p ro n t (ro i) = (rd_sim m c p ro n t).1 (ro i) + c (ro i) := if_pos ⟨hrb, z⟩
      rw [a, rd_g hr5, rd_g hr5, nI_add, eL]
    · have a : rd_J m c p ro n t (ro i) = (rd_sim m c p ro n t).1 (ro i) := if_neg (fun y => z y.2)
      rw [a, rd_g hr5, eL]
theorem rd_yUn {post : Int32 → SY → Prop} {m n t : Nat} {c d p o ro lf gv : Nat → Nat} (W : rd_WF m n c d p ro) (ht : t ≤ 60) (H : rd_YI m c p ro n t lf gv) (h : ∀ lf' gv' : Nat → Nat, rd_YI m c p ro n (t + 1) lf' gv' → post (rd_o (rd_to m c p ro n t)) (nI n, rd_B m, rd_A c, rd_A d, rd_A p, rd_A o, rd_A ro, rd_A lf', rd_A gv')) : wpY_unit post (nI n, rd_B m, rd_A c, rd_A d, rd_A p, rd_A o, rd_A ro, rd_A lf, rd_A gv) (nI t) := by
  have a := rd_yUnl W ht (fun k hk hb => (H k hk hb).2) h n lf (Nat.le_refl n) ⟨fun j hj => (H _ (W.2.2.1.1 j hj).1 (W.2.2.1.1 j hj).2).1, fun j h1 h2 => absurd h2 (by omega)⟩
  rw [show n - n = 0 by omega] at a
  exact nm_r (rd_pm1 n) ⟨_, a⟩
theorem rd_yROl {post : Int32 → SY → Prop} {m n k : Nat} {c d p o ro : Nat → Nat} (W : rd_WF m n c d p ro) (hk : k < 5) (hb : m.testBit k = true) (h : ∀ lf gv : Nat → Nat, post (rd_R (rd_fd m c p ro n 15 k) (p k)) (nI n, rd_B m, rd_A c, rd_A d, rd_A p, rd_A o, rd_A ro, rd_A lf, rd_A gv)) : ∀ (e t : Nat) (lf gv : Nat → Nat), t + e = p k → rd_YI m c p ro n t lf gv → (∀ s, s < t → ¬ rd_ev m c p ro n s k) → wY_responseOf_6 post (nI k) (e + 1) (nI t) (nI n) (rd_B m) (rd_A c) (rd_A d) (rd_A p) (rd_A o) (rd_A ro) (rd_A lf) (rd_A gv) := by
  obtain ⟨hm, hn, hR, hN⟩ := W
  obtain ⟨q0, q1, q2, q3⟩ := hN k hb
  intro e
  induction e with
  | zero =>
    intro t lf gv ht H he
    have e : t = p k := by omega
    have a : rd_R (rd_fd m c p ro n 15 k) (p k) = -3 := if_pos (by
      rcases rd_fdN (t := 15) he with z | z
      · exact Or.inl z
      · exact Or.inr (by omega))
    have h' := h lf gv
    rw [a] at h'
    refine ⟨rd_i hk, br_t ?_ h'⟩
    rw [rd_g hk]
    exact nI_le (by omega) (by omega)
  | succ e ih =>
    intro t lf gv ht H he
    refine ⟨rd_i hk, br_f ?_ ?_⟩
    · rw [rd_g hk]
      exact nI_ge (by omega) (by omega)
    refine rd_yUn ⟨hm, hn, hR, hN⟩ (by omega) H (fun lf' gv' H' => ?_)
    have no : ¬ rd_ev m c p ro n t k → wY_responseOf_6 post (nI k) (e + 1) (nI (t + 1)) (nI n) (rd_B m) (rd_A c) (rd_A d) (rd_A p) (rd_A o) (rd_A ro) (rd_A lf') (rd_A gv') := by
      intro z
      refine ih (t + 1) lf' gv' (by omega) H' (fun s hs => ?_)
      rcases Nat.lt_or_ge s t with y | y
      · exact he s y
      · rw [show s = t by omega]
        exact z
    have bG := rd_bndG (m := m) (c := c) (p := p) (row := ro) (n := n) (t + 1) k
    cases eo : rd_to m c p ro n t with
    | none => exact br_f (fun z => rd_m1n (by omega) z.symm) (nm_r (nI_1 t) (no (fun z => by rw [z.1] at eo; exact nomatch eo)))
    | some q =>
      obtain ⟨_, i, hi, er⟩ := rd_toIn eo
      have hq : q < 5 := er ▸ (hR.1 i hi).1
      refine pk_eq q k (fun z => ?_) (fun z => nm_r (nI_1 t) (no (fun y => z (Option.some.inj (eo.symm.trans y.1)))))
      subst z
      have eg := (H' q hk hb).2
      refine ⟨rd_i hk, ⟨rd_i hk, pk_eq (gv' q) (c q) (fun y => ?_) (fun y => nm_r (nI_1 t) (no (fun x => y (eg.trans x.2)))) (rd_g hk) (rd_g hk) (by omega) (by omega)⟩⟩
      have ev : rd_ev m c p ro n t q := ⟨eo, eg.symm.trans y⟩
      have a : rd_R (rd_fd m c p ro n 15 q) (p q) = nI (t + 1) := by
        rw [rd_fdE ev (by omega)]
        exact if_neg (by omega)
      have h' := h lf' gv'
      rw [a] at h'
      rw [nI_1]
      exact h'
theorem rd_yRO {post : Int32 → SY → Prop} {m n k : Nat} {c d p o ro lf gv : Nat → Nat} (W : rd_WF m n c d p ro) (hk : k < 5) (hb : m.testBit k = true) (h : ∀ lf gv : Nat → Nat, post (rd_R (rd_fd m c p ro n 15 k) (p k)) (nI n, rd_B m, rd_A c, rd_A d, rd_A p, rd_A o, rd_A ro, rd_A lf, rd_A gv)) : wpY_responseOf post (nI n, rd_B m, rd_A c, rd_A d, rd_A p, rd_A o, rd_A ro, rd_A lf, rd_A gv) (nI k) := by
  refine rd_yST (fun lf gv H => ?_)
  exact ⟨p k + 1, rd_yROl W hk hb h (p k) 0 lf gv (Nat.zero_add _) (rd_YI0 H) (fun s z => absurd z (Nat.not_lt_zero s))⟩
theorem rd_yPu {post : Int32 → SY → Prop} {m n k : Nat} {c d p o ro lf gv : Nat → Nat} (W : rd_WF m n c d p ro) (hk : k < 5) (hb : m.testBit k = true) (h : ∀ lf gv : Nat → Nat, post (rd_b (rd_ok m c d p ro n k)) (nI n, rd_B m, rd_A c, rd_A d, rd_A p, rd_A o, rd_A ro, rd_A lf, rd_A gv)) : wpY_punctual post (nI n, rd_B m, rd_A c, rd_A d, rd_A p, rd_A o, rd_A ro, rd_A lf, rd_A gv) (nI k) := by
  refine rd_yRO W hk hb (fun lf gv => ?_)
  obtain ⟨hm, hn, hR, hN⟩ := W
  obtain ⟨q0, q1, q2, q3⟩ := hN k hb
  have bf := rd_fdB (m := m) (c := c) (p := p) (row := ro) (n := n) 15 k
  have h' := h lf gv
  have no : ¬ rd_ok m c d p ro n k = true → post 0 (nI n, rd_B m, rd_A c, rd_A d, rd_A p, rd_A o, rd_A ro, rd_A lf, rd_A gv) := by
    intro z
    rw [rd_bf z] at h'
    exact h'
  unfold rd_R
  by_cases z : rd_fd m c p ro n 15 k = 0 ∨ p k < rd_fd m c p ro n 15 k
  · rw [if_pos z]
    refine br_t rfl (no (fun y => ?_))
    have y' := of_decide_eq_true y
    omega
  · rw [if_neg z]
    refine br_f (rd_m3n (by omega)) ⟨rd_i hk, pk_lt (d k) (rd_fd m c p ro n 15 k) (fun y => no (fun x => ?_)) (fun y => ?_) (rd_g hk) rfl (by omega) (by omega)⟩
    · have y' := of_decide_eq_true x
      omega
    · rw [rd_bt (x := rd_ok m c d p ro n k) (decide_eq_true ⟨by omega, by omega, y⟩)] at h'
      exact h'
theorem rd_yAPl {post : Int32 → SY → Prop} {m n : Nat} {c d p o ro : Nat → Nat} (W : rd_WF m n c d p ro) (h : ∀ lf gv : Nat → Nat, post (rd_b (rd_good m c d p ro n)) (nI n, rd_B m, rd_A c, rd_A d, rd_A p, rd_A o, rd_A ro, rd_A lf, rd_A gv)) : ∀ (e k : Nat) (lf gv : Nat → Nat), k + e = 5 → wY_allPunctual_4 post (e + 1) (rd_b (rd_all (rd_ok m c d p ro n) m k)) (nI k) (nI n) (rd_B m) (rd_A c) (rd_A d) (rd_A p) (rd_A o) (rd_A ro) (rd_A lf) (rd_A gv) := by
  intro e
  induction e with
  | zero =>
    intro k lf gv hk
    have e : k = 5 := by omega
    subst e
    exact br_t (nI_le (a := 5) (Nat.le_refl 5) (by decide)) ⟨rd_nb _, h lf gv⟩
  | succ e ih =>
    intro k lf gv hk
    have hk5 : k < 5 := by omega
    refine br_f (nI_ge (b := 5) hk5 (by decide)) ?_
    have IH : ∀ lf gv, wY_allPunctual_4 post (e + 1) (rd_b (rd_all (rd_ok m c d p ro n) m k && (!m.testBit k || rd_ok m c d p ro n k))) (nI (k + 1)) (nI n) (rd_B m) (rd_A c) (rd_A d) (rd_A p) (rd_A o) (rd_A ro) (rd_A lf) (rd_A gv) := fun lf gv => ih (k + 1) lf gv (by omega)
    cases z : rd_all (rd_ok m c d p ro n) m k with
    | false =>
      rw [z] at IH
      exact br_t rfl (nm_r (nI_1 k) (IH lf gv))
    | true =>
      rw [z] at IH
      refine br_f (by decide) ⟨rd_i hk5, rd_Bc hk5 (fun y => ?_) (fun y => ?_)⟩
      · rw [y] at IH
        exact nm_r (nI_1 k) (IH lf gv)
      · rw [y] at IH
        refine rd_yPu W hk5 y (fun lf gv => ?_)
        have I2 := IH lf gv
        cases x : rd_ok m c d p ro n k with
        | false =>
          rw [x] at I2
          exact br_t rfl (nm_r (nI_1 k) I2)
        | true =>
          rw [x] at I2
          exact br_f (by decide) (nm_r (nI_1 k) I2)
theorem rd_yAP {post : Int32 → SY → Prop} {m n : Nat} {c d p o ro lf gv : Nat → Nat} (W : rd_WF m n c d p ro) (h : ∀ lf gv : Nat → Nat, post (rd_b (rd_good m c d p ro n)) (nI n, rd_B m, rd_A c, rd_A d, rd_A p, rd_A o, rd_A ro, rd_A lf, rd_A gv)) : wpY_allPunctual post (nI n, rd_B m, rd_A c, rd_A d, rd_A p, rd_A o, rd_A ro, rd_A lf, rd_A gv) :=
  ⟨6, rd_yAPl W h 5 0 lf gv rfl⟩
/-! ===== the reference: orders by number ===== -/
theorem rd_yOrl {post : Int32 → Prop} {m n : Nat} {c d p o ro lf gv : Nat → Nat} (hn : n ≤ 5) (h : post (nI (rd_fac n))) : ∀ (e i : Nat), i + e = n → wY_orders_4 post (nI n) (rd_B m) (rd_A c) (rd_A d) (rd_A p) (rd_A o) (rd_A ro) (rd_A lf) (rd_A gv) (e + 1) (nI (rd_fac i)) (nI (i + 1)) := by
  intro e
  induction e with
  | zero =>
    intro i hi
    have e : i = n := by omega
    subst e
    exact br_t (nI_lt (by omega) (by omega)) h
  | succ e ih =>
    intro i hi
    exact br_f (nI_nlt (by omega) (by omega)) (nm_r (pk_mul _ _) (nm_r (nI_1 (i + 1)) (ih (i + 1) (by omega))))
theorem rd_yOr {post : Int32 → Prop} {m n : Nat} {c d p o ro lf gv : Nat → Nat} (hn : n ≤ 5) (h : post (nI (rd_fac n))) : wpY_orders post (nI n, rd_B m, rd_A c, rd_A d, rd_A p, rd_A o, rd_A ro, rd_A lf, rd_A gv) := by
  cases n with
  | zero => exact ⟨1, br_t (nI_lt (a := 0) (b := 2) (by decide) (by decide)) h⟩
  | succ n => exact ⟨n + 1, rd_yOrl hn h n 1 (by omega)⟩
theorem rd_yUul {post : Int32 → Prop} {m n used skip : Nat} {c d p o ro lf gv : Nat → Nat} (hu : used < 32) (hs : skip < 2 ^ 31) : ∀ (e k q : Nat), k + e = 5 → q ≤ k → post (nI (rd_unA m used skip e k q)) → wY_unused_5 post (nI used) (nI skip) (nI n) (rd_B m) (rd_A c) (rd_A d) (rd_A p) (rd_A o) (rd_A ro) (rd_A lf) (rd_A gv) (e + 1) (nI q) (nI k) := by
  intro e
  induction e with
  | zero =>
    intro k q hk hq h
    exact br_t (nI_le (a := 5) (by omega) (by omega)) h
  | succ e ih =>
    intro k q hk hq h
    have hk5 : k < 5 := by omega
    have no : ¬ (m.testBit k = true ∧ used.testBit k = false) → wY_unused_5 post (nI used) (nI skip) (nI n) (rd_B m) (rd_A c) (rd_A d) (rd_A p) (rd_A o) (rd_A ro) (rd_A lf) (rd_A gv) (e + 1) (nI q) (nI (k + 1)) := by
      intro z
      have a : rd_unA m used skip (e + 1) k q = rd_unA m used skip e (k + 1) q := if_neg z
      rw [a] at h
      exact ih (k + 1) q (by omega) (by omega) h
    refine br_f (nI_ge (b := 5) hk5 (by decide)) ⟨rd_i hk5, rd_Bc hk5 (fun z => nm_r (nI_1 k) (no (fun y => rd_nft z y.1))) (fun z => ?_)⟩
    by_cases y : used.testBit k = false
    · have a : rd_unA m used skip (e + 1) k q = if q = skip then k else rd_unA m used skip e (k + 1) (q + 1) := if_pos ⟨z, y⟩
      rw [a] at h
      refine br_t ((rd_usd used hu k hk5).mpr y) (pk_eq q skip (fun x => ?_) (fun x => ?_))
      · rw [if_pos x] at h
        exact h
      · rw [if_neg x] at h
        exact nm_r (nI_1 q) (nm_r (nI_1 k) (ih (k + 1) (q + 1) (by omega) (by omega) h))
    · exact br_f (fun x => y ((rd_usd used hu k hk5).mp x)) (nm_r (nI_1 k) (no (fun x => y x.2)))
theorem rd_yUu {post : Int32 → Prop} {m n used skip : Nat} {c d p o ro lf gv : Nat → Nat} (hu : used < 32) (hs : skip < 2 ^ 31) (h : post (nI (rd_unu m used skip))) : wpY_unused post (nI n, rd_B m, rd_A c, rd_A d, rd_A p, rd_A o, rd_A ro, rd_A lf, rd_A gv) (nI used) (nI skip) :=
  ⟨6, rd_yUul hu hs 5 0 0 rfl (Nat.le_refl 0) h⟩
theorem rd_unAB {m used skip : Nat} : ∀ e k q, k + e ≤ 5 → rd_unA m used skip e k q < 5 := by
  intro e
  induction e with
  | zero => intro k q _; show 0 < 5; decide
  | succ e ih =>
    intro k q hk
    show (if m.testBit k = true ∧ used.testBit k = false then (if q = skip then k else rd_unA m used skip e (k + 1) (q + 1)) else rd_unA m used skip e (k + 1) q) < 5
    by_cases z : m.testBit k = true ∧ used.testBit k = false
    · rw [if_pos z]
      by_cases y : q = skip
      · rw [if_pos y]; omega
      · rw [if_neg y]; exact ih (k + 1) (q + 1) (by omega)
    · rw [if_neg z]; exact ih (k + 1) q (by omega)
theorem rd_unB (m used skip : Nat) : rd_unu m used skip < 5 := rd_unAB 5 0 0 (Nat.le_refl 5)
theorem rd_ss1 (m n code : Nat) : ∀ i, i ≤ n → (rd_ss m n code i).1 = rd_fac (n - i) := by
  intro i
  induction i with
  | zero => intro _; rfl
  | succ i ih =>
    intro hi
    show (rd_ss m n code i).1 / (n - i) = _
    rw [ih (by omega), show n - i = (n - (i + 1)) + 1 by omega]
    exact Nat.mul_div_cancel _ (Nat.succ_pos _)
theorem rd_ss3 (m n code : Nat) : ∀ i, (rd_ss m n code i).2.2 < 32 := by
  intro i
  induction i with
  | zero => show 0 < 32; decide
  | succ i ih =>
    show (rd_ss m n code i).2.2 ||| 2 ^ (rd_unu m (rd_ss m n code i).2.2 ((rd_ss m n code i).2.1 / ((rd_ss m n code i).1 / (n - i)))) < 32
    exact rd_orL _ ih _ (rd_unB _ _ _)
theorem rd_ss2 (m n code : Nat) : ∀ i, (rd_ss m n code i).2.1 ≤ code := by
  intro i
  induction i with
  | zero => exact Nat.le_refl _
  | succ i ih =>
    show (rd_ss m n code i).2.1 % ((rd_ss m n code i).1 / (n - i)) ≤ code
    exact Nat.le_trans (Nat.mod_le _ _) ih
theorem rd_ySpl {post : SY → Prop} {m code : Nat} {c d p o lf gv : Nat → Nat} (hm : m < 32) (hc : code < rd_fac (rd_n m)) (h : ∀ ro' : Nat → Nat, (∀ i, i < rd_n m → ro' i = rd_pe m code i) → post (nI (rd_n m), rd_B m, rd_A c, rd_A d, rd_A p, rd_A o, rd_A ro', rd_A lf, rd_A gv)) : ∀ (e i : Nat) (ro : Nat → Nat), i + e = rd_n m → (∀ q, q < i → ro q = rd_pe m code q) → wY_spell_13 post (nI (rd_n m)) (e + 1) (nI (rd_ss m (rd_n m) code i).1) (nI (rd_ss m (rd_n m) code i).2.1) (nI (rd_ss m (rd_n m) code i).2.2) (nI i) (rd_B m) (rd_A c) (rd_A d) (rd_A p) (rd_A o) (rd_A ro) (rd_A lf) (rd_A gv) := by
  have hn5 := (rd_n5 m hm).1
  have hF := (rd_facB (rd_n m) (by omega)).1
  intro e
  induction e with
  | zero =>
    intro i ro hi H
    have e : i = rd_n m := by omega
    exact br_t (nI_le (by omega) (by omega)) (h ro (fun q hq => H q (by omega)))
  | succ e ih =>
    intro i ro hi H
    have hi5 : i < 5 := by omega
    have s1 := rd_ss1 m (rd_n m) code i (by omega)
    have s1' := rd_ss1 m (rd_n m) code (i + 1) (by omega)
    have s2 := rd_ss2 m (rd_n m) code i
    have s3 := rd_ss3 m (rd_n m) code i
    have b1 := rd_facB (rd_n m - i) (by omega)
    have b2 := rd_facB (rd_n m - (i + 1)) (by omega)
    have e1 : (rd_ss m (rd_n m) code (i + 1)).1 = (rd_ss m (rd_n m) code i).1 / (rd_n m - i) := rfl
    have e2 : (rd_ss m (rd_n m) code (i + 1)).2.1 = (rd_ss m (rd_n m) code i).2.1 % (rd_ss m (rd_n m) code (i + 1)).1 := rfl
    have e3 : (rd_ss m (rd_n m) code (i + 1)).2.2 = (rd_ss m (rd_n m) code i).2.2 ||| 2 ^ rd_pe m code i := rfl
    have e4 : rd_unu m (rd_ss m (rd_n m) code i).2.2 ((rd_ss m (rd_n m) code i).2.1 / (rd_ss m (rd_n m) code (i + 1)).1) = rd_pe m code i := rfl
    have p5 : rd_pe m code i < 5 := rd_unB _ _ _
    have IH := ih (i + 1) (rd_up ro i (rd_pe m code i)) (by omega) (fun q hq => by
      by_cases z : q = i
      · rw [z, rd_us]
      · rw [rd_un z]
        exact H q (by omega))
    rw [e3] at IH
    have q1 : 0 < (rd_ss m (rd_n m) code (i + 1)).1 := by rw [s1']; exact b2.2
    have q2 : (rd_ss m (rd_n m) code (i + 1)).1 < 2 ^ 31 := by rw [s1']; omega
    have q3 : (rd_ss m (rd_n m) code i).2.1 < 2 ^ 31 := by omega
    have q4 : (rd_ss m (rd_n m) code i).2.1 / (rd_ss m (rd_n m) code (i + 1)).1 < 2 ^ 31 := Nat.lt_of_le_of_lt (Nat.div_le_self _ _) q3
    have ed : nI (rd_n m) - nI i = nI (rd_n m - i) := pk_sub (by omega)
    have ev : nI (rd_ss m (rd_n m) code i).1 / nI (rd_n m - i) = nI (rd_ss m (rd_n m) code (i + 1)).1 := by
      rw [e1]
      exact pk_div (by rw [s1]; omega) (by omega) (by omega)
    refine br_f (nI_ge (by omega) (by omega)) ?_
    rw [ed]
    refine br_f (nI_nle (by omega) (by omega)) ⟨nI_ne0 (by omega) (by omega), nm_r ev (br_f (nI_nle q1 q2) ⟨nI_ne0 q1 q2, br_f (nI_nle q1 q2) ⟨nI_ne0 q1 q2, ?_⟩⟩)⟩
    rw [pk_rem q3 q1 q2, pk_div q3 q1 q2, ← e2]
    unfold wY_spell_70
    refine rd_yUu s3 q4 ⟨rd_i hi5, nm_r (rd_s (x := rd_pe m code i) hi5 (congrArg nI e4)) ⟨rd_i hi5, nm_r ?_ (nm_r (nI_1 i) IH)⟩⟩
    rw [rd_g hi5, rd_us]
    exact rd_or _ s3 _ p5
theorem rd_ySp {post : SY → Prop} {m code : Nat} {c d p o ro lf gv : Nat → Nat} (hm : m < 32) (hc : code < rd_fac (rd_n m)) (h : ∀ ro' : Nat → Nat, (∀ i, i < rd_n m → ro' i = rd_pe m code i) → post (nI (rd_n m), rd_B m, rd_A c, rd_A d, rd_A p, rd_A o, rd_A ro', rd_A lf, rd_A gv)) : wpY_spell post (nI (rd_n m), rd_B m, rd_A c, rd_A d, rd_A p, rd_A o, rd_A ro, rd_A lf, rd_A gv) (nI code) := by
  unfold wpY_spell
  exact rd_yOr (rd_n5 m hm).1 ⟨_, rd_ySpl hm hc h (rd_n m) 0 ro (Nat.zero_add _) (fun q hq => absurd hq (Nat.not_lt_zero q))⟩
