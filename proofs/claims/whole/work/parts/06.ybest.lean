/-! Y: sum, before, best, of, sold's loop, bids' loop, bid's loop -/
theorem pg_ysum_l {post : Int32 → Prop} {f : Int32} {a1 a2 a4 : Nat → Int32} {A : Nat → Nat} {s : Nat} (hs : s < 256) (h : post (nI (pg_sum A s 8))) : ∀ d j, j + d = 8 → wY_sum_4 post (nI s) f a1 a2 (pg_arr A) a4 (d + 1) (nI (pg_sum A s j)) (nI j) := by
  intro d
  induction d with
  | zero =>
    intro j hj
    have e : j = 8 := by omega
    subst e
    exact br_t pg_e8 h
  | succ d ih =>
    intro j hj
    have hj8 : j < 8 := by omega
    have IH := ih (j + 1) (by omega)
    refine br_f (pg_g8 hj8) ?_
    cases k : s.testBit j
    · rw [pg_sum_f (pg_nt k)] at IH
      exact br_f (pg_yf hs hj8 k) (nm_r (Int32.add_zero _) (nm_r (nI_1 j) IH))
    · refine br_t (pg_yt hs hj8 k) ⟨pg_i8 hj8, nm_r (e' := nI (pg_sum A s (j + 1))) ?_ (nm_r (nI_1 j) IH)⟩
      rw [pg_at A (by omega), nI_add, pg_sum_t k]
theorem pg_ysum {post : Int32 → Prop} {f : Int32} {a1 a2 a4 : Nat → Int32} {A : Nat → Nat} {s : Nat} (hs : s < 256) (h : post (nI (pg_sum A s 8))) : wpY_sum post (f, a1, a2, pg_arr A, a4) (nI s) :=
  ⟨9, pg_ysum_l hs h 8 0 rfl⟩
theorem pg_ybef_l {post : Int32 → Prop} {f : Int32} {a1 a2 a3 a4 : Nat → Int32} {s t : Nat} (hs : s < 256) (ht : t < 256) (h : post (pg_b (decide (pg_rv t < pg_rv s)))) : ∀ d j, j + d = 8 → (∀ i, i < j → s.testBit i = t.testBit i) → wY_before_34 post (nI s) (nI t) f a1 a2 a3 a4 (d + 1) (nI j) := by
  intro d
  induction d with
  | zero =>
    intro j hj I
    have e : j = 8 := by omega
    subst e
    rw [decide_eq_false (by rw [pg_rv_all I]; exact Nat.lt_irrefl _)] at h
    exact br_t pg_e8 h
  | succ d ih =>
    intro j hj I
    have hj8 : j < 8 := by omega
    refine br_f (pg_g8 hj8) ?_
    by_cases k : s.testBit j = t.testBit j
    · refine br_t (by rw [pg_yb s hs j hj8, pg_yb t ht j hj8, k]) (nm_r (nI_1 j) (ih (j + 1) (by omega) (fun i hi => ?_)))
      rcases Nat.lt_or_ge i j with l | l
      · exact I i l
      · have : i = j := by omega
        subst this
        exact k
    · cases e : s.testBit j
      · have et : t.testBit j = true := by
          rw [e] at k
          cases z : t.testBit j
          · rw [z] at k; exact absurd rfl k
          · rfl
        have := pg_rv_bit hj8 (fun i hi => (I i hi).symm) et e
        rw [decide_eq_false (by omega)] at h
        refine br_f ?_ (br_f (pg_yf hs hj8 e) h)
        rw [pg_yb s hs j hj8, pg_yb t ht j hj8, if_neg (pg_nt e), if_pos et]
        decide
      · have et : t.testBit j = false := by
          rw [e] at k
          cases z : t.testBit j
          · rfl
          · rw [z] at k; exact absurd rfl k
        have := pg_rv_bit hj8 I e et
        rw [decide_eq_true this] at h
        refine br_f ?_ (br_t (pg_yt hs hj8 e) h)
        rw [pg_yb s hs j hj8, pg_yb t ht j hj8, if_pos e, if_neg (pg_nt et)]
        decide
theorem pg_ybef {post : Int32 → Prop} {f : Int32} {a1 a2 a4 : Nat → Int32} {A : Nat → Nat} {s t : Nat} (hs : s < 256) (ht : t < 256) (hA : ∀ b, A b ≤ 50) (h : post (pg_b (decide (pg_key A t < pg_key A s)))) : wpY_before post (f, a1, a2, pg_arr A, a4) (nI s) (nI t) := by
  refine pg_ysum (post := fun r_1 => wpY_sum (fun r_7 => (((r_1 = r_7 → (∃ n34 : Nat, wY_before_34 post (nI s) (nI t) f a1 a2 (pg_arr A) a4 n34 0)) ∧ (¬ r_1 = r_7 → (((r_1 ≤ r_7 → (post 0)) ∧ (¬ r_1 ≤ r_7 → (post 1)))))))) (f, a1, a2, pg_arr A, a4) (nI t)) hs ?_
  refine pg_ysum ht ?_
  by_cases k : pg_sum A s 8 = pg_sum A t 8
  · have e : decide (pg_key A t < pg_key A s) = decide (pg_rv t < pg_rv s) := by
      apply decide_eq_decide.mpr
      rw [pg_key_lt]
      omega
    rw [e] at h
    exact br_t (by rw [k]) ⟨9, pg_ybef_l hs ht h 8 0 rfl (fun i hi => absurd hi (Nat.not_lt_zero i))⟩
  · refine br_f (fun z => k ((nI_eq (pg_sum31 hA s) (pg_sum31 hA t)).mp z)) ?_
    by_cases l : pg_sum A s 8 ≤ pg_sum A t 8
    · rw [decide_eq_false (by rw [pg_key_lt]; omega)] at h
      exact br_t (nI_le l (pg_sum31 hA t)) h
    · rw [decide_eq_true (by rw [pg_key_lt]; omega)] at h
      exact br_f (nI_ge (by omega) (pg_sum31 hA s)) h
theorem pg_ybest_l {post : Int32 → Prop} {f q r : Int32} {a1 a2 a4 : Nat → Int32} {D W A : Nat → Nat} {G : Nat} (hA : ∀ b, A b ≤ 50) (hf : ∀ s, s < 256 → a4 s = pg_b (pg_al D W G s)) (h : post (pg_o (pg_be D W A G q r))) : ∀ d i, i + d = 256 → wY_best_5 post q r f a1 a2 (pg_arr A) a4 (d + 1) (pg_o (pg_best (pg_F D W G q r) (pg_key A) i)) (nI i) := by
  intro d
  induction d with
  | zero =>
    intro i hi
    have e : i = 256 := by omega
    subst e
    exact br_t pg_e256 h
  | succ d ih =>
    intro i hi
    have hi8 : i < 256 := by omega
    have IH := ih (i + 1) (by omega)
    refine br_f (pg_g256 hi8) ⟨vp_in_nI hi8 (by decide), ?_⟩
    rw [nI_clamp (show i < 2 ^ 31 by omega), hf i hi8]
    cases k : pg_al D W G i
    · rw [pg_best_n (by unfold pg_F; rw [k, Bool.and_false])] at IH
      exact br_t rfl (nm_r (nI_1 i) IH)
    · refine br_f pg_10 ?_
      by_cases hq : nI i &&& q = q
      · refine br_t ((pg_nn q (nI i)).mpr hq) ?_
        by_cases hr : nI i &&& r = 0
        · refine br_t (by rw [pg_comm]; exact hr) ?_
          have e : pg_F D W G q r i = true := pg_F_is.mpr ⟨hq, hr, k⟩
          cases c : pg_best (pg_F D W G q r) (pg_key A) i with
          | none =>
            rw [pg_best_0 e c] at IH
            exact br_t (show (-1 : Int32) < 0 by decide) (nm_r (nI_1 i) IH)
          | some m =>
            have hm : m < 256 := Nat.lt_trans (pg_best_some i m c).1 hi8
            refine br_f (nI_pos (by omega)) (pg_ybef hi8 hm hA ?_)
            by_cases v : pg_key A m < pg_key A i
            · rw [pg_best_t e c v] at IH
              rw [decide_eq_true v]
              exact br_f pg_10 (nm_r (nI_1 i) IH)
            · rw [pg_best_f c v] at IH
              rw [decide_eq_false v]
              exact br_t rfl (nm_r (nI_1 i) IH)
        · rw [pg_best_n (by unfold pg_F; rw [decide_eq_false hr, Bool.and_false, Bool.false_and])] at IH
          exact br_f (fun z => hr (by rw [pg_comm]; exact z)) (nm_r (nI_1 i) IH)
      · rw [pg_best_n (by unfold pg_F; rw [decide_eq_false hq, Bool.false_and, Bool.false_and])] at IH
        exact br_f (fun z => hq ((pg_nn q (nI i)).mp z)) (nm_r (nI_1 i) IH)
theorem pg_ybest {post : Int32 → Prop} {f q r : Int32} {a1 a2 a4 : Nat → Int32} {D W A : Nat → Nat} {G : Nat} (hA : ∀ b, A b ≤ 50) (hf : ∀ s, s < 256 → a4 s = pg_b (pg_al D W G s)) (h : post (pg_o (pg_be D W A G q r))) : wpY_best post (f, a1, a2, pg_arr A, a4) q r :=
  ⟨257, pg_ybest_l hA hf h 256 0 rfl⟩
theorem pg_yof_l {post : Int32 → Prop} {f : Int32} {a3 a4 : Nat → Int32} {D W : Nat → Nat} {p : Nat} (hp : p < 4) (hD : ∀ b, D b < 256) (hW : ∀ b, W b < 4) (h : post (nI (pg_of D W p 8))) : ∀ d j, j + d = 8 → wY_of_4 post (nI p) f (pg_arr D) (pg_arr W) a3 a4 (d + 1) (nI (pg_of D W p j)) (nI j) := by
  intro d
  induction d with
  | zero =>
    intro j hj
    have e : j = 8 := by omega
    subst e
    exact br_t pg_e8 h
  | succ d ih =>
    intro j hj
    have hj8 : j < 8 := by omega
    have IH := ih (j + 1) (by omega)
    have u : pg_of D W p (j + 1) = if 0 < D j ∧ W j = p then pg_of D W p j ||| 2 ^ j else pg_of D W p j := rfl
    rw [u] at IH
    refine br_f (pg_g8 hj8) (pg_yis hD _ (fun y => ?_) (fun y => ?_))
    · obtain ⟨i, hi, e, z⟩ := y
      rw [nI_eq (by omega) (by omega)] at e
      subst e
      refine br_f pg_10 ⟨pg_i8 hj8, ?_⟩
      rw [pg_at W (show j < 256 by omega)]
      by_cases t : W j = p
      · rw [if_pos ⟨z, t⟩] at IH
        refine br_t (by rw [t]) (nm_r ?_ (nm_r (nI_1 j) IH))
        rw [pg_sh j hj8, pg_or]
      · rw [if_neg (fun z => t z.2)] at IH
        exact br_f (fun z => t ((nI_eq (Nat.lt_trans (hW j) (by decide)) (Nat.lt_trans hp (by decide))).mp z)) (nm_r (pg_or0 _) (nm_r (nI_1 j) IH))
    · rw [if_neg (fun z => y ⟨j, hj8, rfl, z.1⟩)] at IH
      exact br_t rfl (nm_r (pg_or0 _) (nm_r (nI_1 j) IH))
theorem pg_yof {post : Int32 → Prop} {f : Int32} {a3 a4 : Nat → Int32} {D W : Nat → Nat} {p : Nat} (hp : p < 4) (hD : ∀ b, D b < 256) (hW : ∀ b, W b < 4) (h : post (nI (pg_of D W p 8))) : wpY_of post (f, pg_arr D, pg_arr W, a3, a4) (nI p) :=
  ⟨9, pg_yof_l hp hD hW h 8 0 rfl⟩
theorem pg_ysold_l {post : Int32 → SY → Prop} {f : Int32} {a2 a3 a4 : Nat → Int32} {D : Nat → Nat} {s : Nat} (hs : s < 256) (h : post (nI (pg_sold D s 8)) (f, pg_arr D, a2, a3, a4)) : ∀ d j, j + d = 8 → wY_sold_9 post (nI s) f (pg_arr D) a2 a3 a4 (d + 1) (nI (pg_sold D s j)) (nI j) := by
  intro d
  induction d with
  | zero =>
    intro j hj
    have e : j = 8 := by omega
    subst e
    exact br_t pg_e8 h
  | succ d ih =>
    intro j hj
    have hj8 : j < 8 := by omega
    have IH := ih (j + 1) (by omega)
    have u : pg_sold D s (j + 1) = if s.testBit j = true then pg_sold D s j ||| D j else pg_sold D s j := rfl
    rw [u] at IH
    refine br_f (pg_g8 hj8) ?_
    cases k : s.testBit j
    · rw [if_neg (pg_nt k)] at IH
      exact br_f (pg_yf hs hj8 k) (nm_r (nI_1 j) IH)
    · rw [if_pos k] at IH
      refine br_t (pg_yt hs hj8 k) ⟨pg_i8 hj8, nm_r ?_ (nm_r (nI_1 j) IH)⟩
      rw [pg_at D (by omega), pg_or]
theorem pg_ybids_l {post : Int32 → Prop} {f : Int32} {a2 a3 a4 : Nat → Int32} {D : Nat → Nat} (hD : ∀ b, D b < 256) (h : post (nI (pg_cov D 8))) : ∀ d j, j + d = 8 → wY_bids_4 post f (pg_arr D) a2 a3 a4 (d + 1) (nI (pg_cov D j)) (nI j) := by
  intro d
  induction d with
  | zero =>
    intro j hj
    have e : j = 8 := by omega
    subst e
    exact br_t pg_e8 h
  | succ d ih =>
    intro j hj
    have hj8 : j < 8 := by omega
    have IH := ih (j + 1) (by omega)
    have u : pg_cov D (j + 1) = if 0 < D j then pg_cov D j ||| 2 ^ j else pg_cov D j := rfl
    rw [u] at IH
    refine br_f (pg_g8 hj8) (pg_yis hD _ (fun y => ?_) (fun y => ?_))
    · obtain ⟨i, hi, e, z⟩ := y
      rw [nI_eq (by omega) (by omega)] at e
      subst e
      rw [if_pos z] at IH
      refine br_f pg_10 (nm_r ?_ (nm_r (nI_1 j) IH))
      rw [pg_sh j hj8, pg_or]
    · rw [if_neg (fun z => y ⟨j, hj8, rfl, z⟩)] at IH
      exact br_t rfl (nm_r (pg_or0 _) (nm_r (nI_1 j) IH))
theorem pg_yfree {post : Int32 → SY → Prop} {H x y z j : Nat} {D W A : Nat → Nat} {a4 : Nat → Int32} (hj : j < 8) (hD : ∀ b, D b < 256) (hf : D j = 0) (hb : ∀ b, b < j → 0 < D b) (h : post (nI j) (nI H, pg_arr (pg_up D j x), pg_arr (pg_up W j y), pg_arr (pg_up A j z), a4)) : ∀ d i, i + d = j → wY_bid_36 post (nI x) (nI y) (nI z) (nI H) (pg_arr D) (pg_arr W) (pg_arr A) a4 (d + 1) (nI i) := by
  intro d
  induction d with
  | zero =>
    intro i hi
    have e : i = j := by omega
    subst e
    have hi := pg_i8 hj
    refine br_f (pg_g8 hj) ⟨hi, br_t ?_ ⟨hi, nm_r (pg_upd D (by omega) x) ⟨hi, nm_r (pg_upd W (by omega) y) ⟨hi, nm_r (pg_upd A (by omega) z) h⟩⟩⟩⟩
    rw [pg_at D (by omega), hf]; exact nI_0
  | succ d ih =>
    intro i hi
    have hi8 : i < 8 := by omega
    refine br_f (pg_g8 hi8) ⟨pg_i8 hi8, br_f ?_ (nm_r (nI_1 i) (ih (i + 1) (by omega)))⟩
    rw [pg_at D (by omega)]
    exact nI_ne0 (hb i (by omega)) (Nat.lt_trans (hD i) (by decide))
theorem pg_yfull {post : Int32 → SY → Prop} {f x1 x2 x3 : Int32} {D : Nat → Nat} {a2 a3 a4 : Nat → Int32} (hD : ∀ b, D b < 256) (hb : ∀ b, b < 8 → 0 < D b) (h : post (-2) (f, pg_arr D, a2, a3, a4)) : ∀ d i, i + d = 8 → wY_bid_36 post x1 x2 x3 f (pg_arr D) a2 a3 a4 (d + 1) (nI i) := by
  intro d
  induction d with
  | zero =>
    intro i hi
    have e : i = 8 := by omega
    subst e
    exact br_t pg_e8 h
  | succ d ih =>
    intro i hi
    have hi8 : i < 8 := by omega
    refine br_f (pg_g8 hi8) ⟨pg_i8 hi8, br_f ?_ (nm_r (nI_1 i) (ih (i + 1) (by omega)))⟩
    rw [pg_at D (by omega)]
    exact nI_ne0 (hb i (by omega)) (Nat.lt_trans (hD i) (by decide))
