/-! X: the best allocation, bidsOf, sold's loop, isBid, bid's loop -/
theorem pg_best_n {F : Nat → Bool} {K : Nat → Nat} {n : Nat} (h : F n = false) : pg_best F K (n + 1) = pg_best F K n := by
  show (match pg_best F K n with | none => if F n = true then some n else none | some m => if F n = true ∧ K m < K n then some n else some m) = _
  rw [h]
  cases pg_best F K n with
  | none => rfl
  | some m => exact if_neg (fun z => absurd z.1 (by decide))
theorem pg_best_0 {F : Nat → Bool} {K : Nat → Nat} {n : Nat} (h : F n = true) (e : pg_best F K n = none) : pg_best F K (n + 1) = some n := by
  show (match pg_best F K n with | none => if F n = true then some n else none | some m => if F n = true ∧ K m < K n then some n else some m) = _
  rw [e]
  exact if_pos h
theorem pg_best_t {F : Nat → Bool} {K : Nat → Nat} {n m : Nat} (h : F n = true) (e : pg_best F K n = some m) (k : K m < K n) : pg_best F K (n + 1) = some n := by
  show (match pg_best F K n with | none => if F n = true then some n else none | some m => if F n = true ∧ K m < K n then some n else some m) = _
  rw [e]
  exact if_pos ⟨h, k⟩
theorem pg_best_f {F : Nat → Bool} {K : Nat → Nat} {n m : Nat} (e : pg_best F K n = some m) (k : ¬ K m < K n) : pg_best F K (n + 1) = some m := by
  show (match pg_best F K n with | none => if F n = true then some n else none | some m => if F n = true ∧ K m < K n then some n else some m) = _
  rw [e]
  exact if_neg (fun z => k z.2)
/-- the sum that goes with the best set so far -/
def pg_s (A : Nat → Nat) (o : Option Nat) : Int32 := match o with
  | none => -1
  | some s => nI (pg_sum A s 8)
theorem pg_sum31 {A : Nat → Nat} (hA : ∀ b, A b ≤ 50) (s : Nat) : pg_sum A s 8 < 2 ^ 31 := Nat.lt_of_le_of_lt (pg_sum_le hA s 8) (by decide)
theorem pg_m1lt {n : Nat} (h : n < 2 ^ 31) : (-1 : Int32) < nI n := by
  rw [Int32.lt_iff_toInt_lt, nI_toInt h]
  have : (-1 : Int32).toInt = -1 := by decide
  omega
theorem pg_xbest_b {post : Int32 → Prop} {J : Int32 → Int32 → Int32 → Prop} {P G i : Nat} {f2 q r : Int32} {B W A : Nat → Nat} (hi : i < 256) (hG : G < 256) (hB : ∀ b, B b < 256) (hW : ∀ b, W b < 4) (hA : ∀ b, A b ≤ 50) (hBP : ∀ b, P.testBit b = true → 0 < B b) (hq : nI i &&& q = q) (hr : nI i &&& r = 0) (h : J (pg_o (pg_best (pg_F (pg_Y P B) W G q r) (pg_key A) (i + 1))) (pg_s A (pg_best (pg_F (pg_Y P B) W G q r) (pg_key A) (i + 1))) (nI (i + 1))) : wX_bestAllocation_37 post J q r (nI G) (pg_o (pg_best (pg_F (pg_Y P B) W G q r) (pg_key A) i)) (pg_s A (pg_best (pg_F (pg_Y P B) W G q r) (pg_key A) i)) (nI i) 1 (nI P) f2 (pg_arr B) (pg_arr W) (pg_arr A) := by
  refine br_f pg_10 (pg_xal hi hG hB hW hBP rfl rfl ?_)
  cases k : pg_al (pg_Y P B) W G i
  · have e : pg_F (pg_Y P B) W G q r i = false := by
      unfold pg_F
      rw [k, Bool.and_false]
    rw [pg_best_n e] at h
    exact br_t rfl (nm_r (nI_1 i) h)
  · have e : pg_F (pg_Y P B) W G q r i = true := pg_F_is.mpr ⟨hq, hr, k⟩
    refine br_f pg_10 (pg_xsum hi rfl ?_)
    cases c : pg_best (pg_F (pg_Y P B) W G q r) (pg_key A) i with
    | none =>
      rw [pg_best_0 e c] at h
      exact br_t (pg_m1lt (pg_sum31 hA i)) (nm_r (nI_1 i) h)
    | some m =>
      have hm : m < 256 := Nat.lt_trans (pg_best_some i m c).1 hi
      by_cases l : pg_sum A m 8 < pg_sum A i 8
      · rw [pg_best_t e c (pg_key_lt.mpr (Or.inl l))] at h
        exact br_t (nI_lt l (pg_sum31 hA i)) (nm_r (nI_1 i) h)
      · refine br_f (nI_nlt (Nat.not_lt.mp l) (pg_sum31 hA m)) ?_
        by_cases t : pg_sum A i 8 = pg_sum A m 8
        · refine br_t (show nI (pg_sum A i 8) = nI (pg_sum A m 8) by rw [t]) (pg_xgb _ hi hm ?_)
          by_cases v : pg_rv m < pg_rv i
          · rw [pg_best_t e c (pg_key_lt.mpr (Or.inr ⟨t, v⟩))] at h
            rw [decide_eq_true v]
            exact br_f pg_10 (nm_r (nI_1 i) h)
          · rw [pg_best_f c (fun z => by rcases pg_key_lt.mp z with a | a; exact l a; exact v a.2)] at h
            rw [decide_eq_false v]
            exact br_t rfl (nm_r (nI_1 i) h)
        · rw [pg_best_f c (fun z => by rcases pg_key_lt.mp z with a | a; exact l a; exact t a.1)] at h
          exact br_f (fun z => t ((nI_eq (pg_sum31 hA i) (pg_sum31 hA m)).mp z)) (nm_r (nI_1 i) h)
theorem pg_xbest_n {post : Int32 → Prop} {J : Int32 → Int32 → Int32 → Prop} {i : Nat} {x1 x2 x3 x4 x5 f1 f2 : Int32} {a1 a2 a3 : Nat → Int32} (h : J x4 x5 (nI (i + 1))) : wX_bestAllocation_36 post J x1 x2 x3 x4 x5 (nI i) f1 f2 a1 a2 a3 := by
  refine br_t rfl (nm_r (nI_1 i) h)
theorem pg_xbest_l {post : Int32 → Prop} {P G : Nat} {f2 q r : Int32} {B W A : Nat → Nat} (hG : G < 256) (hB : ∀ b, B b < 256) (hW : ∀ b, W b < 4) (hA : ∀ b, A b ≤ 50) (hBP : ∀ b, P.testBit b = true → 0 < B b) (h : post (pg_o (pg_be (pg_Y P B) W A G q r))) : ∀ d i, i + d = 256 → wX_bestAllocation_9 post q r (nI G) (nI P) f2 (pg_arr B) (pg_arr W) (pg_arr A) (d + 1) (pg_o (pg_best (pg_F (pg_Y P B) W G q r) (pg_key A) i)) (pg_s A (pg_best (pg_F (pg_Y P B) W G q r) (pg_key A) i)) (nI i) := by
  intro d
  induction d with
  | zero =>
    intro i hi
    have e : i = 256 := by omega
    subst e
    exact br_t pg_e256 h
  | succ d ih =>
    intro i hi
    have hi8 : i < 256 := by omega
    have IH := ih (i + 1) (by omega)
    refine br_f (pg_g256 hi8) ?_
    by_cases hq : nI i &&& q = q
    · refine br_t hq ?_
      by_cases hr : nI i &&& r = 0
      · exact br_t hr (pg_xbest_b hi8 hG hB hW hA hBP hq hr IH)
      · rw [pg_best_n (by unfold pg_F; rw [decide_eq_false hr, Bool.and_false, Bool.false_and])] at IH
        exact br_f hr (pg_xbest_n IH)
    · rw [pg_best_n (by unfold pg_F; rw [decide_eq_false hq, Bool.false_and, Bool.false_and])] at IH
      exact br_f hq (pg_xbest_n IH)
theorem pg_xbest {post : Int32 → Prop} {P G : Nat} {f2 q r g : Int32} {B W A : Nat → Nat} (hG : G < 256) (hB : ∀ b, B b < 256) (hW : ∀ b, W b < 4) (hA : ∀ b, A b ≤ 50) (hBP : ∀ b, P.testBit b = true → 0 < B b) (eg : g = nI G) (h : post (pg_o (pg_be (pg_Y P B) W A G q r))) : wpX_bestAllocation post (nI P, f2, pg_arr B, pg_arr W, pg_arr A) q r g := by
  subst eg
  exact ⟨257, pg_xbest_l hG hB hW hA hBP h 256 0 rfl⟩
theorem pg_xof_l {post : Int32 → Prop} {P p : Nat} {f2 : Int32} {B W : Nat → Nat} {a3 : Nat → Int32} (hP : P < 256) (hp : p < 4) (hW : ∀ b, W b < 4) (hBP : ∀ b, P.testBit b = true → 0 < B b) (h : post (nI (pg_of (pg_Y P B) W p 8))) : ∀ d j, j + d = 8 → wX_bidsOf_4 post (nI p) (nI P) f2 (pg_arr B) (pg_arr W) a3 (d + 1) (nI (pg_of (pg_Y P B) W p j)) (nI j) := by
  intro d
  induction d with
  | zero =>
    intro j hj
    have e : j = 8 := by omega
    subst e
    exact br_t pg_e8 h
  | succ d ih =>
    intro j hj
    have hj8 : j < 8 := by omega
    have IH := ih (j + 1) (by omega)
    refine br_f (pg_g8 hj8) (pg_xcon _ hP hj8 rfl rfl ?_)
    have u : pg_of (pg_Y P B) W p (j + 1) = if 0 < pg_Y P B j ∧ W j = p then pg_of (pg_Y P B) W p j ||| 2 ^ j else pg_of (pg_Y P B) W p j := rfl
    rw [u] at IH
    cases k : P.testBit j
    · rw [if_neg (fun z => by rw [(pg_Y_pos hBP).mp z.1] at k; cases k)] at IH
      exact br_t rfl (nm_r (nI_1 j) IH)
    · refine br_f pg_10 ⟨pg_i8 hj8, ?_⟩
      rw [pg_at W (show j < 256 by omega)]
      by_cases t : W j = p
      · rw [if_pos ⟨(pg_Y_pos hBP).mpr k, t⟩] at IH
        refine br_t (by rw [t]) (nm_r ?_ (nm_r (nI_1 j) IH))
        rw [pg_sh j hj8, pg_or]
      · rw [if_neg (fun z => t z.2)] at IH
        exact br_f (fun z => t ((nI_eq (Nat.lt_trans (hW j) (by decide)) (Nat.lt_trans hp (by decide))).mp z)) (nm_r (nI_1 j) IH)
theorem pg_xof {post : Int32 → Prop} {P p : Nat} {f2 : Int32} {B W : Nat → Nat} {a3 : Nat → Int32} (hP : P < 256) (hp : p < 4) (hW : ∀ b, W b < 4) (hBP : ∀ b, P.testBit b = true → 0 < B b) (h : post (nI (pg_of (pg_Y P B) W p 8))) : wpX_bidsOf post (nI P, f2, pg_arr B, pg_arr W, a3) (nI p) :=
  ⟨9, pg_xof_l hP hp hW hBP h 8 0 rfl⟩
theorem pg_xsold_l {post : Int32 → Prop} {P s : Nat} {f2 : Int32} {B : Nat → Nat} {a2 a3 : Nat → Int32} (hs : s < 256) (hP : ∀ b, s.testBit b = true → P.testBit b = true) (h : post (nI (pg_sold (pg_Y P B) s 8))) : ∀ d j, j + d = 8 → wX_sold_9 post (nI s) (nI P) f2 (pg_arr B) a2 a3 (d + 1) (nI (pg_sold (pg_Y P B) s j)) (nI j) := by
  intro d
  induction d with
  | zero =>
    intro j hj
    have e : j = 8 := by omega
    subst e
    exact br_t pg_e8 h
  | succ d ih =>
    intro j hj
    have hj8 : j < 8 := by omega
    have IH := ih (j + 1) (by omega)
    refine br_f (pg_g8 hj8) (pg_xcon _ hs hj8 rfl rfl ?_)
    have u : pg_sold (pg_Y P B) s (j + 1) = if s.testBit j = true then pg_sold (pg_Y P B) s j ||| pg_Y P B j else pg_sold (pg_Y P B) s j := rfl
    rw [u] at IH
    cases k : s.testBit j
    · rw [if_neg (pg_nt k)] at IH
      exact br_t rfl (nm_r (nI_1 j) IH)
    · rw [if_pos k, pg_Y_t (hP j k)] at IH
      refine br_f pg_10 ⟨pg_i8 hj8, nm_r ?_ (nm_r (nI_1 j) IH)⟩
      rw [pg_at B (by omega), pg_or]
/-- v is the number of a bid -/
def pg_is (D : Nat → Nat) (v : Int32) : Prop := ∃ j, j < 8 ∧ v = nI j ∧ 0 < D j
theorem pg_xis {post : Int32 → Prop} {P : Nat} {f2 : Int32} {B : Nat → Nat} {a1 a2 a3 : Nat → Int32} (hP : P < 256) (hBP : ∀ b, P.testBit b = true → 0 < B b) (v : Int32) (h1 : pg_is (pg_Y P B) v → post 1) (h0 : ¬ pg_is (pg_Y P B) v → post 0) : wpX_isBid post (nI P, f2, a1, a2, a3) v := by
  rcases pg_cut v 8 (by decide) with h | ⟨h, h8⟩ | ⟨j, hj, e⟩
  · refine br_t h (h0 ?_)
    rintro ⟨j, hj, e, _⟩
    rw [e] at h
    exact nI_pos (by omega) h
  · rw [pg_8] at h8
    refine br_f h (br_t h8 (h0 ?_))
    rintro ⟨j, hj, e, _⟩
    rw [e] at h8
    exact pg_g8 hj h8
  · subst e
    refine br_f (nI_pos (by omega)) (br_f (pg_g8 hj) (pg_xcon _ hP hj rfl rfl ?_))
    cases k : P.testBit j
    · refine br_t rfl (h0 ?_)
      rintro ⟨i, hi, e, z⟩
      rw [nI_eq (by omega) (by omega)] at e
      subst e
      rw [(pg_Y_pos hBP).mp z] at k
      cases k
    · exact br_f pg_10 (h1 ⟨j, hj, rfl, (pg_Y_pos hBP).mpr k⟩)
theorem pg_xfree {post : Int32 → SX → Prop} {P H x y z j : Nat} {B W A : Nat → Nat} (hP : P < 256) (hj : j < 8) (hf : P.testBit j = false) (hb : ∀ b, b < j → P.testBit b = true) (hBP : ∀ b, P.testBit b = true → 0 < B b) (h : post (nI j) (nI (P ||| 2 ^ j), nI H, pg_arr (pg_up B j x), pg_arr (pg_up W j y), pg_arr (pg_up A j z))) : ∀ d i, i + d = j → wX_bid_33 post (nI x) (nI y) (nI z) (nI P) (nI H) (pg_arr B) (pg_arr W) (pg_arr A) (d + 1) (nI i) := by
  intro d
  induction d with
  | zero =>
    intro i hi
    have e : i = j := by omega
    subst e
    refine br_f (pg_g8 hj) (pg_xis hP hBP _ (fun z => ?_) (fun _ => ?_))
    · obtain ⟨i', _, e, z⟩ := z
      rw [nI_eq (by omega) (by omega)] at e
      subst e
      rw [(pg_Y_pos hBP).mp z] at hf
      cases hf
    · have hi := pg_i8 hj
      exact br_t rfl ⟨hi, nm_r (pg_upd B (by omega) x) ⟨hi, nm_r (pg_upd W (by omega) y) ⟨hi, nm_r (pg_upd A (by omega) z) (nm_r (by rw [pg_sh i hj, pg_or]) h)⟩⟩⟩
  | succ d ih =>
    intro i hi
    have hi8 : i < 8 := by omega
    refine br_f (pg_g8 hi8) (pg_xis hP hBP _ (fun _ => ?_) (fun z => ?_))
    · exact br_f pg_10 (nm_r (nI_1 i) (ih (i + 1) (by omega)))
    · exact absurd ⟨i, hi8, rfl, (pg_Y_pos hBP).mpr (hb i (by omega))⟩ z
theorem pg_xfull {post : Int32 → SX → Prop} {P H : Nat} {x1 x2 x3 : Int32} {B W A : Nat → Nat} (hP : P < 256) (hb : ∀ b, b < 8 → P.testBit b = true) (hBP : ∀ b, P.testBit b = true → 0 < B b) (h : post (-2) (nI P, nI H, pg_arr B, pg_arr W, pg_arr A)) : ∀ d i, i + d = 8 → wX_bid_33 post x1 x2 x3 (nI P) (nI H) (pg_arr B) (pg_arr W) (pg_arr A) (d + 1) (nI i) := by
  intro d
  induction d with
  | zero =>
    intro i hi
    have e : i = 8 := by omega
    subst e
    exact br_t pg_e8 h
  | succ d ih =>
    intro i hi
    have hi8 : i < 8 := by omega
    refine br_f (pg_g8 hi8) (pg_xis hP hBP _ (fun _ => ?_) (fun z => ?_))
    · exact br_f pg_10 (nm_r (nI_1 i) (ih (i + 1) (by omega)))
    · exact absurd ⟨i, hi8, rfl, (pg_Y_pos hBP).mpr (hb i (by omega))⟩ z
