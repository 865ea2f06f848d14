/-! the relation; the calls that change the state; bids, withheld -/
def pg_Ok (P H : Nat) (B W A : Nat → Nat) : Prop := P < 256 ∧ H < 256 ∧ (∀ b, B b < 256) ∧ (∀ b, W b < 4) ∧ (∀ b, A b ≤ 50) ∧ (∀ b, P.testBit b = true → 0 < B b)
/-- X's bids that stand and the items withheld as sets; the bundles of Y are X's where a bid stands, and 0 elsewhere -/
def i_Rel (k : Nat) (u : SX) (v : SY) : Prop := ∃ (P H : Nat) (B W A : Nat → Nat) (f : Nat → Int32), pg_Ok P H B W A ∧ u = (nI P, nI H, pg_arr B, pg_arr W, pg_arr A) ∧ v = (nI H, pg_arr (pg_Y P B), pg_arr W, pg_arr A, f)
theorem pg_rel {k P H : Nat} {B W A : Nat → Nat} {f : Nat → Int32} (ok : pg_Ok P H B W A) : i_Rel k (nI P, nI H, pg_arr B, pg_arr W, pg_arr A) (nI H, pg_arr (pg_Y P B), pg_arr W, pg_arr A, f) := ⟨P, H, B, W, A, f, ok, rfl, rfl⟩
theorem i_up {k : Nat} {u : SX} {v : SY} (h : i_Rel k u v) : i_Rel (k + 4) u v := h
theorem pg_z1 : pg_arr (fun _ => 0) = fun _ => 0 := by
  funext b
  exact nI_0
theorem pg_z2 : pg_Y 0 (fun _ => 0) = fun _ => 0 := by
  funext b
  unfold pg_Y
  rw [Nat.zero_testBit]
  rfl
theorem i_vc0 : wpX_init (fun u => wpY_init (fun v => i_Rel 0 u v)) := by
  unfold wpX_init wpY_init
  refine ⟨0, 0, fun _ => 0, fun _ => 0, fun _ => 0, fun _ => 0, ⟨by decide, by decide, fun _ => show (0 : Nat) < 256 by decide, fun _ => show (0 : Nat) < 4 by decide, fun _ => show (0 : Nat) ≤ 50 by decide, fun b h => ?_⟩, ?_, ?_⟩
  · rw [Nat.zero_testBit] at h
    cases h
  · rw [pg_z1, nI_0]
  · rw [pg_z2, pg_z1, nI_0]
theorem pg_YD {P H : Nat} {B W A : Nat → Nat} (ok : pg_Ok P H B W A) : ∀ b, pg_Y P B b < 256 := by
  intro b
  unfold pg_Y
  split
  · exact ok.2.2.1 b
  · decide
theorem pg_Y_set (P j x : Nat) (B : Nat → Nat) : pg_up (pg_Y P B) j x = pg_Y (P ||| 2 ^ j) (pg_up B j x) := by
  funext b
  unfold pg_up pg_Y
  rw [Nat.testBit_or, Nat.testBit_two_pow]
  by_cases e : b = j
  · subst e
    simp
  · have e' : ¬ j = b := fun z => e z.symm
    simp [e, e']
theorem pg_clr_bit {P j b : Nat} (hP : P < 256) : (P &&& (2 ^ j ^^^ (2 ^ 8 - 1))).testBit b = (P.testBit b && !decide (j = b)) := by
  rw [Nat.testBit_and, Nat.testBit_xor, Nat.testBit_two_pow, Nat.testBit_two_pow_sub_one]
  rcases Nat.lt_or_ge b 8 with h | h
  · rw [decide_eq_true h, Bool.xor_true]
  · rw [pg_hi hP h, Bool.false_and, Bool.false_and]
theorem pg_Y_clr {P : Nat} (j : Nat) (B : Nat → Nat) (hP : P < 256) : pg_up (pg_Y P B) j 0 = pg_Y (P &&& (2 ^ j ^^^ (2 ^ 8 - 1))) B := by
  funext b
  unfold pg_up pg_Y
  rw [pg_clr_bit hP]
  by_cases e : b = j
  · subst e
    simp
  · have e' : ¬ j = b := fun z => e z.symm
    simp [e, e']
theorem pg_first (D : Nat → Nat) : ∀ n, (∃ j, j < n ∧ D j = 0 ∧ ∀ b, b < j → 0 < D b) ∨ ∀ b, b < n → 0 < D b := by
  intro n
  induction n with
  | zero => exact Or.inr (fun b hb => absurd hb (Nat.not_lt_zero b))
  | succ n ih =>
    rcases ih with ⟨j, hj, e, h⟩ | h
    · exact Or.inl ⟨j, by omega, e, h⟩
    · by_cases k : D n = 0
      · exact Or.inl ⟨n, by omega, k, h⟩
      · refine Or.inr (fun b hb => ?_)
        rcases Nat.lt_or_ge b n with l | l
        · exact h b l
        · have : b = n := by omega
          subst this
          omega
theorem pg_3 : nI 3 = 3 := by decide +kernel
theorem pg_7 : nI 7 = 7 := by decide +kernel
theorem pg_255 : nI 255 = 255 := by decide +kernel
theorem pg_bi (v : Int32) : v < 0 ∨ (¬ v < 0 ∧ (4 : Int32) ≤ v ∧ (3 : Int32) < v) ∨ ∃ p, p < 4 ∧ v = nI p ∧ ¬ v < 0 ∧ ¬ (4 : Int32) ≤ v ∧ ¬ (3 : Int32) < v := by
  by_cases h : v < 0
  · exact Or.inl h
  · right
    obtain ⟨j, hj, rfl⟩ := nI_of h
    rw [← pg_4, ← pg_3]
    rcases Nat.lt_or_ge j 4 with k | k
    · exact Or.inr ⟨j, k, rfl, h, nI_ge k (by decide), nI_nlt (by omega) (by decide)⟩
    · exact Or.inl ⟨h, nI_le k hj, nI_lt (by omega) hj⟩
theorem pg_it (v : Int32) : v < 0 ∨ (¬ v < 0 ∧ (8 : Int32) ≤ v ∧ ¬ v ≤ 7) ∨ ∃ p, p < 8 ∧ v = nI p ∧ ¬ v < 0 ∧ ¬ (8 : Int32) ≤ v ∧ v ≤ 7 := by
  by_cases h : v < 0
  · exact Or.inl h
  · right
    obtain ⟨j, hj, rfl⟩ := nI_of h
    rw [← pg_8, ← pg_7]
    rcases Nat.lt_or_ge j 8 with k | k
    · exact Or.inr ⟨j, k, rfl, h, nI_ge k (by decide), nI_le (by omega) (by decide)⟩
    · exact Or.inl ⟨h, nI_le k hj, nI_ge (by omega) hj⟩
theorem pg_neg1 {v : Int32} (h : v < 0) : v < 1 := Int32.lt_trans h (by decide)
theorem pg_am (v : Int32) : v < 1 ∨ (¬ v < 1 ∧ (50 : Int32) < v ∧ ¬ v ≤ 50) ∨ ∃ z, 1 ≤ z ∧ z ≤ 50 ∧ v = nI z ∧ ¬ v < 1 ∧ ¬ (50 : Int32) < v ∧ v ≤ 50 := by
  by_cases h : v < 0
  · exact Or.inl (pg_neg1 h)
  · obtain ⟨j, hj, rfl⟩ := nI_of h
    rw [← pg_n1, ← pg_50]
    rcases Nat.lt_or_ge j 1 with k | k
    · exact Or.inl (nI_lt k (by decide))
    · right
      rcases Nat.lt_or_ge 50 j with l | l
      · exact Or.inl ⟨nI_nlt k hj, nI_lt l hj, nI_ge l hj⟩
      · exact Or.inr ⟨j, k, l, rfl, nI_nlt k hj, nI_nlt l (by decide), nI_le l (by decide)⟩
theorem pg_bu (v : Int32) : v < 1 ∨ (¬ v < 1 ∧ (255 : Int32) < v) ∨ ∃ z, 1 ≤ z ∧ z ≤ 255 ∧ v = nI z ∧ ¬ v < 1 ∧ ¬ (255 : Int32) < v := by
  by_cases h : v < 0
  · exact Or.inl (pg_neg1 h)
  · obtain ⟨j, hj, rfl⟩ := nI_of h
    rw [← pg_n1, ← pg_255]
    rcases Nat.lt_or_ge j 1 with k | k
    · exact Or.inl (nI_lt k (by decide))
    · right
      rcases Nat.lt_or_ge 255 j with l | l
      · exact Or.inl ⟨nI_nlt k hj, nI_lt l hj⟩
      · exact Or.inr ⟨j, k, l, rfl, nI_nlt k hj, nI_nlt l (by decide)⟩
theorem pg_ok_set {P H x y z j : Nat} {B W A : Nat → Nat} (ok : pg_Ok P H B W A) (hj : j < 8) (hx : 1 ≤ x) (hx' : x ≤ 255) (hy : y < 4) (hz : z ≤ 50) : pg_Ok (P ||| 2 ^ j) H (pg_up B j x) (pg_up W j y) (pg_up A j z) := by
  obtain ⟨hP, hH, hB, hW, hA, hBP⟩ := ok
  refine ⟨pg_orlt hP (pg_p2 hj), hH, fun b => ?_, fun b => ?_, fun b => ?_, fun b => ?_⟩
  · unfold pg_up
    split
    · omega
    · exact hB b
  · unfold pg_up
    split
    · exact hy
    · exact hW b
  · unfold pg_up
    split
    · exact hz
    · exact hA b
  · rw [Nat.testBit_or, Nat.testBit_two_pow]
    unfold pg_up
    intro h
    split
    · omega
    · rename_i e
      have e' : ¬ j = b := fun z => e z.symm
      rw [decide_eq_false e', Bool.or_false] at h
      exact hBP b h
theorem i_vc_bid {k : Nat} {u : SX} {v : SY} (I : i_Rel k u v) (hk : k + 4 ≤ 2048) (v1 : Int32) (v2 : Int32) (v3 : Int32) : wpX_bid (fun r u' => wpY_bid (fun r' v' => r' = r ∧ i_Rel (k + 4) u' v') v v1 v2 v3) u v1 v2 v3 := by
  obtain ⟨P, H, B, W, A, f, ok, rfl, rfl⟩ := I
  have hD := pg_YD ok
  have hP := ok.1
  have hBP := ok.2.2.2.2.2
  rcases pg_bu v1 with a | ⟨a, b⟩ | ⟨x, x1, x2, ex, a, b⟩
  · exact br_t a (br_t a ⟨rfl, pg_rel ok⟩)
  · exact br_f a (br_t b (br_f a (br_t b ⟨rfl, pg_rel ok⟩)))
  · rcases pg_bi v2 with c | ⟨c, d, e⟩ | ⟨y, y1, ey, c, d, e⟩
    · exact br_f a (br_f b (br_t c (br_t rfl (br_f a (br_f b (br_t c (br_t rfl ⟨rfl, pg_rel ok⟩)))))))
    · exact br_f a (br_f b (br_f c (br_t d (br_t rfl (br_f a (br_f b (br_f c (br_t e (br_t rfl ⟨rfl, pg_rel ok⟩)))))))))
    · rcases pg_am v3 with g | ⟨g, i, j⟩ | ⟨z, z1, z2, ez, g, i, j⟩
      · exact br_f a (br_f b (br_f c (br_f d (br_f pg_10 (br_t g (br_t rfl (br_f a (br_f b (br_f c (br_f e (br_f pg_10 (br_t g ⟨rfl, pg_rel ok⟩))))))))))))
      · exact br_f a (br_f b (br_f c (br_f d (br_f pg_10 (br_f g (br_t i (br_t rfl (br_f a (br_f b (br_f c (br_f e (br_f pg_10 (br_f g (br_f j ⟨rfl, pg_rel ok⟩))))))))))))))
      · refine br_f a (br_f b (br_f c (br_f d (br_f pg_10 (br_f g (br_f i (br_f pg_10 ?_)))))))
        subst ex ey ez
        rcases pg_first (pg_Y P B) 8 with ⟨q, hq, e0, eb⟩ | full
        · have pq : P.testBit q = false := by
            cases w : P.testBit q
            · rfl
            · have := (pg_Y_pos hBP).mpr w
              omega
          refine ⟨_, pg_xfree hP hq pq (fun b hb => (pg_Y_pos hBP).mp (eb b hb)) hBP ?_ q 0 (by omega)⟩
          refine br_f a (br_f b (br_f c (br_f e (br_f pg_10 (br_f g (br_t j ⟨_, pg_yfree hq hD e0 eb ⟨rfl, ?_⟩ q 0 (by omega)⟩))))))
          rw [pg_Y_set]
          exact pg_rel (pg_ok_set ok hq x1 x2 y1 z2)
        · refine ⟨_, pg_xfull hP (fun b hb => (pg_Y_pos hBP).mp (full b hb)) hBP ?_ 8 0 rfl⟩
          exact br_f a (br_f b (br_f c (br_f e (br_f pg_10 (br_f g (br_t j ⟨_, pg_yfull hD full ⟨rfl, pg_rel ok⟩ 8 0 rfl⟩))))))
theorem i_vc_retract {k : Nat} {u : SX} {v : SY} (I : i_Rel k u v) (hk : k + 4 ≤ 2048) (v1 : Int32) : wpX_retract (fun r u' => wpY_retract (fun r' v' => r' = r ∧ i_Rel (k + 4) u' v') v v1) u v1 := by
  obtain ⟨P, H, B, W, A, f, ok, rfl, rfl⟩ := I
  have hD := pg_YD ok
  obtain ⟨hP, hH, hB, hW, hA, hBP⟩ := id ok
  unfold wpX_retract
  dsimp only
  refine pg_xis hP hBP v1 (fun y => ?_) (fun y => ?_)
  · obtain ⟨j, hj, e, z⟩ := id y
    subst e
    refine br_f pg_10 (nm_r (e' := nI (P &&& (2 ^ j ^^^ (2 ^ 8 - 1)))) (by rw [pg_sh j hj, pg_andn _ hP]) ?_)
    unfold wpY_retract
    dsimp only
    refine pg_yis hD _ (fun _ => ?_) (fun y' => absurd y y')
    refine br_f pg_10 ⟨pg_i8 hj, nm_r (pg_upd _ (by omega) 0) ⟨rfl, ?_⟩⟩
    rw [pg_Y_clr j B hP]
    refine pg_rel ⟨pg_andlt _ hP, hH, hB, hW, hA, fun b h => ?_⟩
    rw [pg_clr_bit hP, Bool.and_eq_true] at h
    exact hBP b h.1
  · refine br_t rfl ?_
    unfold wpY_retract
    dsimp only
    exact pg_yis hD _ (fun y' => absurd y' y) (fun _ => br_t rfl ⟨rfl, pg_rel ok⟩)
theorem i_vc_raise {k : Nat} {u : SX} {v : SY} (I : i_Rel k u v) (hk : k + 4 ≤ 2048) (v1 : Int32) (v2 : Int32) : wpX_raise (fun r u' => wpY_raise (fun r' v' => r' = r ∧ i_Rel (k + 4) u' v') v v1 v2) u v1 v2 := by
  obtain ⟨P, H, B, W, A, f, ok, rfl, rfl⟩ := I
  have hD := pg_YD ok
  obtain ⟨hP, hH, hB, hW, hA, hBP⟩ := id ok
  unfold wpX_raise
  dsimp only
  refine pg_xis hP hBP v1 (fun y => ?_) (fun y => ?_)
  · obtain ⟨j, hj, e, z⟩ := id y
    subst e
    refine br_f pg_10 ?_
    rcases pg_am v2 with g | ⟨g, i, l⟩ | ⟨x, z1, z2, ez, g, i, l⟩
    · refine br_t g (br_t rfl ?_)
      unfold wpY_raise
      dsimp only
      exact pg_yis hD _ (fun _ => br_f pg_10 (br_t g ⟨rfl, pg_rel ok⟩)) (fun y' => absurd y y')
    · refine br_f g (br_t i (br_t rfl ?_))
      unfold wpY_raise
      dsimp only
      exact pg_yis hD _ (fun _ => br_f pg_10 (br_f g (br_f l ⟨rfl, pg_rel ok⟩))) (fun y' => absurd y y')
    · subst ez
      refine br_f g (br_f i (br_f pg_10 ⟨pg_i8 hj, nm_r (pg_upd _ (by omega) x) ?_⟩))
      unfold wpY_raise
      dsimp only
      refine pg_yis hD _ (fun _ => br_f pg_10 (br_f g (br_t l ⟨pg_i8 hj, nm_r (pg_upd _ (by omega) x) ⟨rfl, pg_rel ⟨hP, hH, hB, hW, fun b => ?_, hBP⟩⟩⟩))) (fun y' => absurd y y')
      unfold pg_up
      split
      · exact z2
      · exact hA b
  · refine br_t rfl ?_
    unfold wpY_raise
    dsimp only
    exact pg_yis hD _ (fun y' => absurd y' y) (fun _ => br_t rfl ⟨rfl, pg_rel ok⟩)
theorem i_vc_withhold {k : Nat} {u : SX} {v : SY} (I : i_Rel k u v) (hk : k + 4 ≤ 2048) (v1 : Int32) (v2 : Int32) : wpX_withhold (fun r u' => wpY_withhold (fun r' v' => r' = r ∧ i_Rel (k + 4) u' v') v v1 (lw_bz v2)) u v1 (lw_bz v2) := by
  obtain ⟨P, H, B, W, A, f, ok, rfl, rfl⟩ := I
  obtain ⟨hP, hH, hB, hW, hA, hBP⟩ := id ok
  unfold wpX_withhold
  dsimp only
  rcases pg_it v1 with a | ⟨a, b, c⟩ | ⟨j, hj, e, a, b, c⟩
  · exact br_t a (br_t rfl (br_t a ⟨rfl, pg_rel ok⟩))
  · exact br_f a (br_t b (br_t rfl (br_f a (br_f c ⟨rfl, pg_rel ok⟩))))
  · subst e
    refine br_f a (br_f b (br_f pg_10 ?_))
    by_cases t : lw_bz v2 = 0
    · have e1 : nI H &&& (((1 : Int32) <<< (nI j &&& 31)) ^^^ (-1)) = nI (H &&& (2 ^ j ^^^ (2 ^ 8 - 1))) := by rw [pg_sh j hj, pg_andn _ hH]
      exact br_t t (nm_r e1 (br_f a (br_t c (br_t t (nm_r e1 ⟨rfl, pg_rel ⟨hP, pg_andlt _ hH, hB, hW, hA, hBP⟩⟩)))))
    · have e1 : nI H ||| ((1 : Int32) <<< (nI j &&& 31)) = nI (H ||| 2 ^ j) := by rw [pg_sh j hj, pg_or]
      exact br_f t (nm_r e1 (br_f a (br_t c (br_f t (nm_r e1 ⟨rfl, pg_rel ⟨hP, pg_orlt hH (pg_p2 hj), hB, hW, hA, hBP⟩⟩)))))
theorem i_vc_bids {k : Nat} {u : SX} {v : SY} (I : i_Rel k u v) (hk : k + 4 ≤ 2048) : wpX_bids (fun r => wpY_bids (fun r' => r' = r ∧ i_Rel (k + 4) u v) v) u := by
  obtain ⟨P, H, B, W, A, f, ok, rfl, rfl⟩ := I
  have hD := pg_YD ok
  have hBP := ok.2.2.2.2.2
  have e : pg_cov (pg_Y P B) 8 = P := by
    apply Nat.eq_of_testBit_eq
    intro i
    rw [pg_cov_bit]
    cases w : P.testBit i
    · exact decide_eq_false (fun z => by rw [(pg_Y_pos hBP).mp z.2] at w; cases w)
    · exact decide_eq_true ⟨pg_lt8 ok.1 w, (pg_Y_pos hBP).mpr w⟩
  refine ⟨9, pg_ybids_l hD ⟨?_, pg_rel ok⟩ 8 0 rfl⟩
  rw [e]
theorem i_vc_withheld {k : Nat} {u : SX} {v : SY} (I : i_Rel k u v) (hk : k + 4 ≤ 2048) : wpX_withheld (fun r => wpY_withheld (fun r' => r' = r ∧ i_Rel (k + 4) u v) v) u := by
  obtain ⟨P, H, B, W, A, f, ok, rfl, rfl⟩ := I
  exact ⟨rfl, pg_rel ok⟩
