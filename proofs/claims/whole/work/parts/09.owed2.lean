/-! the calls that only ask: both sides at the best sets -/
theorem pg_be_ex (D W A : Nat → Nat) (H : Nat) (r : Int32) : ∃ w, pg_be D W A H 0 r = some w ∧ w < 256 ∧ pg_al D W H w = true := by
  obtain ⟨w, e, h, hF, _⟩ := pg_best_ex (K := pg_key A) (pg_F_0 D W H r)
  exact ⟨w, e, h, (pg_F_is.mp hF).2.2⟩
theorem pg_be_lt {D W A : Nat → Nat} {H w : Nat} {q r : Int32} (h : pg_be D W A H q r = some w) : w < 256 := (pg_best_some 256 w h).1
theorem pg_ywin {post : Int32 → SY → Prop} {D W A : Nat → Nat} {H : Nat} {a4 : Nat → Int32} (hD : ∀ b, D b < 256) (hW : ∀ b, W b < 4) (hA : ∀ b, A b ≤ 50) (h : ∀ a4, post (pg_o (pg_be D W A H 0 0)) (nI H, pg_arr D, pg_arr W, pg_arr A, a4)) : wpY_winners post (nI H, pg_arr D, pg_arr W, pg_arr A, a4) := by
  unfold wpY_winners
  dsimp only
  refine pg_ywork hD hW (fun a hf => ?_)
  dsimp only
  exact pg_ybest hA hf (h a)
theorem pg_xwin {post : Int32 → Prop} {P H : Nat} {B W A : Nat → Nat} (ok : pg_Ok P H B W A) (h : post (pg_o (pg_be (pg_Y P B) W A H 0 0))) : wpX_winners post (nI P, nI H, pg_arr B, pg_arr W, pg_arr A) := by
  obtain ⟨hP, hH, hB, hW, hA, hBP⟩ := ok
  unfold wpX_winners
  dsimp only
  exact pg_xbest hH hB hW hA hBP rfl h
theorem i_vc_winners {k : Nat} {u : SX} {v : SY} (I : i_Rel k u v) (hk : k + 4 ≤ 2048) : wpX_winners (fun r => wpY_winners (fun r' v' => r' = r ∧ i_Rel (k + 4) u v') v) u := by
  obtain ⟨P, H, B, W, A, f, ok, rfl, rfl⟩ := I
  have hD := pg_YD ok
  obtain ⟨hP, hH, hB, hW, hA, hBP⟩ := id ok
  exact pg_xwin ok (pg_ywin hD hW hA (fun a => ⟨rfl, pg_rel ok⟩))
theorem pg_yrev {post : Int32 → SY → Prop} {D W A : Nat → Nat} {H w : Nat} {a4 : Nat → Int32} (hD : ∀ b, D b < 256) (hW : ∀ b, W b < 4) (hA : ∀ b, A b ≤ 50) (hw : pg_be D W A H 0 0 = some w) (h : ∀ a4, post (nI (pg_sum A w 8)) (nI H, pg_arr D, pg_arr W, pg_arr A, a4)) : wpY_revenue post (nI H, pg_arr D, pg_arr W, pg_arr A, a4) := by
  unfold wpY_revenue
  dsimp only
  refine pg_ywin hD hW hA (fun a => ?_)
  rw [hw]
  exact pg_ysum (pg_be_lt hw) (h a)
theorem i_vc_revenue {k : Nat} {u : SX} {v : SY} (I : i_Rel k u v) (hk : k + 4 ≤ 2048) : wpX_revenue (fun r => wpY_revenue (fun r' v' => r' = r ∧ i_Rel (k + 4) u v') v) u := by
  obtain ⟨P, H, B, W, A, f, ok, rfl, rfl⟩ := I
  have hD := pg_YD ok
  obtain ⟨hP, hH, hB, hW, hA, hBP⟩ := id ok
  obtain ⟨w, hw, hl, _⟩ := pg_be_ex (pg_Y P B) W A H 0
  unfold wpX_revenue
  dsimp only
  refine pg_xwin ok ?_
  rw [hw]
  exact pg_xsum hl rfl (pg_yrev hD hW hA hw (fun a => ⟨rfl, pg_rel ok⟩))
theorem i_vc_sold {k : Nat} {u : SX} {v : SY} (I : i_Rel k u v) (hk : k + 4 ≤ 2048) : wpX_sold (fun r => wpY_sold (fun r' v' => r' = r ∧ i_Rel (k + 4) u v') v) u := by
  obtain ⟨P, H, B, W, A, f, ok, rfl, rfl⟩ := I
  have hD := pg_YD ok
  obtain ⟨hP, hH, hB, hW, hA, hBP⟩ := id ok
  obtain ⟨w, hw, hl, hal⟩ := pg_be_ex (pg_Y P B) W A H 0
  unfold wpX_sold
  dsimp only
  refine pg_xwin ok ?_
  rw [hw]
  refine ⟨9, pg_xsold_l hl (fun b hb => (pg_Y_pos hBP).mp (pg_al_d hal b (pg_lt8 hl hb) hb).1) ?_ 8 0 rfl⟩
  unfold wpY_sold
  dsimp only
  refine pg_ywin hD hW hA (fun a => ?_)
  rw [hw]
  exact ⟨9, pg_ysold_l hl ⟨rfl, pg_rel ok⟩ 8 0 rfl⟩
theorem pg_xwo {post : Int32 → Prop} {P H p w : Nat} {B W A : Nat → Nat} (ok : pg_Ok P H B W A) (hp : p < 4) (hw : pg_be (pg_Y P B) W A H 0 (nI (pg_of (pg_Y P B) W p 8)) = some w) (h : post (nI (pg_sum A w 8))) : wpX_revenueWithout post (nI P, nI H, pg_arr B, pg_arr W, pg_arr A) (nI p) := by
  obtain ⟨hP, hH, hB, hW, hA, hBP⟩ := ok
  unfold wpX_revenueWithout
  dsimp only
  have a : ¬ (4 : Int32) ≤ nI p := by rw [← pg_4]; exact nI_ge hp (by decide)
  refine br_f (nI_pos (by omega)) (br_f a (br_f pg_10 (pg_xof hP hp hW hBP (pg_xbest hH hB hW hA hBP rfl ?_))))
  rw [hw]
  exact pg_xsum (pg_be_lt hw) rfl h
theorem pg_ywo {post : Int32 → SY → Prop} {D W A : Nat → Nat} {H p w : Nat} {a4 : Nat → Int32} (hD : ∀ b, D b < 256) (hW : ∀ b, W b < 4) (hA : ∀ b, A b ≤ 50) (hp : p < 4) (hw : pg_be D W A H 0 (nI (pg_of D W p 8)) = some w) (h : ∀ a4, post (nI (pg_sum A w 8)) (nI H, pg_arr D, pg_arr W, pg_arr A, a4)) : wpY_revenueWithout post (nI H, pg_arr D, pg_arr W, pg_arr A, a4) (nI p) := by
  unfold wpY_revenueWithout
  dsimp only
  have c : ¬ (3 : Int32) < nI p := by rw [← pg_3]; exact nI_nlt (by omega) (by decide)
  refine br_f (nI_pos (by omega)) (br_f c (br_f pg_10 (pg_ywork hD hW (fun a hf => ?_))))
  dsimp only
  refine pg_yof hp hD hW (pg_ybest hA hf ?_)
  rw [hw]
  exact pg_ysum (pg_be_lt hw) (h a)
theorem i_vc_revenueWithout {k : Nat} {u : SX} {v : SY} (I : i_Rel k u v) (hk : k + 4 ≤ 2048) (v1 : Int32) : wpX_revenueWithout (fun r => wpY_revenueWithout (fun r' v' => r' = r ∧ i_Rel (k + 4) u v') v v1) u v1 := by
  obtain ⟨P, H, B, W, A, f, ok, rfl, rfl⟩ := I
  have hD := pg_YD ok
  obtain ⟨hP, hH, hB, hW, hA, hBP⟩ := id ok
  rcases pg_bi v1 with a | ⟨a, b, c⟩ | ⟨p, hp, e, a, b, c⟩
  · unfold wpX_revenueWithout wpY_revenueWithout
    dsimp only
    exact br_t a (br_t rfl (br_t a (br_t rfl ⟨rfl, pg_rel ok⟩)))
  · unfold wpX_revenueWithout wpY_revenueWithout
    dsimp only
    exact br_f a (br_t b (br_t rfl (br_f a (br_t c (br_t rfl ⟨rfl, pg_rel ok⟩)))))
  · subst e
    obtain ⟨w, hw, _, _⟩ := pg_be_ex (pg_Y P B) W A H (nI (pg_of (pg_Y P B) W p 8))
    exact pg_xwo ok hp hw (pg_ywo hD hW hA hp hw (fun a => ⟨rfl, pg_rel ok⟩))
theorem pg_nsub (x y : Nat) : nI (x + y) - nI y = nI x := by
  rw [← nI_add, Int32.add_sub_cancel]
theorem i_vc_payment {k : Nat} {u : SX} {v : SY} (I : i_Rel k u v) (hk : k + 4 ≤ 2048) (v1 : Int32) : wpX_payment (fun r => wpY_payment (fun r' v' => r' = r ∧ i_Rel (k + 4) u v') v v1) u v1 := by
  obtain ⟨P, H, B, W, A, f, ok, rfl, rfl⟩ := I
  have hD := pg_YD ok
  obtain ⟨hP, hH, hB, hW, hA, hBP⟩ := id ok
  unfold wpX_payment
  dsimp only
  rcases pg_bi v1 with a | ⟨a, b, c⟩ | ⟨p, hp, e, a, b, c⟩
  · refine br_t a (br_t rfl ?_)
    unfold wpY_payment
    dsimp only
    exact br_t a (br_t rfl ⟨rfl, pg_rel ok⟩)
  · refine br_f a (br_t b (br_t rfl ?_))
    unfold wpY_payment
    dsimp only
    exact br_f a (br_t c (br_t rfl ⟨rfl, pg_rel ok⟩))
  · subst e
    obtain ⟨w, hw, hl, _⟩ := pg_be_ex (pg_Y P B) W A H 0
    obtain ⟨w1, hw1, _, _⟩ := pg_be_ex (pg_Y P B) W A H (nI (pg_of (pg_Y P B) W p 8))
    have hm : w &&& pg_of (pg_Y P B) W p 8 < 256 := pg_andlt _ hl
    have ho : w &&& ((w &&& pg_of (pg_Y P B) W p 8) ^^^ (2 ^ 8 - 1)) < 256 := pg_andlt _ hl
    refine br_f a (br_f b (br_f pg_10 (pg_xwin ok ?_)))
    rw [hw]
    refine pg_xof hP hp hW hBP (nm_r (nx_and _ _) ?_)
    by_cases z : nI (w &&& pg_of (pg_Y P B) W p 8) = 0
    · refine br_t z ?_
      unfold wpY_payment
      dsimp only
      refine br_f a (br_f c (br_f pg_10 (pg_ywin hD hW hA (fun a4 => ?_))))
      rw [hw]
      exact pg_yof hp hD hW (nm_r (nx_and _ _) (br_t z ⟨rfl, pg_rel ok⟩))
    · refine br_f z (nm_r (pg_andn _ hl) (pg_xwo ok hp hw1 (pg_xsum ho rfl ?_)))
      unfold wpY_payment
      dsimp only
      refine br_f a (br_f c (br_f pg_10 (pg_ywin hD hW hA (fun a4 => ?_))))
      rw [hw]
      refine pg_yof hp hD hW (nm_r (nx_and _ _) (br_f z (pg_ywo hD hW hA hp hw1 (fun a5 => ?_))))
      refine pg_ysum hl (pg_ysum hm ⟨?_, pg_rel ok⟩)
      have s := pg_sum_split A w (w &&& pg_of (pg_Y P B) W p 8) 8 (Nat.le_refl 8)
      rw [← Nat.and_assoc, Nat.and_self] at s
      rw [← s, pg_nsub]
theorem i_vc_revenueWith {k : Nat} {u : SX} {v : SY} (I : i_Rel k u v) (hk : k + 4 ≤ 2048) (v1 : Int32) : wpX_revenueWith (fun r => wpY_revenueWith (fun r' v' => r' = r ∧ i_Rel (k + 4) u v') v v1) u v1 := by
  obtain ⟨P, H, B, W, A, f, ok, rfl, rfl⟩ := I
  have hD := pg_YD ok
  obtain ⟨hP, hH, hB, hW, hA, hBP⟩ := id ok
  unfold wpX_revenueWith
  dsimp only
  refine pg_xis hP hBP v1 (fun y => ?_) (fun y => ?_)
  · refine br_f pg_10 (pg_xbest hH hB hW hA hBP rfl ?_)
    cases c : pg_be (pg_Y P B) W A H ((1 : Int32) <<< (v1 &&& 31)) 0 with
    | none =>
      refine br_t rfl ?_
      unfold wpY_revenueWith
      dsimp only
      refine pg_yis hD _ (fun _ => br_f pg_10 (pg_ywork hD hW (fun a hf => ?_))) (fun y' => absurd y y')
      dsimp only
      refine pg_ybest hA hf ?_
      rw [c]
      exact br_f (show ¬ (0 : Int32) ≤ -1 by decide) ⟨rfl, pg_rel ok⟩
    | some w =>
      have hl := pg_be_lt c
      have n : ¬ nI w = -1 := by
        intro z
        have := nI_pos (n := w) (by omega)
        rw [z] at this
        exact this (by decide)
      refine br_f n (pg_xsum hl rfl ?_)
      unfold wpY_revenueWith
      dsimp only
      refine pg_yis hD _ (fun _ => br_f pg_10 (pg_ywork hD hW (fun a hf => ?_))) (fun y' => absurd y y')
      dsimp only
      refine pg_ybest hA hf ?_
      rw [c]
      exact br_t (nI_pos' (by omega)) (pg_ysum hl ⟨rfl, pg_rel ok⟩)
  · refine br_t rfl ?_
    unfold wpY_revenueWith
    dsimp only
    exact pg_yis hD _ (fun y' => absurd y' y) (fun _ => br_t rfl ⟨rfl, pg_rel ok⟩)
theorem i_vc_price {k : Nat} {u : SX} {v : SY} (I : i_Rel k u v) (hk : k + 4 ≤ 2048) (v1 : Int32) : wpX_price (fun r => wpY_price (fun r' v' => r' = r ∧ i_Rel (k + 4) u v') v v1) u v1 := by
  obtain ⟨P, H, B, W, A, f, ok, rfl, rfl⟩ := I
  have hD := pg_YD ok
  obtain ⟨hP, hH, hB, hW, hA, hBP⟩ := id ok
  unfold wpX_price
  dsimp only
  rcases pg_it v1 with a | ⟨a, b, c⟩ | ⟨j, hj, e, a, b, c⟩
  · exact br_t a (br_t rfl (br_t a ⟨rfl, pg_rel ok⟩))
  · exact br_f a (br_t b (br_t rfl (br_f a (br_f c ⟨rfl, pg_rel ok⟩))))
  · subst e
    have e1 : nI H ||| ((1 : Int32) <<< (nI j &&& 31)) = nI (H ||| 2 ^ j) := by rw [pg_sh j hj, pg_or]
    obtain ⟨w, hw, hl, _⟩ := pg_be_ex (pg_Y P B) W A H 0
    obtain ⟨w1, hw1, hl1, _⟩ := pg_be_ex (pg_Y P B) W A (H ||| 2 ^ j) 0
    refine br_f a (br_f b (br_f pg_10 (pg_xbest hH hB hW hA hBP rfl ?_)))
    refine pg_xbest (pg_orlt hH (pg_p2 hj)) hB hW hA hBP e1 ?_
    rw [hw, hw1]
    refine pg_xsum hl rfl (pg_xsum hl1 rfl (br_f a (br_t c ?_)))
    refine pg_yrev hD hW hA hw (fun a4 => ?_)
    dsimp only
    refine nm_r e1 (pg_yrev hD hW hA hw1 (fun a5 => ?_))
    exact ⟨rfl, pg_rel ok⟩
theorem pg_out {P : Nat} (hP : P < 256) {v : Int32} (h : ∀ s, s < 256 → v ≠ nI s) : ¬ (v &&& (nI P ^^^ (-1))) = 0 := by
  intro z
  rw [pg_nn] at z
  have e : v = nI v.toBitVec.toNat := by
    apply Int32.toBitVec_inj.1
    show v.toBitVec = BitVec.ofNat 32 v.toBitVec.toNat
    simp
  rw [e, nx_and] at z
  exact h (P &&& v.toBitVec.toNat) (pg_andlt _ hP) (by rw [z]; exact e)
theorem i_vc_allocation {k : Nat} {u : SX} {v : SY} (I : i_Rel k u v) (hk : k + 4 ≤ 2048) (v1 : Int32) : wpX_allocation (fun r => wpY_allocation (fun r' => r' = r ∧ i_Rel (k + 4) u v) v v1) u v1 := by
  obtain ⟨P, H, B, W, A, f, ok, rfl, rfl⟩ := I
  have hD := pg_YD ok
  obtain ⟨hP, hH, hB, hW, hA, hBP⟩ := id ok
  unfold wpX_allocation
  dsimp only
  rcases pg_cut v1 256 (by decide) with a | ⟨a, b⟩ | ⟨s, hs, e⟩
  · refine br_f (pg_out hP (fun s hs e => ?_)) ⟨rfl, br_t a ⟨rfl, pg_rel ok⟩⟩
    rw [e] at a
    exact nI_pos (by omega) a
  · rw [pg_256] at b
    refine br_f (pg_out hP (fun s hs e => ?_)) ⟨rfl, br_f a (br_t b ⟨rfl, pg_rel ok⟩)⟩
    rw [e] at b
    exact pg_g256 hs b
  · subst e
    refine pg_xal hs hH hB hW hBP rfl rfl ⟨pg_b_nar _, br_f (nI_pos (by omega)) (br_f (pg_g256 hs) (pg_yal hs hD hW ?_))⟩
    cases pg_al (pg_Y P B) W H s
    · exact br_t rfl ⟨rfl, pg_rel ok⟩
    · exact br_f pg_10 ⟨rfl, pg_rel ok⟩
