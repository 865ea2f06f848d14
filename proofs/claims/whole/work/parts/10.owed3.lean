/-! threshold -/
theorem pg_ythr {post : Int32 → SY → Prop} {D W A : Nat → Nat} {H b : Nat} {a4 : Nat → Int32} {win : Nat → Bool} (hb : b < 8) (hz : 0 < D b) (hD : ∀ b, D b < 256) (hW : ∀ b, W b < 4) (hA : ∀ b, A b ≤ 50) (hw : ∀ a, 1 ≤ a → a ≤ 50 → ∃ s, s < 256 ∧ pg_be D W (pg_up A b a) H 0 0 = some s ∧ s.testBit b = win a) (h : ∀ L a4, 1 ≤ L → L ≤ 51 → (L ≤ 50 → win L = true) → (∀ a, 1 ≤ a → a < L → win a = false) → post (nI L) (nI H, pg_arr D, pg_arr W, pg_arr A, a4)) : wpY_threshold post (nI H, pg_arr D, pg_arr W, pg_arr A, a4) (nI b) := by
  unfold wpY_threshold
  dsimp only
  refine pg_yis hD _ (fun _ => br_f pg_10 (pg_ywork hD hW (fun a hf => ?_))) (fun y => absurd ⟨b, hb, rfl, hz⟩ y)
  dsimp only
  refine ⟨pg_i8 hb, nm_r (pg_at A (by omega)) ⟨51, ?_⟩⟩
  have t := pg_ythr_l (post := post) (a4 := a) (o := A b) hb hA hf hw (fun L h1 h2 h3 h4 => by rw [pg_up_self]; exact h L a h1 h2 h3 h4) 50 51 (A b) (Nat.le_refl _) (by decide) (by decide) (fun z => absurd z (by decide)) (fun a h1 h2 => by omega)
  rw [pg_up_self] at t
  exact t
theorem pg_thr_ex (e : Int) : ∃ M : Nat, (e < 1 → M = 1) ∧ (1 ≤ e → e ≤ 50 → (M : Int) = e) ∧ (50 < e → M = 51) := by
  by_cases a : e < 1
  · exact ⟨1, fun _ => rfl, fun h => by omega, fun h => by omega⟩
  · by_cases b : e ≤ 50
    · exact ⟨e.toNat, fun h => by omega, fun _ _ => by omega, fun h => by omega⟩
    · exact ⟨51, fun h => by omega, fun _ h => by omega, fun _ => rfl⟩
theorem pg_thr_fin {e : Int} {L M : Nat} (k1 : e < 1 → M = 1) (k2 : 1 ≤ e → e ≤ 50 → (M : Int) = e) (k3 : 50 < e → M = 51) (h1 : 1 ≤ L) (h2 : L ≤ 51) (h3 : L ≤ 50 → decide (e ≤ (L : Int)) = true) (h4 : ∀ a : Nat, 1 ≤ a → a < L → decide (e ≤ (a : Int)) = false) : L = M := by
  by_cases a : e < 1
  · rw [k1 a]
    rcases Nat.lt_or_ge 1 L with l | l
    · have := of_decide_eq_false (h4 1 (by omega) l)
      omega
    · omega
  · by_cases b : e ≤ 50
    · have m := k2 (by omega) b
      rcases Nat.lt_or_ge M L with l | l
      · have := of_decide_eq_false (h4 M (by omega) l)
        omega
      · have := of_decide_eq_true (h3 (by omega))
        omega
    · rw [k3 (by omega)]
      rcases Nat.lt_or_ge 50 L with l | l
      · omega
      · have := of_decide_eq_true (h3 l)
        omega
theorem i_vc_threshold {k : Nat} {u : SX} {v : SY} (I : i_Rel k u v) (hk : k + 4 ≤ 2048) (v1 : Int32) : wpX_threshold (fun r => wpY_threshold (fun r' v' => r' = r ∧ i_Rel (k + 4) u v') v v1) u v1 := by
  obtain ⟨P, H, B, W, A, f, ok, rfl, rfl⟩ := I
  have hD := pg_YD ok
  obtain ⟨hP, hH, hB, hW, hA, hBP⟩ := id ok
  unfold wpX_threshold
  dsimp only
  refine pg_xis hP hBP v1 (fun y => ?_) (fun y => ?_)
  · obtain ⟨b, hb, e, z⟩ := id y
    subst e
    refine br_f pg_10 (nm_e (pg_xbest hH hB hW hA hBP rfl ?_))
    cases c : pg_be (pg_Y P B) W A H ((1 : Int32) <<< (nI b &&& 31)) 0 with
    | none =>
      refine br_t rfl (pg_ythr (win := fun _ => false) hb z hD hW hA (fun a _ _ => ?_) (fun L a4 h1 h2 h3 _ => ⟨?_, pg_rel ok⟩))
      · obtain ⟨s, es, hs, _⟩ := pg_be_ex (pg_Y P B) W (pg_up A b a) H 0
        exact ⟨s, hs, es, pg_thr_none hb c es⟩
      · have : L = 51 := by
          rcases Nat.lt_or_ge 50 L with l | l
          · omega
          · cases h3 l
        rw [this]
        exact pg_51
    | some w =>
      have hl := pg_be_lt c
      have n : ¬ nI w = -1 := by
        intro z
        have := nI_pos (n := w) (by omega)
        rw [z] at this
        exact this (by decide)
      obtain ⟨w0, c0, hl0, _⟩ := pg_be_ex (pg_Y P B) W A H ((1 : Int32) <<< (nI b &&& 31))
      have e1 : nI w &&& (((1 : Int32) <<< (nI b &&& 31)) ^^^ (-1)) = nI (w &&& (2 ^ b ^^^ (2 ^ 8 - 1))) := by rw [pg_sh b hb, pg_andn _ hl]
      have b0 := pg_sum_le hA w0 8
      have b1 := pg_sum_le hA (w &&& (2 ^ b ^^^ (2 ^ 8 - 1))) 8
      have key : ∀ e : Int, (∀ a : Nat, e ≤ (a : Int) ↔ pg_sum A w0 8 < pg_pt A b w + a ∨ (pg_sum A w0 8 = pg_pt A b w + a ∧ pg_rv w0 < pg_rv w)) → ∀ x : Int32, x.toInt = e → wX_threshold_80 (fun r => wpY_threshold (fun r' v' => r' = r ∧ i_Rel (k + 4) (nI P, nI H, pg_arr B, pg_arr W, pg_arr A) v') (nI H, pg_arr (pg_Y P B), pg_arr W, pg_arr A, f) (nI b)) x (nI P) (nI H) (pg_arr B) (pg_arr W) (pg_arr A) := by
        intro e he x hx
        obtain ⟨M, k1, k2, k3⟩ := pg_thr_ex e
        refine pg_x80 hx k1 k2 k3 (pg_ythr (win := fun a => decide (e ≤ (a : Int))) hb z hD hW hA (fun a _ _ => ?_) (fun L a4 h1 h2 h3 h4 => ⟨?_, pg_rel ok⟩))
        · obtain ⟨s, es, hs, _⟩ := pg_be_ex (pg_Y P B) W (pg_up A b a) H 0
          have t := pg_thr_some hb c c0 es
          rw [← he a] at t
          refine ⟨s, hs, es, ?_⟩
          by_cases g : e ≤ (a : Int)
          · rw [t.mpr g]; exact (decide_eq_true g).symm
          · rw [decide_eq_false g]
            cases q : s.testBit b
            · rfl
            · exact absurd (t.mp q) g
        · rw [pg_thr_fin k1 k2 k3 h1 h2 h3 h4]
      refine br_f n (pg_xbest hH hB hW hA hBP rfl ?_)
      rw [c0]
      refine nm_r e1 (pg_xsum hl0 rfl (pg_xsum (pg_andlt _ hl) rfl (nm_e (pg_xgb _ hl hl0 ?_))))
      by_cases g : pg_rv w0 < pg_rv w
      · rw [decide_eq_true g]
        refine br_f pg_10 (key _ (fun a => ?_) _ (pg_subI (by omega) (by omega)))
        show _ ↔ pg_sum A w0 8 < pg_sum A (w &&& (2 ^ b ^^^ (2 ^ 8 - 1))) 8 + a ∨ (pg_sum A w0 8 = pg_sum A (w &&& (2 ^ b ^^^ (2 ^ 8 - 1))) 8 + a ∧ pg_rv w0 < pg_rv w)
        omega
      · rw [decide_eq_false g]
        refine br_t rfl (nm_e (key _ (fun a => ?_) _ (pg_subI1 (by omega) (by omega))))
        show _ ↔ pg_sum A w0 8 < pg_sum A (w &&& (2 ^ b ^^^ (2 ^ 8 - 1))) 8 + a ∨ (pg_sum A w0 8 = pg_sum A (w &&& (2 ^ b ^^^ (2 ^ 8 - 1))) 8 + a ∧ pg_rv w0 < pg_rv w)
        omega
  · refine br_t rfl ?_
    unfold wpY_threshold
    dsimp only
    exact pg_yis hD _ (fun y' => absurd y' y) (fun _ => br_t rfl ⟨rfl, pg_rel ok⟩)
