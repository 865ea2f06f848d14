/-! Y's private methods against the same picture -/
theorem pg_yt {s j : Nat} (hs : s < 256) (hj : j < 8) (h : s.testBit j = true) : ((nI s >>> (nI j &&& 31)) &&& 1) = 1 := by
  rw [pg_yb s hs j hj, if_pos h]
theorem pg_yf {s j : Nat} (hs : s < 256) (hj : j < 8) (h : s.testBit j = false) : ¬ ((nI s >>> (nI j &&& 31)) &&& 1) = 1 := by
  rw [pg_yb s hs j hj, if_neg (pg_nt h)]
  decide
theorem pg_yis {post : Int32 → Prop} {f : Int32} {D : Nat → Nat} {a2 a3 a4 : Nat → Int32} (hD : ∀ b, D b < 256) (v : Int32) (h1 : pg_is D v → post 1) (h0 : ¬ pg_is D v → post 0) : wpY_is post (f, pg_arr D, a2, a3, a4) v := by
  rcases pg_cut v 8 (by decide) with h | ⟨h, h8⟩ | ⟨j, hj, e⟩
  · refine br_t h (h0 ?_)
    rintro ⟨j, hj, e, _⟩
    rw [e] at h
    exact nI_pos (by omega) h
  · rw [pg_8] at h8
    refine br_f h (br_t h8 (h0 ?_))
    rintro ⟨j, hj, e, _⟩
    rw [e] at h8
    exact pg_g8 hj h8
  · subst e
    have h31 : D j < 2 ^ 31 := Nat.lt_trans (hD j) (by decide)
    refine br_f (nI_pos (by omega)) (br_f (pg_g8 hj) ⟨pg_i8 hj, ?_⟩)
    rw [pg_at D (show j < 256 by omega)]
    by_cases k : 0 < D j
    · exact br_f (nI_nle k h31) (h1 ⟨j, hj, rfl, k⟩)
    · have e : D j = 0 := by omega
      refine br_t (by rw [e]; decide +kernel) (h0 ?_)
      rintro ⟨i, hi, ei, z⟩
      rw [nI_eq (by omega) (by omega)] at ei
      subst ei
      exact k z
/-- may bids j and c win together -/
def pg_pr (D W : Nat → Nat) (j c : Nat) : Bool := decide (D j &&& D c = 0) && decide (W j ≠ W c)
def pg_in (D W : Nat → Nat) (s j : Nat) (z : Bool) : Nat → Bool
  | 0 => true
  | c + 1 => pg_in D W s j z c && !(z && s.testBit c && !pg_pr D W j c)
def pg_ou (D W : Nat → Nat) (H s : Nat) : Nat → Bool
  | 0 => true
  | j + 1 => (pg_ou D W H s j && !(s.testBit j && !(decide (0 < D j) && decide (D j &&& H = 0)))) && pg_in D W s j (s.testBit j) j
theorem pg_in_is (D W : Nat → Nat) (s j : Nat) : ∀ n, pg_in D W s j true n = true ↔ ∀ c, c < n → s.testBit c = true → D j &&& D c = 0 ∧ W j ≠ W c := by
  intro n
  induction n with
  | zero => exact ⟨fun _ c hc => absurd hc (Nat.not_lt_zero c), fun _ => rfl⟩
  | succ n ih =>
    have u : pg_in D W s j true (n + 1) = (pg_in D W s j true n && !(true && s.testBit n && !pg_pr D W j n)) := rfl
    rw [u, Bool.and_eq_true, ih]
    have p : pg_pr D W j n = true ↔ D j &&& D n = 0 ∧ W j ≠ W n := by
      unfold pg_pr
      rw [Bool.and_eq_true, decide_eq_true_eq, decide_eq_true_eq]
    constructor
    · intro h c hc sc
      rcases Nat.lt_or_ge c n with l | l
      · exact h.1 c l sc
      · have : c = n := by omega
        subst this
        have h2 := h.2
        rw [sc] at h2
        exact p.mp (by simpa using h2)
    · intro h
      refine ⟨fun c hc sc => h c (by omega) sc, ?_⟩
      cases k : s.testBit n
      · rfl
      · rw [p.mpr (h n (by omega) k)]; rfl
theorem pg_in_f (D W : Nat → Nat) (s j : Nat) : ∀ n, pg_in D W s j false n = true := by
  intro n
  induction n with
  | zero => rfl
  | succ n ih =>
    have u : pg_in D W s j false (n + 1) = (pg_in D W s j false n && !(false && s.testBit n && !pg_pr D W j n)) := rfl
    rw [u, ih]; rfl
theorem pg_ou_is (D W : Nat → Nat) (H s : Nat) : ∀ n, pg_ou D W H s n = true ↔ ∀ b, b < n → s.testBit b = true → 0 < D b ∧ D b &&& H = 0 ∧ ∀ c, c < b → s.testBit c = true → D b &&& D c = 0 ∧ W b ≠ W c := by
  intro n
  induction n with
  | zero => exact ⟨fun _ c hc => absurd hc (Nat.not_lt_zero c), fun _ => rfl⟩
  | succ n ih =>
    have u : pg_ou D W H s (n + 1) = ((pg_ou D W H s n && !(s.testBit n && !(decide (0 < D n) && decide (D n &&& H = 0)))) && pg_in D W s n (s.testBit n) n) := rfl
    rw [u, Bool.and_eq_true, Bool.and_eq_true, ih]
    cases k : s.testBit n
    · constructor
      · intro h b hb sb
        rcases Nat.lt_or_ge b n with l | l
        · exact h.1.1 b l sb
        · have : b = n := by omega
          subst this
          rw [k] at sb
          cases sb
      · intro h
        exact ⟨⟨fun b hb sb => h b (by omega) sb, rfl⟩, pg_in_f D W s n n⟩
    · rw [pg_in_is]
      constructor
      · intro h b hb sb
        rcases Nat.lt_or_ge b n with l | l
        · exact h.1.1 b l sb
        · have : b = n := by omega
          subst this
          have h2 := h.1.2
          rw [Bool.true_and, Bool.not_not, Bool.and_eq_true, decide_eq_true_eq, decide_eq_true_eq] at h2
          exact ⟨h2.1, h2.2, h.2⟩
      · intro h
        have hn := h n (by omega) k
        refine ⟨⟨fun b hb sb => h b (by omega) sb, ?_⟩, hn.2.2⟩
        rw [decide_eq_true hn.1, decide_eq_true hn.2.1]; rfl
theorem pg_ou_al (D W : Nat → Nat) (H s : Nat) : pg_ou D W H s 8 = pg_al D W H s := by
  cases k : pg_al D W H s
  · cases e : pg_ou D W H s 8
    · rfl
    · rw [pg_al_t ((pg_ou_is D W H s 8).mp e)] at k
      cases k
  · exact (pg_ou_is D W H s 8).mpr (pg_al_d k)
theorem pg_y92 {post : Int32 → Prop} {J J' : Int32 → Int32 → Prop} {x1 x4 f : Int32} {D W : Nat → Nat} {a3 a4 : Nat → Int32} {j c : Nat} (hj : j < 8) (hc : c < 8) (hD : ∀ b, D b < 256) (hW : ∀ b, W b < 4) (ok z : Bool) (h : J' (pg_b (ok && !(z && !pg_pr D W j c))) (nI (c + 1))) : wY_allocates_92 post J J' x1 (pg_b ok) (nI j) x4 (nI c) (pg_b z) f (pg_arr D) (pg_arr W) a3 a4 := by
  cases ok
  · exact br_t rfl (nm_r (nI_1 c) h)
  · refine br_f pg_10 ?_
    cases z
    · exact br_t rfl (nm_r (nI_1 c) h)
    · refine br_f pg_10 ⟨pg_i8 hj, pg_i8 hc, ?_⟩
      rw [pg_at D (show j < 256 by omega), pg_at D (show c < 256 by omega)]
      by_cases k : D j &&& D c = 0
      · refine br_t ((pg_nand (hD j)).mpr k) ⟨pg_i8 hj, pg_i8 hc, ?_⟩
        rw [pg_at W (show j < 256 by omega), pg_at W (show c < 256 by omega)]
        by_cases w : W j = W c
        · have e : pg_pr D W j c = false := by
            unfold pg_pr
            rw [decide_eq_false (show ¬ W j ≠ W c from fun z => z w), Bool.and_false]
          rw [e] at h
          exact br_t (by rw [w]) (nm_r (nI_1 c) h)
        · have e : pg_pr D W j c = true := by
            unfold pg_pr
            rw [decide_eq_true k, decide_eq_true w, Bool.and_true]
          rw [e] at h
          exact br_f (fun z => w ((nI_eq (Nat.lt_trans (hW j) (by decide)) (Nat.lt_trans (hW c) (by decide))).mp z)) (nm_r (nI_1 c) h)
      · have e : pg_pr D W j c = false := by
          unfold pg_pr
          rw [decide_eq_false k, Bool.false_and]
        rw [e] at h
        exact br_f (fun z => k ((pg_nand (hD j)).mp z)) (nm_r (nI_1 c) h)
theorem pg_y66 {post : Int32 → Prop} {J : Int32 → Int32 → Prop} {f : Int32} {D W : Nat → Nat} {a3 a4 : Nat → Int32} {s j : Nat} (hs : s < 256) (hj : j < 8) (hD : ∀ b, D b < 256) (hW : ∀ b, W b < 4) (ok z : Bool) (h : J (pg_b (ok && pg_in D W s j z j)) (nI (j + 1))) : ∀ d c, c + d = j → wY_allocates_66 post J (nI s) (nI j) (pg_b z) f (pg_arr D) (pg_arr W) a3 a4 (d + 1) (pg_b (ok && pg_in D W s j z c)) (nI c) := by
  intro d
  induction d with
  | zero =>
    intro c hc
    have e : c = j := by omega
    subst e
    exact br_t (Int32.le_refl _) (nm_r (nI_1 c) h)
  | succ d ih =>
    intro c hc
    have IH := ih (c + 1) (by omega)
    have u : pg_in D W s j z (c + 1) = (pg_in D W s j z c && !(z && s.testBit c && !pg_pr D W j c)) := rfl
    rw [u, ← Bool.and_assoc] at IH
    refine br_f (nI_ge (by omega) (by omega)) ?_
    cases z
    · exact br_t rfl (pg_y92 hj (by omega) hD hW _ false IH)
    · refine br_f pg_10 ?_
      cases k : s.testBit c
      · rw [k] at IH
        exact br_f (pg_yf hs (by omega) k) (pg_y92 hj (by omega) hD hW _ false IH)
      · rw [k] at IH
        exact br_t (pg_yt hs (by omega) k) (pg_y92 hj (by omega) hD hW _ true IH)
theorem pg_y24 {post : Int32 → Prop} {J : Int32 → Int32 → Prop} {D W : Nat → Nat} {a3 a4 : Nat → Int32} {H s j : Nat} (hs : s < 256) (hj : j < 8) (hD : ∀ b, D b < 256) (hW : ∀ b, W b < 4) (ok z : Bool) (h : J (pg_b ((ok && !(z && !(decide (0 < D j) && decide (D j &&& H = 0)))) && pg_in D W s j z j)) (nI (j + 1))) : wY_allocates_24 post J (nI s) (pg_b ok) (nI j) (pg_b z) (nI H) (pg_arr D) (pg_arr W) a3 a4 := by
  have go : ∀ c : Bool, c = (ok && !(z && !(decide (0 < D j) && decide (D j &&& H = 0)))) → ∃ n66 : Nat, wY_allocates_66 post J (nI s) (nI j) (pg_b z) (nI H) (pg_arr D) (pg_arr W) a3 a4 n66 (pg_b c) 0 := by
    intro c e
    rw [← e] at h
    have := pg_y66 (post := post) (f := nI H) (a3 := a3) (a4 := a4) hs hj hD hW c z h j 0 (by omega)
    have u : (c && pg_in D W s j z 0) = c := Bool.and_true c
    rw [u] at this
    exact ⟨_, this⟩
  cases ok
  · exact br_t rfl (go false rfl)
  · refine br_f pg_10 ?_
    cases z
    · exact br_t rfl (go true rfl)
    · refine br_f pg_10 (pg_yis hD _ (fun y => ?_) (fun y => ?_))
      · obtain ⟨i, hi, e, z⟩ := y
        rw [nI_eq (by omega) (by omega)] at e
        subst e
        refine br_f pg_10 ⟨pg_i8 hj, ?_⟩
        rw [pg_at D (show j < 256 by omega)]
        by_cases k : D j &&& H = 0
        · refine br_t ((pg_nand (hD j)).mpr k) (go true ?_)
          rw [decide_eq_true z, decide_eq_true k]; rfl
        · refine br_f (fun y => k ((pg_nand (hD j)).mp y)) (go false ?_)
          rw [decide_eq_false k, Bool.and_false]; rfl
      · refine br_t rfl (go false ?_)
        have : ¬ 0 < D j := fun z => y ⟨j, hj, rfl, z⟩
        rw [decide_eq_false this]; rfl
theorem pg_yal_l {post : Int32 → Prop} {D W : Nat → Nat} {a3 a4 : Nat → Int32} {H s : Nat} (hs : s < 256) (hD : ∀ b, D b < 256) (hW : ∀ b, W b < 4) (h : post (pg_b (pg_al D W H s))) : ∀ d j, j + d = 8 → wY_allocates_4 post (nI s) (nI H) (pg_arr D) (pg_arr W) a3 a4 (d + 1) (pg_b (pg_ou D W H s j)) (nI j) := by
  intro d
  induction d with
  | zero =>
    intro j hj
    have e : j = 8 := by omega
    subst e
    rw [← pg_ou_al] at h
    exact br_t pg_e8 ⟨pg_b_nar _, h⟩
  | succ d ih =>
    intro j hj
    have hj8 : j < 8 := by omega
    have IH := ih (j + 1) (by omega)
    have u : pg_ou D W H s (j + 1) = ((pg_ou D W H s j && !(s.testBit j && !(decide (0 < D j) && decide (D j &&& H = 0)))) && pg_in D W s j (s.testBit j) j) := rfl
    rw [u] at IH
    refine br_f (pg_g8 hj8) ?_
    cases k : s.testBit j
    · rw [k] at IH
      exact br_f (pg_yf hs hj8 k) (pg_y24 hs hj8 hD hW _ false IH)
    · rw [k] at IH
      exact br_t (pg_yt hs hj8 k) (pg_y24 hs hj8 hD hW _ true IH)
theorem pg_yal {post : Int32 → Prop} {D W : Nat → Nat} {a3 a4 : Nat → Int32} {H s : Nat} (hs : s < 256) (hD : ∀ b, D b < 256) (hW : ∀ b, W b < 4) (h : post (pg_b (pg_al D W H s))) : wpY_allocates post (nI H, pg_arr D, pg_arr W, a3, a4) (nI s) :=
  ⟨9, pg_yal_l hs hD hW h 8 0 rfl⟩
theorem pg_ywork_l {post : SY → Prop} {D W : Nat → Nat} {a3 : Nat → Int32} {H : Nat} (hD : ∀ b, D b < 256) (hW : ∀ b, W b < 4) (h : ∀ a4, (∀ s, s < 256 → a4 s = pg_b (pg_al D W H s)) → post (nI H, pg_arr D, pg_arr W, a3, a4)) : ∀ d i (a4 : Nat → Int32), i + d = 256 → (∀ s, s < i → a4 s = pg_b (pg_al D W H s)) → wY_work_2 post (nI H) (d + 1) (nI i) (pg_arr D) (pg_arr W) a3 a4 := by
  intro d
  induction d with
  | zero =>
    intro i a4 hi I
    have e : i = 256 := by omega
    subst e
    exact br_t pg_e256 (h a4 I)
  | succ d ih =>
    intro i a4 hi I
    have hi8 : i < 256 := by omega
    refine br_f (pg_g256 hi8) (pg_yal hi8 hD hW ⟨vp_in_nI hi8 (by decide), nm_e (nm_r (nI_1 i) (ih (i + 1) _ (by omega) ?_))⟩)
    intro s hs
    rw [nI_clamp (by omega), pg_b_vp]
    unfold upd
    by_cases e : s = i
    · rw [if_pos e, e]
    · rw [if_neg e]
      exact I s (by omega)
theorem pg_ywork {post : SY → Prop} {D W : Nat → Nat} {a3 a4 : Nat → Int32} {H : Nat} (hD : ∀ b, D b < 256) (hW : ∀ b, W b < 4) (h : ∀ a4, (∀ s, s < 256 → a4 s = pg_b (pg_al D W H s)) → post (nI H, pg_arr D, pg_arr W, a3, a4)) : wpY_work post (nI H, pg_arr D, pg_arr W, a3, a4) :=
  ⟨257, pg_ywork_l hD hW h 256 0 a4 rfl (fun s hs => absurd hs (Nat.not_lt_zero s))⟩
