/-! threshold: which amounts let bid b win -/
theorem pg_F00 {D W : Nat → Nat} {H t : Nat} : pg_F D W H 0 0 t = true ↔ pg_al D W H t = true := by
  rw [pg_F_is]
  exact ⟨fun h => h.2.2, fun h => ⟨Int32.and_zero, Int32.and_zero, h⟩⟩
theorem pg_Fq {D W : Nat → Nat} {H t b : Nat} (ht : t < 256) (hb : b < 8) : pg_F D W H ((1 : Int32) <<< (nI b &&& 31)) 0 t = true ↔ t.testBit b = true ∧ pg_al D W H t = true := by
  rw [pg_F_is, pg_c1 t ht b hb]
  exact ⟨fun h => ⟨h.1, h.2.2⟩, fun h => ⟨h.1, Int32.and_zero, h.2⟩⟩
theorem pg_Fr {D W : Nat → Nat} {H t b : Nat} (ht : t < 256) (hb : b < 8) : pg_F D W H 0 ((1 : Int32) <<< (nI b &&& 31)) t = true ↔ t.testBit b = false ∧ pg_al D W H t = true := by
  rw [pg_F_is, pg_c0 t ht b hb]
  exact ⟨fun h => ⟨h.2.1, h.2.2⟩, fun h => ⟨Int32.and_zero, h.1, h.2⟩⟩
/-- the sum of the others in t -/
def pg_pt (A : Nat → Nat) (b t : Nat) : Nat := pg_sum A (t &&& (2 ^ b ^^^ (2 ^ 8 - 1))) 8
theorem pg_pt_bit {b t : Nat} (hb : b < 8) : ¬ (t &&& (2 ^ b ^^^ (2 ^ 8 - 1))).testBit b = true := by
  rw [Nat.testBit_and, Nat.testBit_xor, Nat.testBit_two_pow_sub_one, decide_eq_true hb, Nat.testBit_two_pow, decide_eq_true rfl]
  simp
theorem pg_key_on {A : Nat → Nat} {b t : Nat} (hb : b < 8) (h : t.testBit b = true) : pg_key A t = 256 * (pg_pt A b t + A b) + pg_rv t := by
  rcases pg_sum_on (A := A) h 8 with e | e
  · rw [if_pos hb] at e
    unfold pg_key pg_pt
    rw [e]
  · omega
theorem pg_key_up {A : Nat → Nat} {b t a : Nat} (hb : b < 8) (h : t.testBit b = true) : pg_key (pg_up A b a) t = 256 * (pg_pt A b t + a) + pg_rv t := by
  rw [pg_key_on hb h, pg_up_i]
  have : pg_pt (pg_up A b a) b t = pg_pt A b t := pg_sum_off (pg_pt_bit hb) 8
  rw [this]
theorem pg_key_off {A : Nat → Nat} {b t a : Nat} (h : ¬ t.testBit b = true) : pg_key (pg_up A b a) t = pg_key A t := by
  unfold pg_key
  rw [pg_sum_off h]
theorem pg_thr_none {D W A : Nat → Nat} {H b a s : Nat} (hb : b < 8) (hw : pg_be D W A H ((1 : Int32) <<< (nI b &&& 31)) 0 = none) (hs : pg_be D W (pg_up A b a) H 0 0 = some s) : s.testBit b = false := by
  obtain ⟨h1, h2, _⟩ := pg_best_some 256 s hs
  cases k : s.testBit b
  · rfl
  · have n := pg_best_none 256 hw s h1
    rw [(pg_Fq h1 hb).mpr ⟨k, pg_F00.mp h2⟩] at n
    cases n
theorem pg_thr_some {D W A : Nat → Nat} {H b a s w w0 : Nat} (hb : b < 8) (hw : pg_be D W A H ((1 : Int32) <<< (nI b &&& 31)) 0 = some w) (h0 : pg_be D W A H 0 ((1 : Int32) <<< (nI b &&& 31)) = some w0) (hs : pg_be D W (pg_up A b a) H 0 0 = some s) : s.testBit b = true ↔ pg_sum A w0 8 < pg_pt A b w + a ∨ (pg_sum A w0 8 = pg_pt A b w + a ∧ pg_rv w0 < pg_rv w) := by
  obtain ⟨s1, s2, s3⟩ := pg_best_some 256 s hs
  obtain ⟨w1, w2, w3⟩ := pg_best_some 256 w hw
  obtain ⟨v1, v2, v3⟩ := pg_best_some 256 w0 h0
  have w2' := (pg_Fq w1 hb).mp w2
  have v2' := (pg_Fr v1 hb).mp v2
  have s2' := pg_F00.mp s2
  have a1 := s3 w w1 (pg_F00.mpr w2'.2)
  have a2 := s3 w0 v1 (pg_F00.mpr v2'.2)
  rw [pg_key_up hb w2'.1] at a1
  rw [pg_key_off (pg_nt v2'.1)] at a2
  have e0 : pg_key A w0 = 256 * pg_sum A w0 8 + pg_rv w0 := rfl
  have r0 := pg_rv_lt w0
  have r1 := pg_rv_lt w
  cases k : s.testBit b
  · have a3 := v3 s s1 ((pg_Fr s1 hb).mpr ⟨k, s2'⟩)
    rw [pg_key_off (pg_nt k)] at a1
    constructor
    · intro z; cases z
    · intro z
      omega
  · have a3 := w3 s s1 ((pg_Fq s1 hb).mpr ⟨k, s2'⟩)
    have ne : pg_key (pg_up A b a) w0 ≠ pg_key (pg_up A b a) s := by
      intro z
      have e := pg_key_inj v1 s1 z
      rw [e, k] at v2'
      cases v2'.1
    rw [pg_key_off (pg_nt v2'.1)] at ne
    rw [pg_key_up hb k] at a2 ne
    rw [pg_key_on hb k, pg_key_on hb w2'.1] at a3
    constructor
    · intro _
      omega
    · intro _; rfl
theorem pg_dec (i : Nat) : nI (i + 1) + (-1) = nI i := by
  rw [← nI_pred i, Int32.sub_eq_add_neg]
theorem pg_lt1 (i : Nat) (h : i < 2 ^ 31) : nI i < 1 ↔ i = 0 := by
  rw [← pg_n1, nI_ltI h (by decide)]
  omega
theorem pg_ythr_l {post : Int32 → SY → Prop} {D W A : Nat → Nat} {H b o : Nat} {a4 : Nat → Int32} {win : Nat → Bool} (hb : b < 8) (hA : ∀ b, A b ≤ 50) (hf : ∀ s, s < 256 → a4 s = pg_b (pg_al D W H s)) (hw : ∀ a, 1 ≤ a → a ≤ 50 → ∃ s, s < 256 ∧ pg_be D W (pg_up A b a) H 0 0 = some s ∧ s.testBit b = win a) (h : ∀ L, 1 ≤ L → L ≤ 51 → (L ≤ 50 → win L = true) → (∀ a, 1 ≤ a → a < L → win a = false) → post (nI L) (nI H, pg_arr D, pg_arr W, pg_arr (pg_up A b o), a4)) : ∀ i L x, i ≤ 50 → i < L → L ≤ 51 → (L ≤ 50 → win L = true) → (∀ a, i < a → a < L → win a = false) → wY_threshold_28 post (nI b) (nI o) (nI H) (i + 1) (nI L) (nI i) (pg_arr D) (pg_arr W) (pg_arr (pg_up A b x)) a4 := by
  intro i
  induction i with
  | zero =>
    intro L x _ h1 h2 h3 h4
    refine br_t ((pg_lt1 0 (by decide)).mpr rfl) ⟨pg_i8 hb, nm_r (e' := pg_arr (pg_up A b o)) ?_ (h L h1 h2 h3 (fun a ha => h4 a ha))⟩
    rw [pg_upd _ (by omega), pg_up_up]
  | succ i ih =>
    intro L x hi h1 h2 h3 h4
    refine br_f (fun z => absurd ((pg_lt1 (i + 1) (by omega)).mp z) (by omega)) ⟨pg_i8 hb, nm_r (e' := pg_arr (pg_up A b (i + 1))) ?_ ?_⟩
    · rw [pg_upd _ (by omega), pg_up_up]
    · obtain ⟨s, hs, es, bs⟩ := hw (i + 1) (by omega) hi
      have hA' : ∀ c, pg_up A b (i + 1) c ≤ 50 := by
        intro c
        unfold pg_up
        split
        · exact hi
        · exact hA c
      refine pg_ybest hA' hf ?_
      rw [es]
      cases k : win (i + 1)
      · rw [k] at bs
        refine br_f (pg_yf hs hb bs) (nm_r (pg_dec i) (ih L (i + 1) (by omega) (by omega) h2 h3 (fun a ha hl => ?_)))
        rcases Nat.lt_or_ge (i + 1) a with l | l
        · exact h4 a l hl
        · have : a = i + 1 := by omega
          subst this
          exact k
      · rw [k] at bs
        exact br_t (pg_yt hs hb bs) (nm_r (pg_dec i) (ih (i + 1) (i + 1) (by omega) (by omega) (by omega) (fun _ => k) (fun a ha hl => by omega)))
theorem pg_subI {a b : Nat} (ha : a < 1000) (hb : b < 1000) : (nI a - nI b).toInt = (a : Int) - (b : Int) := by
  rw [Int32.toInt_sub, nI_toInt (by omega), nI_toInt (by omega)]
  unfold Int.bmod
  dsimp only
  split <;> omega
theorem pg_subI1 {a b : Nat} (ha : a < 1000) (hb : b < 1000) : (nI a - nI b + 1).toInt = (a : Int) - (b : Int) + 1 := by
  have e : (1 : Int32).toInt = 1 := by decide
  rw [Int32.toInt_add, pg_subI ha hb, e]
  unfold Int.bmod
  dsimp only
  split <;> omega
theorem pg_x80 {post : Int32 → Prop} {x : Int32} {e : Int} {L : Nat} {f1 f2 : Int32} {a1 a2 a3 : Nat → Int32} (hx : x.toInt = e) (h1 : e < 1 → L = 1) (h2 : 1 ≤ e → e ≤ 50 → (L : Int) = e) (h3 : 50 < e → L = 51) (h : post (nI L)) : wX_threshold_80 post x f1 f2 a1 a2 a3 := by
  have e1 : (1 : Int32).toInt = 1 := by decide
  have e50 : (50 : Int32).toInt = 50 := by decide
  by_cases k : 1 ≤ e
  · refine br_t (by rw [Int32.le_iff_toInt_le, e1, hx]; exact k) ?_
    by_cases l : e ≤ 50
    · refine br_t (by rw [Int32.le_iff_toInt_le, e50, hx]; exact l) ?_
      have : x = nI L := by
        apply Int32.toInt_inj.mp
        rw [hx, nI_toInt (by have := h2 k l; omega), h2 k l]
      rw [this]
      exact h
    · refine br_f (by rw [Int32.le_iff_toInt_le, e50, hx]; exact l) ?_
      have : L = 51 := h3 (by omega)
      rw [this] at h
      exact h
  · refine br_f (by rw [Int32.le_iff_toInt_le, e1, hx]; exact k) ?_
    have : L = 1 := h1 (by omega)
    rw [this] at h
    exact h
