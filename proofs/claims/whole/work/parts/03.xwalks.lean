/-! X's private methods, each against the pure picture, with a general post -/
theorem pg_g8 {j : Nat} (h : j < 8) : ¬ (8 : Int32) ≤ nI j := by rw [← pg_8]; exact nI_ge h (by decide)
theorem pg_e8 : (8 : Int32) ≤ nI 8 := by decide +kernel
theorem pg_g256 {j : Nat} (h : j < 256) : ¬ (256 : Int32) ≤ nI j := by rw [← pg_256]; exact nI_ge h (by decide)
theorem pg_e256 : (256 : Int32) ≤ nI 256 := by decide +kernel
theorem pg_i8 {j : Nat} (h : j < 8) : vp_in (nI j) 8 := vp_in_nI h (by decide)
theorem pg_nt {c : Bool} (h : c = false) : ¬ c = true := by rw [h]; decide
theorem pg_and0 {a b : Nat} : a &&& b = 0 ↔ ∀ i, (a.testBit i && b.testBit i) = false := by
  constructor
  · intro h i
    rw [← Nat.testBit_and, h, Nat.zero_testBit]
  · intro h
    apply Nat.eq_of_testBit_eq
    intro i
    rw [Nat.testBit_and, h i, Nat.zero_testBit]
theorem pg_or_and {a b x : Nat} : (a ||| b) &&& x = 0 ↔ a &&& x = 0 ∧ b &&& x = 0 := by
  rw [pg_and0, pg_and0, pg_and0]
  constructor
  · intro h
    constructor
    · intro i
      have := h i
      rw [Nat.testBit_or] at this
      revert this
      cases a.testBit i <;> cases b.testBit i <;> cases x.testBit i <;> decide
    · intro i
      have := h i
      rw [Nat.testBit_or] at this
      revert this
      cases a.testBit i <;> cases b.testBit i <;> cases x.testBit i <;> decide
  · intro h i
    have h1 := h.1 i
    have h2 := h.2 i
    rw [Nat.testBit_or]
    revert h1 h2
    cases a.testBit i <;> cases b.testBit i <;> cases x.testBit i <;> decide
theorem pg_nand {a b : Nat} (ha : a < 256) : nI a &&& nI b = 0 ↔ a &&& b = 0 := by
  rw [nx_and, ← nI_0, nI_eq (Nat.lt_of_lt_of_le (pg_andlt b ha) (by decide)) (by decide)]
theorem pg_xcon {post : Int32 → Prop} (u : SX) {s j : Nat} {x y : Int32} (hs : s < 256) (hj : j < 8) (ex : x = nI s) (ey : y = nI j) (h : post (pg_b (s.testBit j))) : wpX_contains post u x y := by
  obtain ⟨f1, f2, a1, a2, a3⟩ := u
  subst ex ey
  have e := pg_c0 s hs j hj
  cases k : s.testBit j
  · rw [k] at h
    exact br_t (e.mpr k) h
  · rw [k] at h
    exact br_f (fun z => by rw [e.mp z] at k; cases k) h
theorem pg_xsum_l {post : Int32 → Prop} {f1 f2 : Int32} {a1 a2 : Nat → Int32} {A : Nat → Nat} {s : Nat} (hs : s < 256) : ∀ d j, j + d = 8 → post (nI (pg_sum A s 8)) → wX_sumOfAmounts_4 post (nI s) f1 f2 a1 a2 (pg_arr A) (d + 1) (nI (pg_sum A s j)) (nI j) := by
  intro d
  induction d with
  | zero =>
    intro j hj h
    have e : j = 8 := by omega
    subst e
    exact br_t pg_e8 h
  | succ d ih =>
    intro j hj h
    have hj8 : j < 8 := by omega
    have IH := ih (j + 1) (by omega) h
    refine br_f (pg_g8 hj8) (pg_xcon _ hs hj8 rfl rfl ?_)
    cases k : s.testBit j
    · rw [pg_sum_f (pg_nt k)] at IH
      exact br_t rfl (nm_r (nI_1 j) IH)
    · refine br_f pg_10 ⟨pg_i8 hj8, nm_r (e' := nI (pg_sum A s (j + 1))) ?_ (nm_r (nI_1 j) IH)⟩
      rw [pg_at A (by omega), nI_add, pg_sum_t k]
theorem pg_xsum {post : Int32 → Prop} {f1 f2 : Int32} {a1 a2 : Nat → Int32} {A : Nat → Nat} {s : Nat} {x : Int32} (hs : s < 256) (ex : x = nI s) (h : post (nI (pg_sum A s 8))) : wpX_sumOfAmounts post (f1, f2, a1, a2, pg_arr A) x := by
  subst ex
  exact ⟨9, pg_xsum_l hs 8 0 rfl h⟩
theorem pg_xgb {post : Int32 → Prop} (u : SX) {s t : Nat} (hs : s < 256) (ht : t < 256) (h : post (pg_b (decide (pg_rv t < pg_rv s)))) : wpX_goesBefore post u (nI s) (nI t) := by
  obtain ⟨f1, f2, a1, a2, a3⟩ := u
  refine nm_e (nm_e ?_)
  by_cases k : pg_rv t < pg_rv s
  · rw [decide_eq_true k] at h
    exact br_f (fun z => (pg_gb hs ht).mp z k) h
  · rw [decide_eq_false k] at h
    exact br_t ((pg_gb hs ht).mpr k) h
def pg_tk (B : Nat → Nat) (G s : Nat) : Nat → Nat
  | 0 => G
  | n + 1 => if s.testBit n = true then pg_tk B G s n ||| B n else pg_tk B G s n
def pg_sv (W : Nat → Nat) (s : Nat) : Nat → Nat
  | 0 => 0
  | n + 1 => if s.testBit n = true then pg_sv W s n ||| 2 ^ W n else pg_sv W s n
theorem pg_tk_lt {B : Nat → Nat} {G : Nat} (s : Nat) (hG : G < 256) (hB : ∀ b, B b < 256) : ∀ n, pg_tk B G s n < 256 := by
  intro n
  induction n with
  | zero => exact hG
  | succ n ih =>
    unfold pg_tk
    split
    · exact pg_orlt ih (hB n)
    · exact ih
theorem pg_sv_lt {W : Nat → Nat} (s : Nat) (hW : ∀ b, W b < 4) : ∀ n, pg_sv W s n < 256 := by
  intro n
  induction n with
  | zero => show 0 < 256; decide
  | succ n ih =>
    unfold pg_sv
    split
    · exact pg_orlt ih (pg_p2 (Nat.lt_trans (hW n) (by decide)))
    · exact ih
theorem pg_tk_and (B : Nat → Nat) (G s x : Nat) : ∀ n, pg_tk B G s n &&& x = 0 ↔ G &&& x = 0 ∧ ∀ c, c < n → s.testBit c = true → B c &&& x = 0 := by
  intro n
  induction n with
  | zero => exact ⟨fun h => ⟨h, fun c hc => absurd hc (Nat.not_lt_zero c)⟩, fun h => h.1⟩
  | succ n ih =>
    unfold pg_tk
    by_cases k : s.testBit n = true
    · rw [if_pos k, pg_or_and, ih]
      constructor
      · intro h
        refine ⟨h.1.1, fun c hc sc => ?_⟩
        rcases Nat.lt_or_ge c n with l | l
        · exact h.1.2 c l sc
        · have : c = n := by omega
          subst this
          exact h.2
      · intro h
        exact ⟨⟨h.1, fun c hc sc => h.2 c (by omega) sc⟩, h.2 n (by omega) k⟩
    · rw [if_neg k, ih]
      constructor
      · intro h
        refine ⟨h.1, fun c hc sc => ?_⟩
        rcases Nat.lt_or_ge c n with l | l
        · exact h.2 c l sc
        · have : c = n := by omega
          subst this
          exact absurd sc k
      · intro h
        exact ⟨h.1, fun c hc sc => h.2 c (by omega) sc⟩
theorem pg_sv_bit (W : Nat → Nat) (s w : Nat) : ∀ n, (pg_sv W s n).testBit w = true ↔ ∃ c, c < n ∧ s.testBit c = true ∧ W c = w := by
  intro n
  induction n with
  | zero =>
    show Nat.testBit 0 w = true ↔ _
    rw [Nat.zero_testBit]
    exact ⟨fun h => absurd h (by decide), fun ⟨c, hc, _⟩ => absurd hc (Nat.not_lt_zero c)⟩
  | succ n ih =>
    unfold pg_sv
    by_cases k : s.testBit n = true
    · rw [if_pos k, Nat.testBit_or, Bool.or_eq_true, ih, Nat.testBit_two_pow, decide_eq_true_eq]
      constructor
      · rintro (⟨c, h1, h2, h3⟩ | h)
        · exact ⟨c, by omega, h2, h3⟩
        · exact ⟨n, by omega, k, h⟩
      · rintro ⟨c, h1, h2, h3⟩
        rcases Nat.lt_or_ge c n with l | l
        · exact Or.inl ⟨c, l, h2, h3⟩
        · have : c = n := by omega
          subst this
          exact Or.inr h3
    · rw [if_neg k, ih]
      constructor
      · rintro ⟨c, h1, h2, h3⟩
        exact ⟨c, by omega, h2, h3⟩
      · rintro ⟨c, h1, h2, h3⟩
        rcases Nat.lt_or_ge c n with l | l
        · exact ⟨c, l, h2, h3⟩
        · have : c = n := by omega
          subst this
          exact absurd h2 k
theorem pg_Y_t {P b : Nat} {B : Nat → Nat} (h : P.testBit b = true) : pg_Y P B b = B b := if_pos h
theorem pg_Y_f {P b : Nat} {B : Nat → Nat} (h : ¬ P.testBit b = true) : pg_Y P B b = 0 := if_neg h
theorem pg_Y_pos {P b : Nat} {B : Nat → Nat} (hBP : ∀ b, P.testBit b = true → 0 < B b) : 0 < pg_Y P B b ↔ P.testBit b = true := by
  by_cases k : P.testBit b = true
  · rw [pg_Y_t k]
    exact ⟨fun _ => k, fun _ => hBP b k⟩
  · rw [pg_Y_f k]
    exact ⟨fun h => absurd h (Nat.lt_irrefl 0), fun h => absurd h k⟩
theorem pg_land_comm (a b : Nat) : a &&& b = b &&& a := Nat.and_comm a b
theorem pg_xal_l {post : Int32 → Prop} {P G s : Nat} {f2 : Int32} {B W : Nat → Nat} {a3 : Nat → Int32} (hs : s < 256) (hG : G < 256) (hB : ∀ b, B b < 256) (hW : ∀ b, W b < 4) (hP : ∀ b, s.testBit b = true → P.testBit b = true) (hBP : ∀ b, P.testBit b = true → 0 < B b) (h : post (pg_b (pg_al (pg_Y P B) W G s))) : ∀ d j, j + d = 8 → (∀ b, b < j → s.testBit b = true → 0 < pg_Y P B b ∧ pg_Y P B b &&& G = 0 ∧ ∀ c, c < b → s.testBit c = true → pg_Y P B b &&& pg_Y P B c = 0 ∧ W b ≠ W c) → wX_isAllocation_21 post (nI s) (nI P) f2 (pg_arr B) (pg_arr W) a3 (d + 1) (nI (pg_tk B G s j)) (nI (pg_sv W s j)) (nI j) := by
  have eD : ∀ b, s.testBit b = true → pg_Y P B b = B b := fun b hb => pg_Y_t (hP b hb)
  intro d
  induction d with
  | zero =>
    intro j hj I
    have e : j = 8 := by omega
    subst e
    rw [pg_al_t I] at h
    exact br_t pg_e8 h
  | succ d ih =>
    intro j hj I
    have hj8 : j < 8 := by omega
    refine br_f (pg_g8 hj8) (pg_xcon _ hs hj8 rfl rfl ?_)
    cases k : s.testBit j
    · have IH := ih (j + 1) (by omega) (fun b hb sb => by
        rcases Nat.lt_or_ge b j with l | l
        · exact I b l sb
        · have : b = j := by omega
          subst this
          rw [k] at sb
          cases sb)
      have e1 : pg_tk B G s (j + 1) = pg_tk B G s j := if_neg (pg_nt k)
      have e2 : pg_sv W s (j + 1) = pg_sv W s j := if_neg (pg_nt k)
      rw [e1, e2] at IH
      exact br_t rfl (nm_r (nI_1 j) IH)
    · refine br_f pg_10 ⟨pg_i8 hj8, ?_⟩
      rw [pg_at B (show j < 256 by omega)]
      by_cases t : pg_tk B G s j &&& B j = 0
      · refine br_t ((pg_nand (pg_tk_lt s hG hB j)).mpr t) ⟨pg_i8 hj8, pg_xcon _ (pg_sv_lt s hW j) (show W j < 8 from Nat.lt_trans (hW j) (by decide)) rfl (pg_at W (by omega)) ?_⟩
        cases v : (pg_sv W s j).testBit (W j)
        · have t' := (pg_tk_and B G s (B j) j).mp t
          have IH := ih (j + 1) (by omega) (fun b hb sb => by
            rcases Nat.lt_or_ge b j with l | l
            · exact I b l sb
            · have : b = j := by omega
              subst this
              rw [eD b sb]
              refine ⟨hBP b (hP b sb), by rw [pg_land_comm]; exact t'.1, fun c hc sc => ⟨?_, fun e => ?_⟩⟩
              · rw [eD c sc, pg_land_comm]
                exact t'.2 c hc sc
              · have := (pg_sv_bit W s (W b) b).mpr ⟨c, hc, sc, e.symm⟩
                rw [v] at this
                cases this)
          have e1 : pg_tk B G s (j + 1) = pg_tk B G s j ||| B j := if_pos k
          have e2 : pg_sv W s (j + 1) = pg_sv W s j ||| 2 ^ W j := if_pos k
          rw [e1, e2] at IH
          refine br_t rfl ⟨pg_i8 hj8, nm_r (pg_or _ _) ⟨pg_i8 hj8, nm_r (e' := nI (pg_sv W s j ||| 2 ^ W j)) ?_ (nm_r (nI_1 j) IH)⟩⟩
          rw [pg_at W (by omega), pg_sh _ (Nat.lt_trans (hW j) (by decide)), pg_or]
        · refine br_f pg_10 ?_
          rw [pg_al_f] at h
          · exact h
          · intro z
            obtain ⟨c, hc, sc, e⟩ := (pg_sv_bit W s (W j) j).mp v
            exact ((z j hj8 k).2.2 c hc sc).2 e.symm
      · refine br_f (fun z => t ((pg_nand (pg_tk_lt s hG hB j)).mp z)) ?_
        rw [pg_al_f] at h
        · exact h
        · intro z
          apply t
          rw [pg_tk_and]
          have zj := z j hj8 k
          rw [eD j k] at zj
          refine ⟨by rw [pg_land_comm]; exact zj.2.1, fun c hc sc => ?_⟩
          have := (zj.2.2 c hc sc).1
          rw [eD c sc, pg_land_comm] at this
          exact this
theorem pg_xal {post : Int32 → Prop} {P G s : Nat} {f2 : Int32} {B W : Nat → Nat} {a3 : Nat → Int32} {x y : Int32} (hs : s < 256) (hG : G < 256) (hB : ∀ b, B b < 256) (hW : ∀ b, W b < 4) (hBP : ∀ b, P.testBit b = true → 0 < B b) (ex : x = nI s) (ey : y = nI G) (h : post (pg_b (pg_al (pg_Y P B) W G s))) : wpX_isAllocation post (nI P, f2, pg_arr B, pg_arr W, a3) x y := by
  subst ex ey
  by_cases k : (nI s &&& (nI P ^^^ (-1))) = 0
  · exact br_t k ⟨9, pg_xal_l hs hG hB hW ((pg_sub hs).mp k) hBP h 8 0 rfl (fun b hb => absurd hb (Nat.not_lt_zero b))⟩
  · refine br_f k ?_
    rw [pg_al_f] at h
    · exact h
    · intro z
      apply k
      rw [pg_sub hs]
      intro b hb
      exact (pg_Y_pos hBP).mp (z b (pg_lt8 hs hb) hb).1
