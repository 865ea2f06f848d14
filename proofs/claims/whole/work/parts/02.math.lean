/-! the pure picture: sums, the tie-break as a number, the best set, allocations -/
def pg_sum (A : Nat → Nat) (s : Nat) : Nat → Nat
  | 0 => 0
  | n + 1 => pg_sum A s n + (if s.testBit n = true then A n else 0)
theorem pg_sum_le {A : Nat → Nat} (hA : ∀ b, A b ≤ 50) (s : Nat) : ∀ n, pg_sum A s n ≤ 50 * n := by
  intro n
  induction n with
  | zero => exact Nat.le_refl 0
  | succ n ih =>
    have h := hA n
    unfold pg_sum
    split <;> omega
theorem pg_sum_t {A : Nat → Nat} {s n : Nat} (h : s.testBit n = true) : pg_sum A s (n + 1) = pg_sum A s n + A n := by
  show pg_sum A s n + (if s.testBit n = true then A n else 0) = _
  rw [if_pos h]
theorem pg_sum_f {A : Nat → Nat} {s n : Nat} (h : ¬ s.testBit n = true) : pg_sum A s (n + 1) = pg_sum A s n := by
  show pg_sum A s n + (if s.testBit n = true then A n else 0) = _
  rw [if_neg h, Nat.add_zero]
/-- a set splits into what lies in m and what doesn't -/
theorem pg_sum_split (A : Nat → Nat) (w m : Nat) : ∀ n, n ≤ 8 → pg_sum A (w &&& (m ^^^ (2 ^ 8 - 1))) n + pg_sum A (w &&& m) n = pg_sum A w n := by
  intro n
  induction n with
  | zero => intro _; rfl
  | succ n ih =>
    intro h
    have e := ih (by omega)
    have a : (w &&& (m ^^^ (2 ^ 8 - 1))).testBit n = (w.testBit n && !m.testBit n) := by
      rw [Nat.testBit_and, Nat.testBit_xor, Nat.testBit_two_pow_sub_one, decide_eq_true (show n < 8 by omega), Bool.xor_true]
    have b : (w &&& m).testBit n = (w.testBit n && m.testBit n) := Nat.testBit_and w m n
    unfold pg_sum
    rw [a, b]
    revert e
    generalize pg_sum A (w &&& (m ^^^ (2 ^ 8 - 1))) n = x
    generalize pg_sum A (w &&& m) n = y
    intro e
    cases w.testBit n <;> cases m.testBit n <;> simp <;> omega
/-- without bit b the amount of b doesn't count -/
theorem pg_sum_off {A : Nat → Nat} {s b x : Nat} (h : ¬ s.testBit b = true) : ∀ n, pg_sum (pg_up A b x) s n = pg_sum A s n := by
  intro n
  induction n with
  | zero => rfl
  | succ n ih =>
    by_cases k : s.testBit n = true
    · rw [pg_sum_t k, pg_sum_t k, ih, pg_up_n A x (show n ≠ b from fun e => h (e ▸ k))]
    · rw [pg_sum_f k, pg_sum_f k, ih]
/-- with bit b: the partners' sum and the amount of b -/
theorem pg_sum_on {A : Nat → Nat} {s b : Nat} (h : s.testBit b = true) : ∀ n, pg_sum A s n = pg_sum A (s &&& (2 ^ b ^^^ (2 ^ 8 - 1))) n + (if b < n then A b else 0) ∨ 8 < n := by
  intro n
  induction n with
  | zero => exact Or.inl rfl
  | succ n ih =>
    rcases ih with ih | ih
    · rcases Nat.lt_or_ge n 8 with k | k
      · left
        have a : (s &&& (2 ^ b ^^^ (2 ^ 8 - 1))).testBit n = (s.testBit n && !decide (b = n)) := by
          rw [Nat.testBit_and, Nat.testBit_xor, Nat.testBit_two_pow_sub_one, decide_eq_true k, Bool.xor_true, Nat.testBit_two_pow]
        unfold pg_sum
        rw [a, ih]
        by_cases e : b = n
        · subst e
          simp [h]
        · by_cases l : b < n
          · have l' : b < n + 1 := by omega
            cases s.testBit n <;> simp [e, l, l'] <;> omega
          · have l' : ¬ b < n + 1 := by omega
            cases s.testBit n <;> simp [e, l, l']
      · exact Or.inr (by omega)
    · exact Or.inr (by omega)
/-- the bits reversed: of two sets the greater one holds the least bit on which they differ -/
def pg_rv (s : Nat) : Nat := (s.testBit 0).toNat * 128 + (s.testBit 1).toNat * 64 + (s.testBit 2).toNat * 32 + (s.testBit 3).toNat * 16 + (s.testBit 4).toNat * 8 + (s.testBit 5).toNat * 4 + (s.testBit 6).toNat * 2 + (s.testBit 7).toNat
theorem pg_bit1 (s i : Nat) : (Nat.testBit s i).toNat ≤ 1 := Bool.toNat_le _
theorem pg_rv_lt (s : Nat) : pg_rv s < 256 := by
  unfold pg_rv
  have h0 := pg_bit1 s 0
  have h1 := pg_bit1 s 1
  have h2 := pg_bit1 s 2
  have h3 := pg_bit1 s 3
  have h4 := pg_bit1 s 4
  have h5 := pg_bit1 s 5
  have h6 := pg_bit1 s 6
  have h7 := pg_bit1 s 7
  omega
theorem pg_rv_rv : ∀ s, s < 256 → pg_rv (pg_rv s) = s := by decide +kernel
theorem pg_rv_inj {s t : Nat} (hs : s < 256) (ht : t < 256) (h : pg_rv s = pg_rv t) : s = t := by
  rw [← pg_rv_rv s hs, h, pg_rv_rv t ht]
theorem pg_rv_bit {s t k : Nat} (hk : k < 8) (h : ∀ j, j < k → s.testBit j = t.testBit j) (hs : s.testBit k = true) (ht : t.testBit k = false) : pg_rv t < pg_rv s := by
  have g : ∀ j, j < k → (s.testBit j).toNat = (t.testBit j).toNat := fun j hj => by rw [h j hj]
  have a : (s.testBit k).toNat = 1 := by rw [hs]; rfl
  have b : (t.testBit k).toNat = 0 := by rw [ht]; rfl
  have s0 := pg_bit1 t 1
  have s1 := pg_bit1 t 2
  have s2 := pg_bit1 t 3
  have s3 := pg_bit1 t 4
  have s4 := pg_bit1 t 5
  have s5 := pg_bit1 t 6
  have s6 := pg_bit1 t 7
  have g0 := g 0
  have g1 := g 1
  have g2 := g 2
  have g3 := g 3
  have g4 := g 4
  have g5 := g 5
  have g6 := g 6
  clear g h
  unfold pg_rv
  have c : k = 0 ∨ k = 1 ∨ k = 2 ∨ k = 3 ∨ k = 4 ∨ k = 5 ∨ k = 6 ∨ k = 7 := by omega
  rcases c with rfl | rfl | rfl | rfl | rfl | rfl | rfl | rfl
  · omega
  · have := g0 (by decide); omega
  · have := g0 (by decide); have := g1 (by decide); omega
  · have := g0 (by decide); have := g1 (by decide); have := g2 (by decide); omega
  · have := g0 (by decide); have := g1 (by decide); have := g2 (by decide); have := g3 (by decide); omega
  · have := g0 (by decide); have := g1 (by decide); have := g2 (by decide); have := g3 (by decide); have := g4 (by decide); omega
  · have := g0 (by decide); have := g1 (by decide); have := g2 (by decide); have := g3 (by decide); have := g4 (by decide); have := g5 (by decide); omega
  · have := g0 (by decide); have := g1 (by decide); have := g2 (by decide); have := g3 (by decide); have := g4 (by decide); have := g5 (by decide); have := g6 (by decide); omega
theorem pg_rv_all {s t : Nat} (h : ∀ j, j < 8 → s.testBit j = t.testBit j) : pg_rv s = pg_rv t := by
  unfold pg_rv
  rw [h 0 (by decide), h 1 (by decide), h 2 (by decide), h 3 (by decide), h 4 (by decide), h 5 (by decide), h 6 (by decide), h 7 (by decide)]
/-- the least bit of d -/
def pg_lo (d : Nat) : Nat := if d.testBit 0 then 0 else if d.testBit 1 then 1 else if d.testBit 2 then 2 else if d.testBit 3 then 3 else if d.testBit 4 then 4 else if d.testBit 5 then 5 else if d.testBit 6 then 6 else 7
theorem pg_lo_is : ∀ d, d < 256 → d ≠ 0 → pg_lo d < 8 ∧ nI d &&& -nI d = (1 : Int32) <<< (nI (pg_lo d) &&& 31) ∧ d.testBit (pg_lo d) = true ∧ ∀ j, j < pg_lo d → d.testBit j = false := by decide +kernel
theorem pg_gb {s t : Nat} (hs : s < 256) (ht : t < 256) : (nI s &&& ((nI s ^^^ nI t) &&& -(nI s ^^^ nI t))) = 0 ↔ ¬ pg_rv t < pg_rv s := by
  rw [nx_xor]
  have hd : s ^^^ t < 256 := Nat.xor_lt_two_pow (n := 8) hs ht
  by_cases e : s ^^^ t = 0
  · rw [e]
    have est : s = t := by
      apply Nat.eq_of_testBit_eq
      intro i
      have k : (s ^^^ t).testBit i = false := by rw [e]; exact Nat.zero_testBit i
      rw [Nat.testBit_xor] at k
      revert k
      cases s.testBit i <;> cases t.testBit i <;> decide
    subst est
    have z : nI 0 &&& -nI 0 = 0 := by decide +kernel
    rw [z, Int32.and_zero]
    exact ⟨fun _ => Nat.lt_irrefl _, fun _ => rfl⟩
  · obtain ⟨h8, hl, hb, hj⟩ := pg_lo_is _ hd e
    rw [hl, pg_c0 s hs _ h8]
    have agree : ∀ j, j < pg_lo (s ^^^ t) → s.testBit j = t.testBit j := by
      intro j h
      have k := hj j h
      rw [Nat.testBit_xor] at k
      revert k
      cases s.testBit j <;> cases t.testBit j <;> decide
    rw [Nat.testBit_xor] at hb
    cases es : s.testBit (pg_lo (s ^^^ t))
    · have et : t.testBit (pg_lo (s ^^^ t)) = true := by rw [es] at hb; simpa using hb
      have := pg_rv_bit h8 (fun j h => (agree j h).symm) et es
      exact ⟨fun _ => by omega, fun _ => rfl⟩
    · have et : t.testBit (pg_lo (s ^^^ t)) = false := by rw [es] at hb; simpa using hb
      have := pg_rv_bit h8 agree es et
      exact ⟨fun z => absurd z (by decide), fun z => absurd this z⟩
def pg_key (A : Nat → Nat) (s : Nat) : Nat := 256 * pg_sum A s 8 + pg_rv s
theorem pg_key_lt {A : Nat → Nat} {s t : Nat} : pg_key A s < pg_key A t ↔ pg_sum A s 8 < pg_sum A t 8 ∨ (pg_sum A t 8 = pg_sum A s 8 ∧ pg_rv s < pg_rv t) := by
  have a := pg_rv_lt s
  have b := pg_rv_lt t
  unfold pg_key
  omega
theorem pg_key_inj {A : Nat → Nat} {s t : Nat} (hs : s < 256) (ht : t < 256) (h : pg_key A s = pg_key A t) : s = t := by
  have a := pg_rv_lt s
  have b := pg_rv_lt t
  unfold pg_key at h
  exact pg_rv_inj hs ht (by omega)
/-- the best of the sets below n -/
noncomputable def pg_best (F : Nat → Bool) (K : Nat → Nat) : Nat → Option Nat
  | 0 => none
  | n + 1 => match pg_best F K n with
    | none => if F n = true then some n else none
    | some m => if F n = true ∧ K m < K n then some n else some m
theorem pg_best_none {F : Nat → Bool} {K : Nat → Nat} : ∀ n, pg_best F K n = none → ∀ t, t < n → F t = false := by
  intro n
  induction n with
  | zero => intro _ t ht; omega
  | succ n ih =>
    intro h t ht
    unfold pg_best at h
    cases e : pg_best F K n with
    | none =>
      rw [e] at h
      dsimp only at h
      by_cases k : F n = true
      · rw [if_pos k] at h; cases h
      · rcases Nat.lt_or_ge t n with l | l
        · exact ih e t l
        · have : t = n := by omega
          subst this
          simpa using k
    | some m =>
      rw [e] at h
      dsimp only at h
      split at h <;> cases h
theorem pg_best_some {F : Nat → Bool} {K : Nat → Nat} : ∀ n s, pg_best F K n = some s → s < n ∧ F s = true ∧ ∀ t, t < n → F t = true → K t ≤ K s := by
  intro n
  induction n with
  | zero => intro s h; cases h
  | succ n ih =>
    intro s h
    unfold pg_best at h
    cases e : pg_best F K n with
    | none =>
      rw [e] at h
      dsimp only at h
      by_cases k : F n = true
      · rw [if_pos k] at h
        cases h
        refine ⟨Nat.lt_succ_self _, k, fun t ht hf => ?_⟩
        rcases Nat.lt_or_ge t n with l | l
        · rw [pg_best_none n e t l] at hf; cases hf
        · have : t = n := by omega
          subst this
          exact Nat.le_refl _
      · rw [if_neg k] at h; cases h
    | some m =>
      rw [e] at h
      dsimp only at h
      obtain ⟨hm, hf, hK⟩ := ih m e
      by_cases k : F n = true ∧ K m < K n
      · rw [if_pos k] at h
        cases h
        refine ⟨Nat.lt_succ_self _, k.1, fun t ht hft => ?_⟩
        rcases Nat.lt_or_ge t n with l | l
        · have := hK t l hft
          omega
        · have : t = n := by omega
          subst this
          exact Nat.le_refl _
      · rw [if_neg k] at h
        cases h
        refine ⟨by omega, hf, fun t ht hft => ?_⟩
        rcases Nat.lt_or_ge t n with l | l
        · exact hK t l hft
        · have : t = n := by omega
          subst this
          exact Nat.not_lt.mp (fun z => k ⟨hft, z⟩)
theorem pg_best_ex {F : Nat → Bool} {K : Nat → Nat} (h : F 0 = true) : ∃ s, pg_best F K 256 = some s ∧ s < 256 ∧ F s = true ∧ ∀ t, t < 256 → F t = true → K t ≤ K s := by
  cases e : pg_best F K 256 with
  | none => rw [pg_best_none 256 e 0 (by decide)] at h; cases h
  | some s => exact ⟨s, rfl, pg_best_some 256 s e⟩
/-- a set as the machine answers it -/
def pg_o (o : Option Nat) : Int32 := match o with
  | none => -1
  | some s => nI s
/-- is s an allocation: D the bundles (0: no bid), W the bidders, H the withheld items -/
def pg_Al (D W : Nat → Nat) (H s : Nat) : Prop := ∀ b, b < 8 → s.testBit b = true → 0 < D b ∧ D b &&& H = 0 ∧ ∀ c, c < b → s.testBit c = true → D b &&& D c = 0 ∧ W b ≠ W c
noncomputable def pg_al (D W : Nat → Nat) (H s : Nat) : Bool := @decide (pg_Al D W H s) (Classical.propDecidable _)
theorem pg_al_t {D W : Nat → Nat} {H s : Nat} (h : pg_Al D W H s) : pg_al D W H s = true := @decide_eq_true _ (Classical.propDecidable _) h
theorem pg_al_f {D W : Nat → Nat} {H s : Nat} (h : ¬ pg_Al D W H s) : pg_al D W H s = false := @decide_eq_false _ (Classical.propDecidable _) h
theorem pg_al_d {D W : Nat → Nat} {H s : Nat} (h : pg_al D W H s = true) : pg_Al D W H s := @of_decide_eq_true _ (Classical.propDecidable _) h
theorem pg_al_0 (D W : Nat → Nat) (H : Nat) : pg_al D W H 0 = true := by
  apply pg_al_t
  intro b _ h
  rw [Nat.zero_testBit] at h
  cases h
noncomputable def pg_F (D W : Nat → Nat) (H : Nat) (q r : Int32) (s : Nat) : Bool := decide (nI s &&& q = q) && decide (nI s &&& r = 0) && pg_al D W H s
theorem pg_F_is {D W : Nat → Nat} {H : Nat} {q r : Int32} {s : Nat} : pg_F D W H q r s = true ↔ nI s &&& q = q ∧ nI s &&& r = 0 ∧ pg_al D W H s = true := by
  unfold pg_F
  rw [Bool.and_eq_true, Bool.and_eq_true, decide_eq_true_eq, decide_eq_true_eq, and_assoc]
theorem pg_F_0 (D W : Nat → Nat) (H : Nat) (r : Int32) : pg_F D W H 0 r 0 = true := by
  rw [pg_F_is]
  refine ⟨?_, ?_, pg_al_0 D W H⟩
  · rw [Int32.and_zero]
  · rw [nI_0, Int32.zero_and]
/-- the best allocation among those that hold all of q and none of r -/
noncomputable def pg_be (D W A : Nat → Nat) (H : Nat) (q r : Int32) : Option Nat := pg_best (pg_F D W H q r) (pg_key A) 256
/-- X's bundles of the bids that stand, Y's bundles -/
def pg_Y (P : Nat) (B : Nat → Nat) : Nat → Nat := fun b => if P.testBit b = true then B b else 0
def pg_of (D W : Nat → Nat) (p : Nat) : Nat → Nat
  | 0 => 0
  | n + 1 => if 0 < D n ∧ W n = p then pg_of D W p n ||| 2 ^ n else pg_of D W p n
theorem pg_of_lt (D W : Nat → Nat) (p : Nat) : ∀ n, n ≤ 8 → pg_of D W p n < 256 := by
  intro n
  induction n with
  | zero => intro _; show 0 < 256; decide
  | succ n ih =>
    intro h
    unfold pg_of
    have := ih (by omega)
    split
    · exact pg_orlt this (pg_p2 (by omega))
    · exact this
def pg_sold (D : Nat → Nat) (s : Nat) : Nat → Nat
  | 0 => 0
  | n + 1 => if s.testBit n = true then pg_sold D s n ||| D n else pg_sold D s n
def pg_cov (D : Nat → Nat) : Nat → Nat
  | 0 => 0
  | n + 1 => if 0 < D n then pg_cov D n ||| 2 ^ n else pg_cov D n
theorem pg_cov_lt (D : Nat → Nat) : ∀ n, n ≤ 8 → pg_cov D n < 256 := by
  intro n
  induction n with
  | zero => intro _; show 0 < 256; decide
  | succ n ih =>
    intro h
    unfold pg_cov
    have := ih (by omega)
    split
    · exact pg_orlt this (pg_p2 (by omega))
    · exact this
theorem pg_cov_bit (D : Nat → Nat) : ∀ n i, (pg_cov D n).testBit i = decide (i < n ∧ 0 < D i) := by
  intro n
  induction n with
  | zero => intro i; show Nat.testBit 0 i = _; rw [Nat.zero_testBit]; simp
  | succ n ih =>
    intro i
    unfold pg_cov
    by_cases h : 0 < D n
    · rw [if_pos h, Nat.testBit_or, ih, Nat.testBit_two_pow]
      by_cases e : n = i
      · subst e; simp [h]
      · have : (i < n + 1) = (i < n) := propext (by omega)
        simp [e, this]
    · rw [if_neg h, ih]
      by_cases e : n = i
      · subst e; simp [h]
      · have : (i < n + 1) = (i < n) := propext (by omega)
        simp [this]
