section
/-! numbers and bits (bt, b_.., nx_.. are pasted from the kit's rows) -/
def bt (x : Int32) (i : Nat) : Bool := x.toBitVec.getLsbD i
theorem b_ext {x y : Int32} (h : ∀ i, i < 32 → bt x i = bt y i) : x = y := Int32.toBitVec_inj.mp (BitVec.eq_of_getLsbD_eq (fun i hi => h i hi))
theorem b_and (x y : Int32) (i : Nat) : bt (x &&& y) i = (bt x i && bt y i) := by unfold bt; rw [Int32.toBitVec_and, BitVec.getLsbD_and]
theorem b_xor (x y : Int32) (i : Nat) : bt (x ^^^ y) i = (bt x i ^^ bt y i) := by unfold bt; rw [Int32.toBitVec_xor, BitVec.getLsbD_xor]
theorem b_m1 : ∀ i, i < 32 → bt (-1) i = true := by decide +kernel
theorem b_0 (i : Nat) : bt 0 i = false := BitVec.getLsbD_zero
theorem nx_and (a b : Nat) : nI a &&& nI b = nI (a &&& b) := by
  apply Int32.toBitVec_inj.1
  show BitVec.ofNat 32 a &&& BitVec.ofNat 32 b = BitVec.ofNat 32 (a &&& b)
  apply BitVec.eq_of_getLsbD_eq
  intro i hi
  simp [hi]
theorem nx_xor (a b : Nat) : nI a ^^^ nI b = nI (a ^^^ b) := by
  apply Int32.toBitVec_inj.1
  show BitVec.ofNat 32 a ^^^ BitVec.ofNat 32 b = BitVec.ofNat 32 (a ^^^ b)
  apply BitVec.eq_of_getLsbD_eq
  intro i hi
  simp [hi]
theorem pg_or (a b : Nat) : nI a ||| nI b = nI (a ||| b) := by
  apply Int32.toBitVec_inj.1
  show BitVec.ofNat 32 a ||| BitVec.ofNat 32 b = BitVec.ofNat 32 (a ||| b)
  apply BitVec.eq_of_getLsbD_eq
  intro i hi
  simp [hi]
theorem pg_or0 (a : Nat) : nI a ||| 0 = nI a := by
  have h := pg_or a 0
  rw [nI_0, Nat.or_zero] at h
  exact h
theorem pg_4 : nI 4 = 4 := by decide +kernel
theorem pg_8 : nI 8 = 8 := by decide +kernel
theorem pg_50 : nI 50 = 50 := by decide +kernel
theorem pg_51 : nI 51 = 51 := by decide +kernel
theorem pg_256 : nI 256 = 256 := by decide +kernel
theorem pg_n1 : nI 1 = 1 := by decide +kernel
/-- a boolean as the machine holds it -/
def pg_b (c : Bool) : Int32 := match c with
  | true => 1
  | false => 0
theorem pg_b_nar (c : Bool) : narrow .boolean (.int (pg_b c)) = .int (pg_b c) := by cases c <;> rfl
theorem pg_b_vp (c : Bool) : vp_nar .boolean (pg_b c) = pg_b c := by cases c <;> rfl
theorem pg_b0 {c : Bool} : pg_b c = 0 ↔ c = false := by cases c <;> decide
theorem pg_10 : ¬ (1 : Int32) = 0 := by decide
theorem pg_sh : ∀ l, l < 8 → (1 : Int32) <<< (nI l &&& 31) = nI (2 ^ l) := by decide +kernel
theorem pg_c0 : ∀ s, s < 256 → ∀ j, j < 8 → ((nI s &&& ((1 : Int32) <<< (nI j &&& 31))) = 0 ↔ s.testBit j = false) := by decide +kernel
theorem pg_c1 : ∀ s, s < 256 → ∀ j, j < 8 → ((nI s &&& ((1 : Int32) <<< (nI j &&& 31))) = (1 : Int32) <<< (nI j &&& 31) ↔ s.testBit j = true) := by decide +kernel
theorem pg_yb : ∀ s, s < 256 → ∀ j, j < 8 → (((nI s >>> (nI j &&& 31)) &&& 1) = if s.testBit j = true then 1 else 0) := by decide +kernel
theorem pg_hi {s b : Nat} (h : s < 256) (hb : 8 ≤ b) : s.testBit b = false := Nat.testBit_lt_two_pow (Nat.lt_of_lt_of_le (show s < 2 ^ 8 from h) (Nat.pow_le_pow_right (by decide) hb))
theorem pg_lt8 {s b : Nat} (h : s < 256) (hb : s.testBit b = true) : b < 8 := by
  rcases Nat.lt_or_ge b 8 with k | k
  · exact k
  · rw [pg_hi h k] at hb; exact absurd hb (by decide)
theorem pg_p2 {j : Nat} (h : j < 8) : 2 ^ j < 256 := Nat.pow_lt_pow_right (by decide) h
theorem pg_orlt {a b : Nat} (ha : a < 256) (hb : b < 256) : a ||| b < 256 := Nat.or_lt_two_pow (n := 8) ha hb
theorem pg_andlt {a : Nat} (b : Nat) (ha : a < 256) : a &&& b < 256 := Nat.lt_of_le_of_lt Nat.and_le_left ha
theorem pg_m1 : (-1 : Int32) = nI (2 ^ 32 - 1) := by decide +kernel
theorem pg_andn {w : Nat} (m : Nat) (hw : w < 256) : nI w &&& (nI m ^^^ (-1)) = nI (w &&& (m ^^^ (2 ^ 8 - 1))) := by
  rw [pg_m1, nx_xor, nx_and]
  congr 1
  apply Nat.eq_of_testBit_eq
  intro i
  rw [Nat.testBit_and, Nat.testBit_and, Nat.testBit_xor, Nat.testBit_xor, Nat.testBit_two_pow_sub_one, Nat.testBit_two_pow_sub_one]
  rcases Nat.lt_or_ge i 8 with k | k
  · rw [decide_eq_true k, decide_eq_true (show i < 32 by omega)]
  · rw [pg_hi hw k, Bool.false_and, Bool.false_and]
theorem pg_nn (x y : Int32) : x &&& (y ^^^ (-1)) = 0 ↔ y &&& x = x := by
  constructor
  · intro h
    apply b_ext
    intro i hi
    have e : bt (x &&& (y ^^^ (-1))) i = bt 0 i := by rw [h]
    rw [b_and, b_xor, b_m1 i hi, b_0] at e
    rw [b_and]
    revert e
    cases bt x i <;> cases bt y i <;> decide
  · intro h
    apply b_ext
    intro i hi
    have e : bt (y &&& x) i = bt x i := by rw [h]
    rw [b_and] at e
    rw [b_and, b_xor, b_m1 i hi, b_0]
    revert e
    cases bt x i <;> cases bt y i <;> decide
theorem pg_comm (x y : Int32) : x &&& y = y &&& x := by
  apply b_ext
  intro i hi
  rw [b_and, b_and, Bool.and_comm]
/-- s has no bit outside P -/
theorem pg_sub {s P : Nat} (hs : s < 256) : (nI s &&& (nI P ^^^ (-1))) = 0 ↔ ∀ b, s.testBit b = true → P.testBit b = true := by
  rw [pg_nn, nx_and, nI_eq (Nat.lt_of_le_of_lt Nat.and_le_right (by omega)) (by omega)]
  constructor
  · intro h b hb
    have e : (P &&& s).testBit b = s.testBit b := by rw [h]
    rw [Nat.testBit_and, hb] at e
    simpa using e
  · intro h
    apply Nat.eq_of_testBit_eq
    intro i
    rw [Nat.testBit_and]
    cases k : s.testBit i
    · simp
    · rw [h i k]; rfl
/-- an array of naturals as the machine holds it -/
def pg_arr (f : Nat → Nat) : Nat → Int32 := fun b => nI (f b)
def pg_up (f : Nat → Nat) (i x : Nat) : Nat → Nat := fun b => if b = i then x else f b
theorem pg_at (f : Nat → Nat) {j : Nat} (h : j < 256) : pg_arr f (nI j).toNatClampNeg = nI (f j) := by
  rw [nI_clamp (by omega)]; rfl
theorem pg_upd (f : Nat → Nat) {j : Nat} (h : j < 256) (x : Nat) : upd (pg_arr f) (nI j).toNatClampNeg (nI x) = pg_arr (pg_up f j x) := by
  rw [nI_clamp (by omega)]
  funext b
  unfold upd pg_arr pg_up
  by_cases e : b = j
  · rw [if_pos e, if_pos e]
  · rw [if_neg e, if_neg e]
theorem pg_up_i (f : Nat → Nat) (i x : Nat) : pg_up f i x i = x := if_pos rfl
theorem pg_up_n (f : Nat → Nat) {i j : Nat} (x : Nat) (h : j ≠ i) : pg_up f i x j = f j := if_neg h
theorem pg_up_up (f : Nat → Nat) (i x y : Nat) : pg_up (pg_up f i x) i y = pg_up f i y := by
  funext b
  unfold pg_up
  by_cases e : b = i
  · rw [if_pos e, if_pos e]
  · rw [if_neg e, if_neg e, if_neg e]
theorem pg_up_self (f : Nat → Nat) (i : Nat) : pg_up f i (f i) = f := by
  funext b
  unfold pg_up
  by_cases e : b = i
  · rw [if_pos e, e]
  · rw [if_neg e]
/-- every int: a natural below n, or negative, or at least n -/
theorem pg_cut (v : Int32) (n : Nat) (hn : n < 2 ^ 31) : v < 0 ∨ (¬ v < 0 ∧ nI n ≤ v) ∨ ∃ j, j < n ∧ v = nI j := by
  by_cases h : v < 0
  · exact Or.inl h
  · obtain ⟨j, hj, rfl⟩ := nI_of h
    rcases Nat.lt_or_ge j n with k | k
    · exact Or.inr (Or.inr ⟨j, k, rfl⟩)
    · exact Or.inr (Or.inl ⟨h, nI_le k hj⟩)
end
section
/-! the pure picture: sums, the tie-break as a number, the best set, allocations -/
def pg_sum (A : Nat → Nat) (s : Nat) : Nat → Nat
  | 0 => 0
  | n + 1 => pg_sum A s n + (if s.testBit n = true then A n else 0)
theorem pg_sum_le {A : Nat → Nat} (hA : ∀ b, A b ≤ 50) (s : Nat) : ∀ n, pg_sum A s n ≤ 50 * n := by
  intro n
  induction n with
  | zero => exact Nat.le_refl 0
  | succ n ih =>
    have h := hA n
    unfold pg_sum
    split <;> omega
theorem pg_sum_t {A : Nat → Nat} {s n : Nat} (h : s.testBit n = true) : pg_sum A s (n + 1) = pg_sum A s n + A n := by
  show pg_sum A s n + (if s.testBit n = true then A n else 0) = _
  rw [if_pos h]
theorem pg_sum_f {A : Nat → Nat} {s n : Nat} (h : ¬ s.testBit n = true) : pg_sum A s (n + 1) = pg_sum A s n := by
  show pg_sum A s n + (if s.testBit n = true then A n else 0) = _
  rw [if_neg h, Nat.add_zero]
/-- a set splits into what lies in m and what doesn't -/
theorem pg_sum_split (A : Nat → Nat) (w m : Nat) : ∀ n, n ≤ 8 → pg_sum A (w &&& (m ^^^ (2 ^ 8 - 1))) n + pg_sum A (w &&& m) n = pg_sum A w n := by
  intro n
  induction n with
  | zero => intro _; rfl
  | succ n ih =>
    intro h
    have e := ih (by omega)
    have a : (w &&& (m ^^^ (2 ^ 8 - 1))).testBit n = (w.testBit n && !m.testBit n) := by
      rw [Nat.testBit_and, Nat.testBit_xor, Nat.testBit_two_pow_sub_one, decide_eq_true (show n < 8 by omega), Bool.xor_true]
    have b : (w &&& m).testBit n = (w.testBit n && m.testBit n) := Nat.testBit_and w m n
    unfold pg_sum
    rw [a, b]
    revert e
    generalize pg_sum A (w &&& (m ^^^ (2 ^ 8 - 1))) n = x
    generalize pg_sum A (w &&& m) n = y
    intro e
    cases w.testBit n <;> cases m.testBit n <;> simp <;> omega
/-- without bit b the amount of b doesn't count -/
theorem pg_sum_off {A : Nat → Nat} {s b x : Nat} (h : ¬ s.testBit b = true) : ∀ n, pg_sum (pg_up A b x) s n = pg_sum A s n := by
  intro n
  induction n with
  | zero => rfl
  | succ n ih =>
    by_cases k : s.testBit n = true
    · rw [pg_sum_t k, pg_sum_t k, ih, pg_up_n A x (show n ≠ b from fun e => h (e ▸ k))]
    · rw [pg_sum_f k, pg_sum_f k, ih]
/-- with bit b: the partners' sum and the amount of b -/
theorem pg_sum_on {A : Nat → Nat} {s b : Nat} (h : s.testBit b = true) : ∀ n, pg_sum A s n = pg_sum A (s &&& (2 ^ b ^^^ (2 ^ 8 - 1))) n + (if b < n then A b else 0) ∨ 8 < n := by
  intro n
  induction n with
  | zero => exact Or.inl rfl
  | succ n ih =>
    rcases ih with ih | ih
    · rcases Nat.lt_or_ge n 8 with k | k
      · left
        have a : (s &&& (2 ^ b ^^^ (2 ^ 8 - 1))).testBit n = (s.testBit n && !decide (b = n)) := by
          rw [Nat.testBit_and, Nat.testBit_xor, Nat.testBit_two_pow_sub_one, decide_eq_true k, Bool.xor_true, Nat.testBit_two_pow]
        unfold pg_sum
        rw [a, ih]
        by_cases e : b = n
        · subst e
          simp [h]
        · by_cases l : b < n
          · have l' : b < n + 1 := by omega
            cases s.testBit n <;> simp [e, l, l'] <;> omega
          · have l' : ¬ b < n + 1 := by omega
            cases s.testBit n <;> simp [e, l, l']
      · exact Or.inr (by omega)
    · exact Or.inr (by omega)
/-- the bits reversed: of two sets the greater one holds the least bit on which they differ -/
def pg_rv (s : Nat) : Nat := (s.testBit 0).toNat * 128 + (s.testBit 1).toNat * 64 + (s.testBit 2).toNat * 32 + (s.testBit 3).toNat * 16 + (s.testBit 4).toNat * 8 + (s.testBit 5).toNat * 4 + (s.testBit 6).toNat * 2 + (s.testBit 7).toNat
theorem pg_bit1 (s i : Nat) : (Nat.testBit s i).toNat ≤ 1 := Bool.toNat_le _
theorem pg_rv_lt (s : Nat) : pg_rv s < 256 := by
  unfold pg_rv
  have h0 := pg_bit1 s 0
  have h1 := pg_bit1 s 1
  have h2 := pg_bit1 s 2
  have h3 := pg_bit1 s 3
  have h4 := pg_bit1 s 4
  have h5 := pg_bit1 s 5
  have h6 := pg_bit1 s 6
  have h7 := pg_bit1 s 7
  omega
theorem pg_rv_rv : ∀ s, s < 256 → pg_rv (pg_rv s) = s := by decide +kernel
theorem pg_rv_inj {s t : Nat} (hs : s < 256) (ht : t < 256) (h : pg_rv s = pg_rv t) : s = t := by
  rw [← pg_rv_rv s hs, h, pg_rv_rv t ht]
theorem pg_rv_bit {s t k : Nat} (hk : k < 8) (h : ∀ j, j < k → s.testBit j = t.testBit j) (hs : s.testBit k = true) (ht : t.testBit k = false) : pg_rv t < pg_rv s := by
  have g : ∀ j, j < k → (s.testBit j).toNat = (t.testBit j).toNat := fun j hj => by rw [h j hj]
  have a : (s.testBit k).toNat = 1 := by rw [hs]; rfl
  have b : (t.testBit k).toNat = 0 := by rw [ht]; rfl
  have s0 := pg_bit1 t 1
  have s1 := pg_bit1 t 2
  have s2 := pg_bit1 t 3
  have s3 := pg_bit1 t 4
  have s4 := pg_bit1 t 5
  have s5 := pg_bit1 t 6
  have s6 := pg_bit1 t 7
  have g0 := g 0
  have g1 := g 1
  have g2 := g 2
  have g3 := g 3
  have g4 := g 4
  have g5 := g 5
  have g6 := g 6
  clear g h
  unfold pg_rv
  have c : k = 0 ∨ k = 1 ∨ k = 2 ∨ k = 3 ∨ k = 4 ∨ k = 5 ∨ k = 6 ∨ k = 7 := by omega
  rcases c with rfl | rfl | rfl | rfl | rfl | rfl | rfl | rfl
  · omega
  · have := g0 (by decide); omega
  · have := g0 (by decide); have := g1 (by decide); omega
  · have := g0 (by decide); have := g1 (by decide); have := g2 (by decide); omega
  · have := g0 (by decide); have := g1 (by decide); have := g2 (by decide); have := g3 (by decide); omega
  · have := g0 (by decide); have := g1 (by decide); have := g2 (by decide); have := g3 (by decide); have := g4 (by decide); omega
  · have := g0 (by decide); have := g1 (by decide); have := g2 (by decide); have := g3 (by decide); have := g4 (by decide); have := g5 (by decide); omega
  · have := g0 (by decide); have := g1 (by decide); have := g2 (by decide); have := g3 (by decide); have := g4 (by decide); have := g5 (by decide); have := g6 (by decide); omega
theorem pg_rv_all {s t : Nat} (h : ∀ j, j < 8 → s.testBit j = t.testBit j) : pg_rv s = pg_rv t := by
  unfold pg_rv
  rw [h 0 (by decide), h 1 (by decide), h 2 (by decide), h 3 (by decide), h 4 (by decide), h 5 (by decide), h 6 (by decide), h 7 (by decide)]
/-- the least bit of d -/
def pg_lo (d : Nat) : Nat := if d.testBit 0 then 0 else if d.testBit 1 then 1 else if d.testBit 2 then 2 else if d.testBit 3 then 3 else if d.testBit 4 then 4 else if d.testBit 5 then 5 else if d.testBit 6 then 6 else 7
theorem pg_lo_is : ∀ d, d < 256 → d ≠ 0 → pg_lo d < 8 ∧ nI d &&& -nI d = (1 : Int32) <<< (nI (pg_lo d) &&& 31) ∧ d.testBit (pg_lo d) = true ∧ ∀ j, j < pg_lo d → d.testBit j = false := by decide +kernel
theorem pg_gb {s t : Nat} (hs : s < 256) (ht : t < 256) : (nI s &&& ((nI s ^^^ nI t) &&& -(nI s ^^^ nI t))) = 0 ↔ ¬ pg_rv t < pg_rv s := by
  rw [nx_xor]
  have hd : s ^^^ t < 256 := Nat.xor_lt_two_pow (n := 8) hs ht
  by_cases e : s ^^^ t = 0
  · rw [e]
    have est : s = t := by
      apply Nat.eq_of_testBit_eq
      intro i
      have k : (s ^^^ t).testBit i = false := by rw [e]; exact Nat.zero_testBit i
      rw [Nat.testBit_xor] at k
      revert k
      cases s.testBit i <;> cases t.testBit i <;> decide
    subst est
    have z : nI 0 &&& -nI 0 = 0 := by decide +kernel
    rw [z, Int32.and_zero]
    exact ⟨fun _ => Nat.lt_irrefl _, fun _ => rfl⟩
  · obtain ⟨h8, hl, hb, hj⟩ := pg_lo_is _ hd e
    rw [hl, pg_c0 s hs _ h8]
    have agree : ∀ j, j < pg_lo (s ^^^ t) → s.testBit j = t.testBit j := by
      intro j h
      have k := hj j h
      rw [Nat.testBit_xor] at k
      revert k
      cases s.testBit j <;> cases t.testBit j <;> decide
    rw [Nat.testBit_xor] at hb
    cases es : s.testBit (pg_lo (s ^^^ t))
    · have et : t.testBit (pg_lo (s ^^^ t)) = true := by rw [es] at hb; simpa using hb
      have := pg_rv_bit h8 (fun j h => (agree j h).symm) et es
      exact ⟨fun _ => by omega, fun _ => rfl⟩
    · have et : t.testBit (pg_lo (s ^^^ t)) = false := by rw [es] at hb; simpa using hb
      have := pg_rv_bit h8 agree es et
      exact ⟨fun z => absurd z (by decide), fun z => absurd this z⟩
def pg_key (A : Nat → Nat) (s : Nat) : Nat := 256 * pg_sum A s 8 + pg_rv s
theorem pg_key_lt {A : Nat → Nat} {s t : Nat} : pg_key A s < pg_key A t ↔ pg_sum A s 8 < pg_sum A t 8 ∨ (pg_sum A t 8 = pg_sum A s 8 ∧ pg_rv s < pg_rv t) := by
  have a := pg_rv_lt s
  have b := pg_rv_lt t
  unfold pg_key
  omega
theorem pg_key_inj {A : Nat → Nat} {s t : Nat} (hs : s < 256) (ht : t < 256) (h : pg_key A s = pg_key A t) : s = t := by
  have a := pg_rv_lt s
  have b := pg_rv_lt t
  unfold pg_key at h
  exact pg_rv_inj hs ht (by omega)
/-- the best of the sets below n -/
noncomputable def pg_best (F : Nat → Bool) (K : Nat → Nat) : Nat → Option Nat
  | 0 => none
  | n + 1 => match pg_best F K n with
    | none => if F n = true then some n else none
    | some m => if F n = true ∧ K m < K n then some n else some m
theorem pg_best_none {F : Nat → Bool} {K : Nat → Nat} : ∀ n, pg_best F K n = none → ∀ t, t < n → F t = false := by
  intro n
  induction n with
  | zero => intro _ t ht; omega
  | succ n ih =>
    intro h t ht
    unfold pg_best at h
    cases e : pg_best F K n with
    | none =>
      rw [e] at h
      dsimp only at h
      by_cases k : F n = true
      · rw [if_pos k] at h; cases h
      · rcases Nat.lt_or_ge t n with l | l
        · exact ih e t l
        · have : t = n := by omega
          subst this
          simpa using k
    | some m =>
      rw [e] at h
      dsimp only at h
      split at h <;> cases h
theorem pg_best_some {F : Nat → Bool} {K : Nat → Nat} : ∀ n s, pg_best F K n = some s → s < n ∧ F s = true ∧ ∀ t, t < n → F t = true → K t ≤ K s := by
  intro n
  induction n with
  | zero => intro s h; cases h
  | succ n ih =>
    intro s h
    unfold pg_best at h
    cases e : pg_best F K n with
    | none =>
      rw [e] at h
      dsimp only at h
      by_cases k : F n = true
      · rw [if_pos k] at h
        cases h
        refine ⟨Nat.lt_succ_self _, k, fun t ht hf => ?_⟩
        rcases Nat.lt_or_ge t n with l | l
        · rw [pg_best_none n e t l] at hf; cases hf
        · have : t = n := by omega
          subst this
          exact Nat.le_refl _
      · rw [if_neg k] at h; cases h
    | some m =>
      rw [e] at h
      dsimp only at h
      obtain ⟨hm, hf, hK⟩ := ih m e
      by_cases k : F n = true ∧ K m < K n
      · rw [if_pos k] at h
        cases h
        refine ⟨Nat.lt_succ_self _, k.1, fun t ht hft => ?_⟩
        rcases Nat.lt_or_ge t n with l | l
        · have := hK t l hft
          omega
        · have : t = n := by omega
          subst this
          exact Nat.le_refl _
      · rw [if_neg k] at h
        cases h
        refine ⟨by omega, hf, fun t ht hft => ?_⟩
        rcases Nat.lt_or_ge t n with l | l
        · exact hK t l hft
        · have : t = n := by omega
          subst this
          exact Nat.not_lt.mp (fun z => k ⟨hft, z⟩)
theorem pg_best_ex {F : Nat → Bool} {K : Nat → Nat} (h : F 0 = true) : ∃ s, pg_best F K 256 = some s ∧ s < 256 ∧ F s = true ∧ ∀ t, t < 256 → F t = true → K t ≤ K s := by
  cases e : pg_best F K 256 with
  | none => rw [pg_best_none 256 e 0 (by decide)] at h; cases h
  | some s => exact ⟨s, rfl, pg_best_some 256 s e⟩
/-- a set as the machine answers it -/
def pg_o (o : Option Nat) : Int32 := match o with
  | none => -1
  | some s => nI s
/-- is s an allocation: D the bundles (0: no bid), W the bidders, H the withheld items -/
def pg_Al (D W : Nat → Nat) (H s : Nat) : Prop := ∀ b, b < 8 → s.testBit b = true → 0 < D b ∧ D b &&& H = 0 ∧ ∀ c, c < b → s.testBit c = true → D b &&& D c = 0 ∧ W b ≠ W c
noncomputable def pg_al (D W : Nat → Nat) (H s : Nat) : Bool := @decide (pg_Al D W H s) (Classical.propDecidable _)
theorem pg_al_t {D W : Nat → Nat} {H s : Nat} (h : pg_Al D W H s) : pg_al D W H s = true := @decide_eq_true _ (Classical.propDecidable _) h
theorem pg_al_f {D W : Nat → Nat} {H s : Nat} (h : ¬ pg_Al D W H s) : pg_al D W H s = false := @decide_eq_false _ (Classical.propDecidable _) h
theorem pg_al_d {D W : Nat → Nat} {H s : Nat} (h : pg_al D W H s = true) : pg_Al D W H s := @of_decide_eq_true _ (Classical.propDecidable _) h
theorem pg_al_0 (D W : Nat → Nat) (H : Nat) : pg_al D W H 0 = true := by
  apply pg_al_t
  intro b _ h
  rw [Nat.zero_testBit] at h
  cases h
noncomputable def pg_F (D W : Nat → Nat) (H : Nat) (q r : Int32) (s : Nat) : Bool := decide (nI s &&& q = q) && decide (nI s &&& r = 0) && pg_al D W H s
theorem pg_F_is {D W : Nat → Nat} {H : Nat} {q r : Int32} {s : Nat} : pg_F D W H q r s = true ↔ nI s &&& q = q ∧ nI s &&& r = 0 ∧ pg_al D W H s = true := by
  unfold pg_F
  rw [Bool.and_eq_true, Bool.and_eq_true, decide_eq_true_eq, decide_eq_true_eq, and_assoc]
theorem pg_F_0 (D W : Nat → Nat) (H : Nat) (r : Int32) : pg_F D W H 0 r 0 = true := by
  rw [pg_F_is]
  refine ⟨?_, ?_, pg_al_0 D W H⟩
  · rw [Int32.and_zero]
  · rw [nI_0, Int32.zero_and]
/-- the best allocation among those that hold all of q and none of r -/
noncomputable def pg_be (D W A : Nat → Nat) (H : Nat) (q r : Int32) : Option Nat := pg_best (pg_F D W H q r) (pg_key A) 256
/-- X's bundles of the bids that stand, Y's bundles -/
def pg_Y (P : Nat) (B : Nat → Nat) : Nat → Nat := fun b => if P.testBit b = true then B b else 0
def pg_of (D W : Nat → Nat) (p : Nat) : Nat → Nat
  | 0 => 0
  | n + 1 => if 0 < D n ∧ W n = p then pg_of D W p n ||| 2 ^ n else pg_of D W p n
theorem pg_of_lt (D W : Nat → Nat) (p : Nat) : ∀ n, n ≤ 8 → pg_of D W p n < 256 := by
  intro n
  induction n with
  | zero => intro _; show 0 < 256; decide
  | succ n ih =>
    intro h
    unfold pg_of
    have := ih (by omega)
    split
    · exact pg_orlt this (pg_p2 (by omega))
    · exact this
def pg_sold (D : Nat → Nat) (s : Nat) : Nat → Nat
  | 0 => 0
  | n + 1 => if s.testBit n = true then pg_sold D s n ||| D n else pg_sold D s n
def pg_cov (D : Nat → Nat) : Nat → Nat
  | 0 => 0
  | n + 1 => if 0 < D n then pg_cov D n ||| 2 ^ n else pg_cov D n
theorem pg_cov_lt (D : Nat → Nat) : ∀ n, n ≤ 8 → pg_cov D n < 256 := by
  intro n
  induction n with
  | zero => intro _; show 0 < 256; decide
  | succ n ih =>
    intro h
    unfold pg_cov
    have := ih (by omega)
    split
    · exact pg_orlt this (pg_p2 (by omega))
    · exact this
theorem pg_cov_bit (D : Nat → Nat) : ∀ n i, (pg_cov D n).testBit i = decide (i < n ∧ 0 < D i) := by
  intro n
  induction n with
  | zero => intro i; show Nat.testBit 0 i = _; rw [Nat.zero_testBit]; simp
  | succ n ih =>
    intro i
    unfold pg_cov
    by_cases h : 0 < D n
    · rw [if_pos h, Nat.testBit_or, ih, Nat.testBit_two_pow]
      by_cases e : n = i
      · subst e; simp [h]
      · have : (i < n + 1) = (i < n) := propext (by omega)
        simp [e, this]
    · rw [if_neg h, ih]
      by_cases e : n = i
      · subst e; simp [h]
      · have : (i < n + 1) = (i < n) := propext (by omega)
        simp [this]
end
section
/-! X's private methods, each against the pure picture, with a general post -/
theorem pg_g8 {j : Nat} (h : j < 8) : ¬ (8 : Int32) ≤ nI j := by rw [← pg_8]; exact nI_ge h (by decide)
theorem pg_e8 : (8 : Int32) ≤ nI 8 := by decide +kernel
theorem pg_g256 {j : Nat} (h : j < 256) : ¬ (256 : Int32) ≤ nI j := by rw [← pg_256]; exact nI_ge h (by decide)
theorem pg_e256 : (256 : Int32) ≤ nI 256 := by decide +kernel
theorem pg_i8 {j : Nat} (h : j < 8) : vp_in (nI j) 8 := vp_in_nI h (by decide)
theorem pg_nt {c : Bool} (h : c = false) : ¬ c = true := by rw [h]; decide
theorem pg_and0 {a b : Nat} : a &&& b = 0 ↔ ∀ i, (a.testBit i && b.testBit i) = false := by
  constructor
  · intro h i
    rw [← Nat.testBit_and, h, Nat.zero_testBit]
  · intro h
    apply Nat.eq_of_testBit_eq
    intro i
    rw [Nat.testBit_and, h i, Nat.zero_testBit]
theorem pg_or_and {a b x : Nat} : (a ||| b) &&& x = 0 ↔ a &&& x = 0 ∧ b &&& x = 0 := by
  rw [pg_and0, pg_and0, pg_and0]
  constructor
  · intro h
    constructor
    · intro i
      have := h i
      rw [Nat.testBit_or] at this
      revert this
      cases a.testBit i <;> cases b.testBit i <;> cases x.testBit i <;> decide
    · intro i
      have := h i
      rw [Nat.testBit_or] at this
      revert this
      cases a.testBit i <;> cases b.testBit i <;> cases x.testBit i <;> decide
  · intro h i
    have h1 := h.1 i
    have h2 := h.2 i
    rw [Nat.testBit_or]
    revert h1 h2
    cases a.testBit i <;> cases b.testBit i <;> cases x.testBit i <;> decide
theorem pg_nand {a b : Nat} (ha : a < 256) : nI a &&& nI b = 0 ↔ a &&& b = 0 := by
  rw [nx_and, ← nI_0, nI_eq (Nat.lt_of_lt_of_le (pg_andlt b ha) (by decide)) (by decide)]
theorem pg_xcon {post : Int32 → Prop} (u : SX) {s j : Nat} {x y : Int32} (hs : s < 256) (hj : j < 8) (ex : x = nI s) (ey : y = nI j) (h : post (pg_b (s.testBit j))) : wpX_contains post u x y := by
  obtain ⟨f1, f2, a1, a2, a3⟩ := u
  subst ex ey
  have e := pg_c0 s hs j hj
  cases k : s.testBit j
  · rw [k] at h
    exact br_t (e.mpr k) h
  · rw [k] at h
    exact br_f (fun z => by rw [e.mp z] at k; cases k) h
theorem pg_xsum_l {post : Int32 → Prop} {f1 f2 : Int32} {a1 a2 : Nat → Int32} {A : Nat → Nat} {s : Nat} (hs : s < 256) : ∀ d j, j + d = 8 → post (nI (pg_sum A s 8)) → wX_sumOfAmounts_4 post (nI s) f1 f2 a1 a2 (pg_arr A) (d + 1) (nI (pg_sum A s j)) (nI j) := by
  intro d
  induction d with
  | zero =>
    intro j hj h
    have e : j = 8 := by omega
    subst e
    exact br_t pg_e8 h
  | succ d ih =>
    intro j hj h
    have hj8 : j < 8 := by omega
    have IH := ih (j + 1) (by omega) h
    refine br_f (pg_g8 hj8) (pg_xcon _ hs hj8 rfl rfl ?_)
    cases k : s.testBit j
    · rw [pg_sum_f (pg_nt k)] at IH
      exact br_t rfl (nm_r (nI_1 j) IH)
    · refine br_f pg_10 ⟨pg_i8 hj8, nm_r (e' := nI (pg_sum A s (j + 1))) ?_ (nm_r (nI_1 j) IH)⟩
      rw [pg_at A (by omega), nI_add, pg_sum_t k]
theorem pg_xsum {post : Int32 → Prop} {f1 f2 : Int32} {a1 a2 : Nat → Int32} {A : Nat → Nat} {s : Nat} {x : Int32} (hs : s < 256) (ex : x = nI s) (h : post (nI (pg_sum A s 8))) : wpX_sumOfAmounts post (f1, f2, a1, a2, pg_arr A) x := by
  subst ex
  exact ⟨9, pg_xsum_l hs 8 0 rfl h⟩
theorem pg_xgb {post : Int32 → Prop} (u : SX) {s t : Nat} (hs : s < 256) (ht : t < 256) (h : post (pg_b (decide (pg_rv t < pg_rv s)))) : wpX_goesBefore post u (nI s) (nI t) := by
  obtain ⟨f1, f2, a1, a2, a3⟩ := u
  refine nm_e (nm_e ?_)
  by_cases k : pg_rv t < pg_rv s
  · rw [decide_eq_true k] at h
    exact br_f (fun z => (pg_gb hs ht).mp z k) h
  · rw [decide_eq_false k] at h
    exact br_t ((pg_gb hs ht).mpr k) h
def pg_tk (B : Nat → Nat) (G s : Nat) : Nat → Nat
  | 0 => G
  | n + 1 => if s.testBit n = true then pg_tk B G s n ||| B n else pg_tk B G s n
def pg_sv (W : Nat → Nat) (s : Nat) : Nat → Nat
  | 0 => 0
  | n + 1 => if s.testBit n = true then pg_sv W s n ||| 2 ^ W n else pg_sv W s n
theorem pg_tk_lt {B : Nat → Nat} {G : Nat} (s : Nat) (hG : G < 256) (hB : ∀ b, B b < 256) : ∀ n, pg_tk B G s n < 256 := by
  intro n
  induction n with
  | zero => exact hG
  | succ n ih =>
    unfold pg_tk
    split
    · exact pg_orlt ih (hB n)
    · exact ih
theorem pg_sv_lt {W : Nat → Nat} (s : Nat) (hW : ∀ b, W b < 4) : ∀ n, pg_sv W s n < 256 := by
  intro n
  induction n with
  | zero => show 0 < 256; decide
  | succ n ih =>
    unfold pg_sv
    split
    · exact pg_orlt ih (pg_p2 (Nat.lt_trans (hW n) (by decide)))
    · exact ih
theorem pg_tk_and (B : Nat → Nat) (G s x : Nat) : ∀ n, pg_tk B G s n &&& x = 0 ↔ G &&& x = 0 ∧ ∀ c, c < n → s.testBit c = true → B c &&& x = 0 := by
  intro n
  induction n with
  | zero => exact ⟨fun h => ⟨h, fun c hc => absurd hc (Nat.not_lt_zero c)⟩, fun h => h.1⟩
  | succ n ih =>
    unfold pg_tk
    by_cases k : s.testBit n = true
    · rw [if_pos k, pg_or_and, ih]
      constructor
      · intro h
        refine ⟨h.1.1, fun c hc sc => ?_⟩
        rcases Nat.lt_or_ge c n with l | l
        · exact h.1.2 c l sc
        · have : c = n := by omega
          subst this
          exact h.2
      · intro h
        exact ⟨⟨h.1, fun c hc sc => h.2 c (by omega) sc⟩, h.2 n (by omega) k⟩
    · rw [if_neg k, ih]
      constructor
      · intro h
        refine ⟨h.1, fun c hc sc => ?_⟩
        rcases Nat.lt_or_ge c n with l | l
        · exact h.2 c l sc
        · have : c = n := by omega
          subst this
          exact absurd sc k
      · intro h
        exact ⟨h.1, fun c hc sc => h.2 c (by omega) sc⟩
theorem pg_sv_bit (W : Nat → Nat) (s w : Nat) : ∀ n, (pg_sv W s n).testBit w = true ↔ ∃ c, c < n ∧ s.testBit c = true ∧ W c = w := by
  intro n
  induction n with
  | zero =>
    show Nat.testBit 0 w = true ↔ _
    rw [Nat.zero_testBit]
    exact ⟨fun h => absurd h (by decide), fun ⟨c, hc, _⟩ => absurd hc (Nat.not_lt_zero c)⟩
  | succ n ih =>
    unfold pg_sv
    by_cases k : s.testBit n = true
    · rw [if_pos k, Nat.testBit_or, Bool.or_eq_true, ih, Nat.testBit_two_pow, decide_eq_true_eq]
      constructor
      · rintro (⟨c, h1, h2, h3⟩ | h)
        · exact ⟨c, by omega, h2, h3⟩
        · exact ⟨n, by omega, k, h⟩
      · rintro ⟨c, h1, h2, h3⟩
        rcases Nat.lt_or_ge c n with l | l
        · exact Or.inl ⟨c, l, h2, h3⟩
        · have : c = n := by omega
          subst this
          exact Or.inr h3
    · rw [if_neg k, ih]
      constructor
      · rintro ⟨c, h1, h2, h3⟩
        exact ⟨c, by omega, h2, h3⟩
      · rintro ⟨c, h1, h2, h3⟩
        rcases Nat.lt_or_ge c n with l | l
        · exact ⟨c, l, h2, h3⟩
        · have : c = n := by omega
          subst this
          exact absurd h2 k
theorem pg_Y_t {P b : Nat} {B : Nat → Nat} (h : P.testBit b = true) : pg_Y P B b = B b := if_pos h
theorem pg_Y_f {P b : Nat} {B : Nat → Nat} (h : ¬ P.testBit b = true) : pg_Y P B b = 0 := if_neg h
theorem pg_Y_pos {P b : Nat} {B : Nat → Nat} (hBP : ∀ b, P.testBit b = true → 0 < B b) : 0 < pg_Y P B b ↔ P.testBit b = true := by
  by_cases k : P.testBit b = true
  · rw [pg_Y_t k]
    exact ⟨fun _ => k, fun _ => hBP b k⟩
  · rw [pg_Y_f k]
    exact ⟨fun h => absurd h (Nat.lt_irrefl 0), fun h => absurd h k⟩
theorem pg_land_comm (a b : Nat) : a &&& b = b &&& a := Nat.and_comm a b
theorem pg_xal_l {post : Int32 → Prop} {P G s : Nat} {f2 : Int32} {B W : Nat → Nat} {a3 : Nat → Int32} (hs : s < 256) (hG : G < 256) (hB : ∀ b, B b < 256) (hW : ∀ b, W b < 4) (hP : ∀ b, s.testBit b = true → P.testBit b = true) (hBP : ∀ b, P.testBit b = true → 0 < B b) (h : post (pg_b (pg_al (pg_Y P B) W G s))) : ∀ d j, j + d = 8 → (∀ b, b < j → s.testBit b = true → 0 < pg_Y P B b ∧ pg_Y P B b &&& G = 0 ∧ ∀ c, c < b → s.testBit c = true → pg_Y P B b &&& pg_Y P B c = 0 ∧ W b ≠ W c) → wX_isAllocation_21 post (nI s) (nI P) f2 (pg_arr B) (pg_arr W) a3 (d + 1) (nI (pg_tk B G s j)) (nI (pg_sv W s j)) (nI j) := by
  have eD : ∀ b, s.testBit b = true → pg_Y P B b = B b := fun b hb => pg_Y_t (hP b hb)
  intro d
  induction d with
  | zero =>
    intro j hj I
    have e : j = 8 := by omega
    subst e
    rw [pg_al_t I] at h
    exact br_t pg_e8 h
  | succ d ih =>
    intro j hj I
    have hj8 : j < 8 := by omega
    refine br_f (pg_g8 hj8) (pg_xcon _ hs hj8 rfl rfl ?_)
    cases k : s.testBit j
    · have IH := ih (j + 1) (by omega) (fun b hb sb => by
        rcases Nat.lt_or_ge b j with l | l
        · exact I b l sb
        · have : b = j := by omega
          subst this
          rw [k] at sb
          cases sb)
      have e1 : pg_tk B G s (j + 1) = pg_tk B G s j := if_neg (pg_nt k)
      have e2 : pg_sv W s (j + 1) = pg_sv W s j := if_neg (pg_nt k)
      rw [e1, e2] at IH
      exact br_t rfl (nm_r (nI_1 j) IH)
    · refine br_f pg_10 ⟨pg_i8 hj8, ?_⟩
      rw [pg_at B (show j < 256 by omega)]
      by_cases t : pg_tk B G s j &&& B j = 0
      · refine br_t ((pg_nand (pg_tk_lt s hG hB j)).mpr t) ⟨pg_i8 hj8, pg_xcon _ (pg_sv_lt s hW j) (show W j < 8 from Nat.lt_trans (hW j) (by decide)) rfl (pg_at W (by omega)) ?_⟩
        cases v : (pg_sv W s j).testBit (W j)
        · have t' := (pg_tk_and B G s (B j) j).mp t
          have IH := ih (j + 1) (by omega) (fun b hb sb => by
            rcases Nat.lt_or_ge b j with l | l
            · exact I b l sb
            · have : b = j := by omega
              subst this
              rw [eD b sb]
              refine ⟨hBP b (hP b sb), by rw [pg_land_comm]; exact t'.1, fun c hc sc => ⟨?_, fun e => ?_⟩⟩
              · rw [eD c sc, pg_land_comm]
                exact t'.2 c hc sc
              · have := (pg_sv_bit W s (W b) b).mpr ⟨c, hc, sc, e.symm⟩
                rw [v] at this
                cases this)
          have e1 : pg_tk B G s (j + 1) = pg_tk B G s j ||| B j := if_pos k
          have e2 : pg_sv W s (j + 1) = pg_sv W s j ||| 2 ^ W j := if_pos k
          rw [e1, e2] at IH
          refine br_t rfl ⟨pg_i8 hj8, nm_r (pg_or _ _) ⟨pg_i8 hj8, nm_r (e' := nI (pg_sv W s j ||| 2 ^ W j)) ?_ (nm_r (nI_1 j) IH)⟩⟩
          rw [pg_at W (by omega), pg_sh _ (Nat.lt_trans (hW j) (by decide)), pg_or]
        · refine br_f pg_10 ?_
          rw [pg_al_f] at h
          · exact h
          · intro z
            obtain ⟨c, hc, sc, e⟩ := (pg_sv_bit W s (W j) j).mp v
            exact ((z j hj8 k).2.2 c hc sc).2 e.symm
      · refine br_f (fun z => t ((pg_nand (pg_tk_lt s hG hB j)).mp z)) ?_
        rw [pg_al_f] at h
        · exact h
        · intro z
          apply t
          rw [pg_tk_and]
          have zj := z j hj8 k
          rw [eD j k] at zj
          refine ⟨by rw [pg_land_comm]; exact zj.2.1, fun c hc sc => ?_⟩
          have := (zj.2.2 c hc sc).1
          rw [eD c sc, pg_land_comm] at this
          exact this
theorem pg_xal {post : Int32 → Prop} {P G s : Nat} {f2 : Int32} {B W : Nat → Nat} {a3 : Nat → Int32} {x y : Int32} (hs : s < 256) (hG : G < 256) (hB : ∀ b, B b < 256) (hW : ∀ b, W b < 4) (hBP : ∀ b, P.testBit b = true → 0 < B b) (ex : x = nI s) (ey : y = nI G) (h : post (pg_b (pg_al (pg_Y P B) W G s))) : wpX_isAllocation post (nI P, f2, pg_arr B, pg_arr W, a3) x y := by
  subst ex ey
  by_cases k : (nI s &&& (nI P ^^^ (-1))) = 0
  · exact br_t k ⟨9, pg_xal_l hs hG hB hW ((pg_sub hs).mp k) hBP h 8 0 rfl (fun b hb => absurd hb (Nat.not_lt_zero b))⟩
  · refine br_f k ?_
    rw [pg_al_f] at h
    · exact h
    · intro z
      apply k
      rw [pg_sub hs]
      intro b hb
      exact (pg_Y_pos hBP).mp (z b (pg_lt8 hs hb) hb).1
end
section
/-! X: the best allocation, bidsOf, sold's loop, isBid, bid's loop -/
theorem pg_best_n {F : Nat → Bool} {K : Nat → Nat} {n : Nat} (h : F n = false) : pg_best F K (n + 1) = pg_best F K n := by
  show (match pg_best F K n with | none => if F n = true then some n else none | some m => if F n = true ∧ K m < K n then some n else some m) = _
  rw [h]
  cases pg_best F K n with
  | none => rfl
  | some m => exact if_neg (fun z => absurd z.1 (by decide))
theorem pg_best_0 {F : Nat → Bool} {K : Nat → Nat} {n : Nat} (h : F n = true) (e : pg_best F K n = none) : pg_best F K (n + 1) = some n := by
  show (match pg_best F K n with | none => if F n = true then some n else none | some m => if F n = true ∧ K m < K n then some n else some m) = _
  rw [e]
  exact if_pos h
theorem pg_best_t {F : Nat → Bool} {K : Nat → Nat} {n m : Nat} (h : F n = true) (e : pg_best F K n = some m) (k : K m < K n) : pg_best F K (n + 1) = some n := by
  show (match pg_best F K n with | none => if F n = true then some n else none | some m => if F n = true ∧ K m < K n then some n else some m) = _
  rw [e]
  exact if_pos ⟨h, k⟩
theorem pg_best_f {F : Nat → Bool} {K : Nat → Nat} {n m : Nat} (e : pg_best F K n = some m) (k : ¬ K m < K n) : pg_best F K (n + 1) = some m := by
  show (match pg_best F K n with | none => if F n = true then some n else none | some m => if F n = true ∧ K m < K n then some n else some m) = _
  rw [e]
  exact if_neg (fun z => k z.2)
/-- the sum that goes with the best set so far -/
def pg_s (A : Nat → Nat) (o : Option Nat) : Int32 := match o with
  | none => -1
  | some s => nI (pg_sum A s 8)
theorem pg_sum31 {A : Nat → Nat} (hA : ∀ b, A b ≤ 50) (s : Nat) : pg_sum A s 8 < 2 ^ 31 := Nat.lt_of_le_of_lt (pg_sum_le hA s 8) (by decide)
theorem pg_m1lt {n : Nat} (h : n < 2 ^ 31) : (-1 : Int32) < nI n := by
  rw [Int32.lt_iff_toInt_lt, nI_toInt h]
  have : (-1 : Int32).toInt = -1 := by decide
  omega
theorem pg_xbest_b {post : Int32 → Prop} {J : Int32 → Int32 → Int32 → Prop} {P G i : Nat} {f2 q r : Int32} {B W A : Nat → Nat} (hi : i < 256) (hG : G < 256) (hB : ∀ b, B b < 256) (hW : ∀ b, W b < 4) (hA : ∀ b, A b ≤ 50) (hBP : ∀ b, P.testBit b = true → 0 < B b) (hq : nI i &&& q = q) (hr : nI i &&& r = 0) (h : J (pg_o (pg_best (pg_F (pg_Y P B) W G q r) (pg_key A) (i + 1))) (pg_s A (pg_best (pg_F (pg_Y P B) W G q r) (pg_key A) (i + 1))) (nI (i + 1))) : wX_bestAllocation_37 post J q r (nI G) (pg_o (pg_best (pg_F (pg_Y P B) W G q r) (pg_key A) i)) (pg_s A (pg_best (pg_F (pg_Y P B) W G q r) (pg_key A) i)) (nI i) 1 (nI P) f2 (pg_arr B) (pg_arr W) (pg_arr A) := by
  refine br_f pg_10 (pg_xal hi hG hB hW hBP rfl rfl ?_)
  cases k : pg_al (pg_Y P B) W G i
  · have e : pg_F (pg_Y P B) W G q r i = false := by
      unfold pg_F
      rw [k, Bool.and_false]
    rw [pg_best_n e] at h
    exact br_t rfl (nm_r (nI_1 i) h)
  · have e : pg_F (pg_Y P B) W G q r i = true := pg_F_is.mpr ⟨hq, hr, k⟩
    refine br_f pg_10 (pg_xsum hi rfl ?_)
    cases c : pg_best (pg_F (pg_Y P B) W G q r) (pg_key A) i with
    | none =>
      rw [pg_best_0 e c] at h
      exact br_t (pg_m1lt (pg_sum31 hA i)) (nm_r (nI_1 i) h)
    | some m =>
      have hm : m < 256 := Nat.lt_trans (pg_best_some i m c).1 hi
      by_cases l : pg_sum A m 8 < pg_sum A i 8
      · rw [pg_best_t e c (pg_key_lt.mpr (Or.inl l))] at h
        exact br_t (nI_lt l (pg_sum31 hA i)) (nm_r (nI_1 i) h)
      · refine br_f (nI_nlt (Nat.not_lt.mp l) (pg_sum31 hA m)) ?_
        by_cases t : pg_sum A i 8 = pg_sum A m 8
        · refine br_t (show nI (pg_sum A i 8) = nI (pg_sum A m 8) by rw [t]) (pg_xgb _ hi hm ?_)
          by_cases v : pg_rv m < pg_rv i
          · rw [pg_best_t e c (pg_key_lt.mpr (Or.inr ⟨t, v⟩))] at h
            rw [decide_eq_true v]
            exact br_f pg_10 (nm_r (nI_1 i) h)
          · rw [pg_best_f c (fun z => by rcases pg_key_lt.mp z with a | a; exact l a; exact v a.2)] at h
            rw [decide_eq_false v]
            exact br_t rfl (nm_r (nI_1 i) h)
        · rw [pg_best_f c (fun z => by rcases pg_key_lt.mp z with a | a; exact l a; exact t a.1)] at h
          exact br_f (fun z => t ((nI_eq (pg_sum31 hA i) (pg_sum31 hA m)).mp z)) (nm_r (nI_1 i) h)
theorem pg_xbest_n {post : Int32 → Prop} {J : Int32 → Int32 → Int32 → Prop} {i : Nat} {x1 x2 x3 x4 x5 f1 f2 : Int32} {a1 a2 a3 : Nat → Int32} (h : J x4 x5 (nI (i + 1))) : wX_bestAllocation_36 post J x1 x2 x3 x4 x5 (nI i) f1 f2 a1 a2 a3 := by
  refine br_t rfl (nm_r (nI_1 i) h)
theorem pg_xbest_l {post : Int32 → Prop} {P G : Nat} {f2 q r : Int32} {B W A : Nat → Nat} (hG : G < 256) (hB : ∀ b, B b < 256) (hW : ∀ b, W b < 4) (hA : ∀ b, A b ≤ 50) (hBP : ∀ b, P.testBit b = true → 0 < B b) (h : post (pg_o (pg_be (pg_Y P B) W A G q r))) : ∀ d i, i + d = 256 → wX_bestAllocation_9 post q r (nI G) (nI P) f2 (pg_arr B) (pg_arr W) (pg_arr A) (d + 1) (pg_o (pg_best (pg_F (pg_Y P B) W G q r) (pg_key A) i)) (pg_s A (pg_best (pg_F (pg_Y P B) W G q r) (pg_key A) i)) (nI i) := by
  intro d
  induction d with
  | zero =>
    intro i hi
    have e : i = 256 := by omega
    subst e
    exact br_t pg_e256 h
  | succ d ih =>
    intro i hi
    have hi8 : i < 256 := by omega
    have IH := ih (i + 1) (by omega)
    refine br_f (pg_g256 hi8) ?_
    by_cases hq : nI i &&& q = q
    · refine br_t hq ?_
      by_cases hr : nI i &&& r = 0
      · exact br_t hr (pg_xbest_b hi8 hG hB hW hA hBP hq hr IH)
      · rw [pg_best_n (by unfold pg_F; rw [decide_eq_false hr, Bool.and_false, Bool.false_and])] at IH
        exact br_f hr (pg_xbest_n IH)
    · rw [pg_best_n (by unfold pg_F; rw [decide_eq_false hq, Bool.false_and, Bool.false_and])] at IH
      exact br_f hq (pg_xbest_n IH)
theorem pg_xbest {post : Int32 → Prop} {P G : Nat} {f2 q r g : Int32} {B W A : Nat → Nat} (hG : G < 256) (hB : ∀ b, B b < 256) (hW : ∀ b, W b < 4) (hA : ∀ b, A b ≤ 50) (hBP : ∀ b, P.testBit b = true → 0 < B b) (eg : g = nI G) (h : post (pg_o (pg_be (pg_Y P B) W A G q r))) : wpX_bestAllocation post (nI P, f2, pg_arr B, pg_arr W, pg_arr A) q r g := by
  subst eg
  exact ⟨257, pg_xbest_l hG hB hW hA hBP h 256 0 rfl⟩
theorem pg_xof_l {post : Int32 → Prop} {P p : Nat} {f2 : Int32} {B W : Nat → Nat} {a3 : Nat → Int32} (hP : P < 256) (hp : p < 4) (hW : ∀ b, W b < 4) (hBP : ∀ b, P.testBit b = true → 0 < B b) (h : post (nI (pg_of (pg_Y P B) W p 8))) : ∀ d j, j + d = 8 → wX_bidsOf_4 post (nI p) (nI P) f2 (pg_arr B) (pg_arr W) a3 (d + 1) (nI (pg_of (pg_Y P B) W p j)) (nI j) := by
  intro d
  induction d with
  | zero =>
    intro j hj
    have e : j = 8 := by omega
    subst e
    exact br_t pg_e8 h
  | succ d ih =>
    intro j hj
    have hj8 : j < 8 := by omega
    have IH := ih (j + 1) (by omega)
    refine br_f (pg_g8 hj8) (pg_xcon _ hP hj8 rfl rfl ?_)
    have u : pg_of (pg_Y P B) W p (j + 1) = if 0 < pg_Y P B j ∧ W j = p then pg_of (pg_Y P B) W p j ||| 2 ^ j else pg_of (pg_Y P B) W p j := rfl
    rw [u] at IH
    cases k : P.testBit j
    · rw [if_neg (fun z => by rw [(pg_Y_pos hBP).mp z.1] at k; cases k)] at IH
      exact br_t rfl (nm_r (nI_1 j) IH)
    · refine br_f pg_10 ⟨pg_i8 hj8, ?_⟩
      rw [pg_at W (show j < 256 by omega)]
      by_cases t : W j = p
      · rw [if_pos ⟨(pg_Y_pos hBP).mpr k, t⟩] at IH
        refine br_t (by rw [t]) (nm_r ?_ (nm_r (nI_1 j) IH))
        rw [pg_sh j hj8, pg_or]
      · rw [if_neg (fun z => t z.2)] at IH
        exact br_f (fun z => t ((nI_eq (Nat.lt_trans (hW j) (by decide)) (Nat.lt_trans hp (by decide))).mp z)) (nm_r (nI_1 j) IH)
theorem pg_xof {post : Int32 → Prop} {P p : Nat} {f2 : Int32} {B W : Nat → Nat} {a3 : Nat → Int32} (hP : P < 256) (hp : p < 4) (hW : ∀ b, W b < 4) (hBP : ∀ b, P.testBit b = true → 0 < B b) (h : post (nI (pg_of (pg_Y P B) W p 8))) : wpX_bidsOf post (nI P, f2, pg_arr B, pg_arr W, a3) (nI p) :=
  ⟨9, pg_xof_l hP hp hW hBP h 8 0 rfl⟩
theorem pg_xsold_l {post : Int32 → Prop} {P s : Nat} {f2 : Int32} {B : Nat → Nat} {a2 a3 : Nat → Int32} (hs : s < 256) (hP : ∀ b, s.testBit b = true → P.testBit b = true) (h : post (nI (pg_sold (pg_Y P B) s 8))) : ∀ d j, j + d = 8 → wX_sold_9 post (nI s) (nI P) f2 (pg_arr B) a2 a3 (d + 1) (nI (pg_sold (pg_Y P B) s j)) (nI j) := by
  intro d
  induction d with
  | zero =>
    intro j hj
    have e : j = 8 := by omega
    subst e
    exact br_t pg_e8 h
  | succ d ih =>
    intro j hj
    have hj8 : j < 8 := by omega
    have IH := ih (j + 1) (by omega)
    refine br_f (pg_g8 hj8) (pg_xcon _ hs hj8 rfl rfl ?_)
    have u : pg_sold (pg_Y P B) s (j + 1) = if s.testBit j = true then pg_sold (pg_Y P B) s j ||| pg_Y P B j else pg_sold (pg_Y P B) s j := rfl
    rw [u] at IH
    cases k : s.testBit j
    · rw [if_neg (pg_nt k)] at IH
      exact br_t rfl (nm_r (nI_1 j) IH)
    · rw [if_pos k, pg_Y_t (hP j k)] at IH
      refine br_f pg_10 ⟨pg_i8 hj8, nm_r ?_ (nm_r (nI_1 j) IH)⟩
      rw [pg_at B (by omega), pg_or]
/-- v is the number of a bid -/
def pg_is (D : Nat → Nat) (v : Int32) : Prop := ∃ j, j < 8 ∧ v = nI j ∧ 0 < D j
theorem pg_xis {post : Int32 → Prop} {P : Nat} {f2 : Int32} {B : Nat → Nat} {a1 a2 a3 : Nat → Int32} (hP : P < 256) (hBP : ∀ b, P.testBit b = true → 0 < B b) (v : Int32) (h1 : pg_is (pg_Y P B) v → post 1) (h0 : ¬ pg_is (pg_Y P B) v → post 0) : wpX_isBid post (nI P, f2, a1, a2, a3) v := by
  rcases pg_cut v 8 (by decide) with h | ⟨h, h8⟩ | ⟨j, hj, e⟩
  · refine br_t h (h0 ?_)
    rintro ⟨j, hj, e, _⟩
    rw [e] at h
    exact nI_pos (by omega) h
  · rw [pg_8] at h8
    refine br_f h (br_t h8 (h0 ?_))
    rintro ⟨j, hj, e, _⟩
    rw [e] at h8
    exact pg_g8 hj h8
  · subst e
    refine br_f (nI_pos (by omega)) (br_f (pg_g8 hj) (pg_xcon _ hP hj rfl rfl ?_))
    cases k : P.testBit j
    · refine br_t rfl (h0 ?_)
      rintro ⟨i, hi, e, z⟩
      rw [nI_eq (by omega) (by omega)] at e
      subst e
      rw [(pg_Y_pos hBP).mp z] at k
      cases k
    · exact br_f pg_10 (h1 ⟨j, hj, rfl, (pg_Y_pos hBP).mpr k⟩)
theorem pg_xfree {post : Int32 → SX → Prop} {P H x y z j : Nat} {B W A : Nat → Nat} (hP : P < 256) (hj : j < 8) (hf : P.testBit j = false) (hb : ∀ b, b < j → P.testBit b = true) (hBP : ∀ b, P.testBit b = true → 0 < B b) (h : post (nI j) (nI (P ||| 2 ^ j), nI H, pg_arr (pg_up B j x), pg_arr (pg_up W j y), pg_arr (pg_up A j z))) : ∀ d i, i + d = j → wX_bid_33 post (nI x) (nI y) (nI z) (nI P) (nI H) (pg_arr B) (pg_arr W) (pg_arr A) (d + 1) (nI i) := by
  intro d
  induction d with
  | zero =>
    intro i hi
    have e : i = j := by omega
    subst e
    refine br_f (pg_g8 hj) (pg_xis hP hBP _ (fun z => ?_) (fun _ => ?_))
    · obtain ⟨i', _, e, z⟩ := z
      rw [nI_eq (by omega) (by omega)] at e
      subst e
      rw [(pg_Y_pos hBP).mp z] at hf
      cases hf
    · have hi := pg_i8 hj
      exact br_t rfl ⟨hi, nm_r (pg_upd B (by omega) x) ⟨hi, nm_r (pg_upd W (by omega) y) ⟨hi, nm_r (pg_upd A (by omega) z) (nm_r (by rw [pg_sh i hj, pg_or]) h)⟩⟩⟩
  | succ d ih =>
    intro i hi
    have hi8 : i < 8 := by omega
    refine br_f (pg_g8 hi8) (pg_xis hP hBP _ (fun _ => ?_) (fun z => ?_))
    · exact br_f pg_10 (nm_r (nI_1 i) (ih (i + 1) (by omega)))
    · exact absurd ⟨i, hi8, rfl, (pg_Y_pos hBP).mpr (hb i (by omega))⟩ z
theorem pg_xfull {post : Int32 → SX → Prop} {P H : Nat} {x1 x2 x3 : Int32} {B W A : Nat → Nat} (hP : P < 256) (hb : ∀ b, b < 8 → P.testBit b = true) (hBP : ∀ b, P.testBit b = true → 0 < B b) (h : post (-2) (nI P, nI H, pg_arr B, pg_arr W, pg_arr A)) : ∀ d i, i + d = 8 → wX_bid_33 post x1 x2 x3 (nI P) (nI H) (pg_arr B) (pg_arr W) (pg_arr A) (d + 1) (nI i) := by
  intro d
  induction d with
  | zero =>
    intro i hi
    have e : i = 8 := by omega
    subst e
    exact br_t pg_e8 h
  | succ d ih =>
    intro i hi
    have hi8 : i < 8 := by omega
    refine br_f (pg_g8 hi8) (pg_xis hP hBP _ (fun _ => ?_) (fun z => ?_))
    · exact br_f pg_10 (nm_r (nI_1 i) (ih (i + 1) (by omega)))
    · exact absurd ⟨i, hi8, rfl, (pg_Y_pos hBP).mpr (hb i (by omega))⟩ z
end
section
/-! Y's private methods against the same picture -/
theorem pg_yt {s j : Nat} (hs : s < 256) (hj : j < 8) (h : s.testBit j = true) : ((nI s >>> (nI j &&& 31)) &&& 1) = 1 := by
  rw [pg_yb s hs j hj, if_pos h]
theorem pg_yf {s j : Nat} (hs : s < 256) (hj : j < 8) (h : s.testBit j = false) : ¬ ((nI s >>> (nI j &&& 31)) &&& 1) = 1 := by
  rw [pg_yb s hs j hj, if_neg (pg_nt h)]
  decide
theorem pg_yis {post : Int32 → Prop} {f : Int32} {D : Nat → Nat} {a2 a3 a4 : Nat → Int32} (hD : ∀ b, D b < 256) (v : Int32) (h1 : pg_is D v → post 1) (h0 : ¬ pg_is D v → post 0) : wpY_is post (f, pg_arr D, a2, a3, a4) v := by
  rcases pg_cut v 8 (by decide) with h | ⟨h, h8⟩ | ⟨j, hj, e⟩
  · refine br_t h (h0 ?_)
    rintro ⟨j, hj, e, _⟩
    rw [e] at h
    exact nI_pos (by omega) h
  · rw [pg_8] at h8
    refine br_f h (br_t h8 (h0 ?_))
    rintro ⟨j, hj, e, _⟩
    rw [e] at h8
    exact pg_g8 hj h8
  · subst e
    have h31 : D j < 2 ^ 31 := Nat.lt_trans (hD j) (by decide)
    refine br_f (nI_pos (by omega)) (br_f (pg_g8 hj) ⟨pg_i8 hj, ?_⟩)
    rw [pg_at D (show j < 256 by omega)]
    by_cases k : 0 < D j
    · exact br_f (nI_nle k h31) (h1 ⟨j, hj, rfl, k⟩)
    · have e : D j = 0 := by omega
      refine br_t (by rw [e]; decide +kernel) (h0 ?_)
      rintro ⟨i, hi, ei, z⟩
      rw [nI_eq (by omega) (by omega)] at ei
      subst ei
      exact k z
/-- may bids j and c win together -/
def pg_pr (D W : Nat → Nat) (j c : Nat) : Bool := decide (D j &&& D c = 0) && decide (W j ≠ W c)
def pg_in (D W : Nat → Nat) (s j : Nat) (z : Bool) : Nat → Bool
  | 0 => true
  | c + 1 => pg_in D W s j z c && !(z && s.testBit c && !pg_pr D W j c)
def pg_ou (D W : Nat → Nat) (H s : Nat) : Nat → Bool
  | 0 => true
  | j + 1 => (pg_ou D W H s j && !(s.testBit j && !(decide (0 < D j) && decide (D j &&& H = 0)))) && pg_in D W s j (s.testBit j) j
theorem pg_in_is (D W : Nat → Nat) (s j : Nat) : ∀ n, pg_in D W s j true n = true ↔ ∀ c, c < n → s.testBit c = true → D j &&& D c = 0 ∧ W j ≠ W c := by
  intro n
  induction n with
  | zero => exact ⟨fun _ c hc => absurd hc (Nat.not_lt_zero c), fun _ => rfl⟩
  | succ n ih =>
    have u : pg_in D W s j true (n + 1) = (pg_in D W s j true n && !(true && s.testBit n && !pg_pr D W j n)) := rfl
    rw [u, Bool.and_eq_true, ih]
    have p : pg_pr D W j n = true ↔ D j &&& D n = 0 ∧ W j ≠ W n := by
      unfold pg_pr
      rw [Bool.and_eq_true, decide_eq_true_eq, decide_eq_true_eq]
    constructor
    · intro h c hc sc
      rcases Nat.lt_or_ge c n with l | l
      · exact h.1 c l sc
      · have : c = n := by omega
        subst this
        have h2 := h.2
        rw [sc] at h2
        exact p.mp (by simpa using h2)
    · intro h
      refine ⟨fun c hc sc => h c (by omega) sc, ?_⟩
      cases k : s.testBit n
      · rfl
      · rw [p.mpr (h n (by omega) k)]; rfl
theorem pg_in_f (D W : Nat → Nat) (s j : Nat) : ∀ n, pg_in D W s j false n = true := by
  intro n
  induction n with
  | zero => rfl
  | succ n ih =>
    have u : pg_in D W s j false (n + 1) = (pg_in D W s j false n && !(false && s.testBit n && !pg_pr D W j n)) := rfl
    rw [u, ih]; rfl
theorem pg_ou_is (D W : Nat → Nat) (H s : Nat) : ∀ n, pg_ou D W H s n = true ↔ ∀ b, b < n → s.testBit b = true → 0 < D b ∧ D b &&& H = 0 ∧ ∀ c, c < b → s.testBit c = true → D b &&& D c = 0 ∧ W b ≠ W c := by
  intro n
  induction n with
  | zero => exact ⟨fun _ c hc => absurd hc (Nat.not_lt_zero c), fun _ => rfl⟩
  | succ n ih =>
    have u : pg_ou D W H s (n + 1) = ((pg_ou D W H s n && !(s.testBit n && !(decide (0 < D n) && decide (D n &&& H = 0)))) && pg_in D W s n (s.testBit n) n) := rfl
    rw [u, Bool.and_eq_true, Bool.and_eq_true, ih]
    cases k : s.testBit n
    · constructor
      · intro h b hb sb
        rcases Nat.lt_or_ge b n with l | l
        · exact h.1.1 b l sb
        · have : b = n := by omega
          subst this
          rw [k] at sb
          cases sb
      · intro h
        exact ⟨⟨fun b hb sb => h b (by omega) sb, rfl⟩, pg_in_f D W s n n⟩
    · rw [pg_in_is]
      constructor
      · intro h b hb sb
        rcases Nat.lt_or_ge b n with l | l
        · exact h.1.1 b l sb
        · have : b = n := by omega
          subst this
          have h2 := h.1.2
          rw [Bool.true_and, Bool.not_not, Bool.and_eq_true, decide_eq_true_eq, decide_eq_true_eq] at h2
          exact ⟨h2.1, h2.2, h.2⟩
      · intro h
        have hn := h n (by omega) k
        refine ⟨⟨fun b hb sb => h b (by omega) sb, ?_⟩, hn.2.2⟩
        rw [decide_eq_true hn.1, decide_eq_true hn.2.1]; rfl
theorem pg_ou_al (D W : Nat → Nat) (H s : Nat) : pg_ou D W H s 8 = pg_al D W H s := by
  cases k : pg_al D W H s
  · cases e : pg_ou D W H s 8
    · rfl
    · rw [pg_al_t ((pg_ou_is D W H s 8).mp e)] at k
      cases k
  · exact (pg_ou_is D W H s 8).mpr (pg_al_d k)
theorem pg_y92 {post : Int32 → Prop} {J J' : Int32 → Int32 → Prop} {x1 x4 f : Int32} {D W : Nat → Nat} {a3 a4 : Nat → Int32} {j c : Nat} (hj : j < 8) (hc : c < 8) (hD : ∀ b, D b < 256) (hW : ∀ b, W b < 4) (ok z : Bool) (h : J' (pg_b (ok && !(z && !pg_pr D W j c))) (nI (c + 1))) : wY_allocates_92 post J J' x1 (pg_b ok) (nI j) x4 (nI c) (pg_b z) f (pg_arr D) (pg_arr W) a3 a4 := by
  cases ok
  · exact br_t rfl (nm_r (nI_1 c) h)
  · refine br_f pg_10 ?_
    cases z
    · exact br_t rfl (nm_r (nI_1 c) h)
    · refine br_f pg_10 ⟨pg_i8 hj, pg_i8 hc, ?_⟩
      rw [pg_at D (show j < 256 by omega), pg_at D (show c < 256 by omega)]
      by_cases k : D j &&& D c = 0
      · refine br_t ((pg_nand (hD j)).mpr k) ⟨pg_i8 hj, pg_i8 hc, ?_⟩
        rw [pg_at W (show j < 256 by omega), pg_at W (show c < 256 by omega)]
        by_cases w : W j = W c
        · have e : pg_pr D W j c = false := by
            unfold pg_pr
            rw [decide_eq_false (show ¬ W j ≠ W c from fun z => z w), Bool.and_false]
          rw [e] at h
          exact br_t (by rw [w]) (nm_r (nI_1 c) h)
        · have e : pg_pr D W j c = true := by
            unfold pg_pr
            rw [decide_eq_true k, decide_eq_true w, Bool.and_true]
          rw [e] at h
          exact br_f (fun z => w ((nI_eq (Nat.lt_trans (hW j) (by decide)) (Nat.lt_trans (hW c) (by decide))).mp z)) (nm_r (nI_1 c) h)
      · have e : pg_pr D W j c = false := by
          unfold pg_pr
          rw [decide_eq_false k, Bool.false_and]
        rw [e] at h
        exact br_f (fun z => k ((pg_nand (hD j)).mp z)) (nm_r (nI_1 c) h)
theorem pg_y66 {post : Int32 → Prop} {J : Int32 → Int32 → Prop} {f : Int32} {D W : Nat → Nat} {a3 a4 : Nat → Int32} {s j : Nat} (hs : s < 256) (hj : j < 8) (hD : ∀ b, D b < 256) (hW : ∀ b, W b < 4) (ok z : Bool) (h : J (pg_b (ok && pg_in D W s j z j)) (nI (j + 1))) : ∀ d c, c + d = j → wY_allocates_66 post J (nI s) (nI j) (pg_b z) f (pg_arr D) (pg_arr W) a3 a4 (d + 1) (pg_b (ok && pg_in D W s j z c)) (nI c) := by
  intro d
  induction d with
  | zero =>
    intro c hc
    have e : c = j := by omega
    subst e
    exact br_t (Int32.le_refl _) (nm_r (nI_1 c) h)
  | succ d ih =>
    intro c hc
    have IH := ih (c + 1) (by omega)
    have u : pg_in D W s j z (c + 1) = (pg_in D W s j z c && !(z && s.testBit c && !pg_pr D W j c)) := rfl
    rw [u, ← Bool.and_assoc] at IH
    refine br_f (nI_ge (by omega) (by omega)) ?_
    cases z
    · exact br_t rfl (pg_y92 hj (by omega) hD hW _ false IH)
    · refine br_f pg_10 ?_
      cases k : s.testBit c
      · rw [k] at IH
        exact br_f (pg_yf hs (by omega) k) (pg_y92 hj (by omega) hD hW _ false IH)
      · rw [k] at IH
        exact br_t (pg_yt hs (by omega) k) (pg_y92 hj (by omega) hD hW _ true IH)
theorem pg_y24 {post : Int32 → Prop} {J : Int32 → Int32 → Prop} {D W : Nat → Nat} {a3 a4 : Nat → Int32} {H s j : Nat} (hs : s < 256) (hj : j < 8) (hD : ∀ b, D b < 256) (hW : ∀ b, W b < 4) (ok z : Bool) (h : J (pg_b ((ok && !(z && !(decide (0 < D j) && decide (D j &&& H = 0)))) && pg_in D W s j z j)) (nI (j + 1))) : wY_allocates_24 post J (nI s) (pg_b ok) (nI j) (pg_b z) (nI H) (pg_arr D) (pg_arr W) a3 a4 := by
  have go : ∀ c : Bool, c = (ok && !(z && !(decide (0 < D j) && decide (D j &&& H = 0)))) → ∃ n66 : Nat, wY_allocates_66 post J (nI s) (nI j) (pg_b z) (nI H) (pg_arr D) (pg_arr W) a3 a4 n66 (pg_b c) 0 := by
    intro c e
    rw [← e] at h
    have := pg_y66 (post := post) (f := nI H) (a3 := a3) (a4 := a4) hs hj hD hW c z h j 0 (by omega)
    have u : (c && pg_in D W s j z 0) = c := Bool.and_true c
    rw [u] at this
    exact ⟨_, this⟩
  cases ok
  · exact br_t rfl (go false rfl)
  · refine br_f pg_10 ?_
    cases z
    · exact br_t rfl (go true rfl)
    · refine br_f pg_10 (pg_yis hD _ (fun y => ?_) (fun y => ?_))
      · obtain ⟨i, hi, e, z⟩ := y
        rw [nI_eq (by omega) (by omega)] at e
        subst e
        refine br_f pg_10 ⟨pg_i8 hj, ?_⟩
        rw [pg_at D (show j < 256 by omega)]
        by_cases k : D j &&& H = 0
        · refine br_t ((pg_nand (hD j)).mpr k) (go true ?_)
          rw [decide_eq_true z, decide_eq_true k]; rfl
        · refine br_f (fun y => k ((pg_nand (hD j)).mp y)) (go false ?_)
          rw [decide_eq_false k, Bool.and_false]; rfl
      · refine br_t rfl (go false ?_)
        have : ¬ 0 < D j := fun z => y ⟨j, hj, rfl, z⟩
        rw [decide_eq_false this]; rfl
theorem pg_yal_l {post : Int32 → Prop} {D W : Nat → Nat} {a3 a4 : Nat → Int32} {H s : Nat} (hs : s < 256) (hD : ∀ b, D b < 256) (hW : ∀ b, W b < 4) (h : post (pg_b (pg_al D W H s))) : ∀ d j, j + d = 8 → wY_allocates_4 post (nI s) (nI H) (pg_arr D) (pg_arr W) a3 a4 (d + 1) (pg_b (pg_ou D W H s j)) (nI j) := by
  intro d
  induction d with
  | zero =>
    intro j hj
    have e : j = 8 := by omega
    subst e
    rw [← pg_ou_al] at h
    exact br_t pg_e8 ⟨pg_b_nar _, h⟩
  | succ d ih =>
    intro j hj
    have hj8 : j < 8 := by omega
    have IH := ih (j + 1) (by omega)
    have u : pg_ou D W H s (j + 1) = ((pg_ou D W H s j && !(s.testBit j && !(decide (0 < D j) && decide (D j &&& H = 0)))) && pg_in D W s j (s.testBit j) j) := rfl
    rw [u] at IH
    refine br_f (pg_g8 hj8) ?_
    cases k : s.testBit j
    · rw [k] at IH
      exact br_f (pg_yf hs hj8 k) (pg_y24 hs hj8 hD hW _ false IH)
    · rw [k] at IH
      exact br_t (pg_yt hs hj8 k) (pg_y24 hs hj8 hD hW _ true IH)
theorem pg_yal {post : Int32 → Prop} {D W : Nat → Nat} {a3 a4 : Nat → Int32} {H s : Nat} (hs : s < 256) (hD : ∀ b, D b < 256) (hW : ∀ b, W b < 4) (h : post (pg_b (pg_al D W H s))) : wpY_allocates post (nI H, pg_arr D, pg_arr W, a3, a4) (nI s) :=
  ⟨9, pg_yal_l hs hD hW h 8 0 rfl⟩
theorem pg_ywork_l {post : SY → Prop} {D W : Nat → Nat} {a3 : Nat → Int32} {H : Nat} (hD : ∀ b, D b < 256) (hW : ∀ b, W b < 4) (h : ∀ a4, (∀ s, s < 256 → a4 s = pg_b (pg_al D W H s)) → post (nI H, pg_arr D, pg_arr W, a3, a4)) : ∀ d i (a4 : Nat → Int32), i + d = 256 → (∀ s, s < i → a4 s = pg_b (pg_al D W H s)) → wY_work_2 post (nI H) (d + 1) (nI i) (pg_arr D) (pg_arr W) a3 a4 := by
  intro d
  induction d with
  | zero =>
    intro i a4 hi I
    have e : i = 256 := by omega
    subst e
    exact br_t pg_e256 (h a4 I)
  | succ d ih =>
    intro i a4 hi I
    have hi8 : i < 256 := by omega
    refine br_f (pg_g256 hi8) (pg_yal hi8 hD hW ⟨vp_in_nI hi8 (by decide), nm_e (nm_r (nI_1 i) (ih (i + 1) _ (by omega) ?_))⟩)
    intro s hs
    rw [nI_clamp (by omega), pg_b_vp]
    unfold upd
    by_cases e : s = i
    · rw [if_pos e, e]
    · rw [if_neg e]
      exact I s (by omega)
theorem pg_ywork {post : SY → Prop} {D W : Nat → Nat} {a3 a4 : Nat → Int32} {H : Nat} (hD : ∀ b, D b < 256) (hW : ∀ b, W b < 4) (h : ∀ a4, (∀ s, s < 256 → a4 s = pg_b (pg_al D W H s)) → post (nI H, pg_arr D, pg_arr W, a3, a4)) : wpY_work post (nI H, pg_arr D, pg_arr W, a3, a4) :=
  ⟨257, pg_ywork_l hD hW h 256 0 a4 rfl (fun s hs => absurd hs (Nat.not_lt_zero s))⟩
end
section
/-! Y: sum, before, best, of, sold's loop, bids' loop, bid's loop -/
theorem pg_ysum_l {post : Int32 → Prop} {f : Int32} {a1 a2 a4 : Nat → Int32} {A : Nat → Nat} {s : Nat} (hs : s < 256) (h : post (nI (pg_sum A s 8))) : ∀ d j, j + d = 8 → wY_sum_4 post (nI s) f a1 a2 (pg_arr A) a4 (d + 1) (nI (pg_sum A s j)) (nI j) := by
  intro d
  induction d with
  | zero =>
    intro j hj
    have e : j = 8 := by omega
    subst e
    exact br_t pg_e8 h
  | succ d ih =>
    intro j hj
    have hj8 : j < 8 := by omega
    have IH := ih (j + 1) (by omega)
    refine br_f (pg_g8 hj8) ?_
    cases k : s.testBit j
    · rw [pg_sum_f (pg_nt k)] at IH
      exact br_f (pg_yf hs hj8 k) (nm_r (Int32.add_zero _) (nm_r (nI_1 j) IH))
    · refine br_t (pg_yt hs hj8 k) ⟨pg_i8 hj8, nm_r (e' := nI (pg_sum A s (j + 1))) ?_ (nm_r (nI_1 j) IH)⟩
      rw [pg_at A (by omega), nI_add, pg_sum_t k]
theorem pg_ysum {post : Int32 → Prop} {f : Int32} {a1 a2 a4 : Nat → Int32} {A : Nat → Nat} {s : Nat} (hs : s < 256) (h : post (nI (pg_sum A s 8))) : wpY_sum post (f, a1, a2, pg_arr A, a4) (nI s) :=
  ⟨9, pg_ysum_l hs h 8 0 rfl⟩
theorem pg_ybef_l {post : Int32 → Prop} {f : Int32} {a1 a2 a3 a4 : Nat → Int32} {s t : Nat} (hs : s < 256) (ht : t < 256) (h : post (pg_b (decide (pg_rv t < pg_rv s)))) : ∀ d j, j + d = 8 → (∀ i, i < j → s.testBit i = t.testBit i) → wY_before_34 post (nI s) (nI t) f a1 a2 a3 a4 (d + 1) (nI j) := by
  intro d
  induction d with
  | zero =>
    intro j hj I
    have e : j = 8 := by omega
    subst e
    rw [decide_eq_false (by rw [pg_rv_all I]; exact Nat.lt_irrefl _)] at h
    exact br_t pg_e8 h
  | succ d ih =>
    intro j hj I
    have hj8 : j < 8 := by omega
    refine br_f (pg_g8 hj8) ?_
    by_cases k : s.testBit j = t.testBit j
    · refine br_t (by rw [pg_yb s hs j hj8, pg_yb t ht j hj8, k]) (nm_r (nI_1 j) (ih (j + 1) (by omega) (fun i hi => ?_)))
      rcases Nat.lt_or_ge i j with l | l
      · exact I i l
      · have : i = j := by omega
        subst this
        exact k
    · cases e : s.testBit j
      · have et : t.testBit j = true := by
          rw [e] at k
          cases z : t.testBit j
          · rw [z] at k; exact absurd rfl k
          · rfl
        have := pg_rv_bit hj8 (fun i hi => (I i hi).symm) et e
        rw [decide_eq_false (by omega)] at h
        refine br_f ?_ (br_f (pg_yf hs hj8 e) h)
        rw [pg_yb s hs j hj8, pg_yb t ht j hj8, if_neg (pg_nt e), if_pos et]
        decide
      · have et : t.testBit j = false := by
          rw [e] at k
          cases z : t.testBit j
          · rfl
          · rw [z] at k; exact absurd rfl k
        have := pg_rv_bit hj8 I e et
        rw [decide_eq_true this] at h
        refine br_f ?_ (br_t (pg_yt hs hj8 e) h)
        rw [pg_yb s hs j hj8, pg_yb t ht j hj8, if_pos e, if_neg (pg_nt et)]
        decide
theorem pg_ybef {post : Int32 → Prop} {f : Int32} {a1 a2 a4 : Nat → Int32} {A : Nat → Nat} {s t : Nat} (hs : s < 256) (ht : t < 256) (hA : ∀ b, A b ≤ 50) (h : post (pg_b (decide (pg_key A t < pg_key A s)))) : wpY_before post (f, a1, a2, pg_arr A, a4) (nI s) (nI t) := by
  refine pg_ysum (post := fun r_1 => wpY_sum (fun r_7 => (((r_1 = r_7 → (∃ n34 : Nat, wY_before_34 post (nI s) (nI t) f a1 a2 (pg_arr A) a4 n34 0)) ∧ (¬ r_1 = r_7 → (((r_1 ≤ r_7 → (post 0)) ∧ (¬ r_1 ≤ r_7 → (post 1)))))))) (f, a1, a2, pg_arr A, a4) (nI t)) hs ?_
  refine pg_ysum ht ?_
  by_cases k : pg_sum A s 8 = pg_sum A t 8
  · have e : decide (pg_key A t < pg_key A s) = decide (pg_rv t < pg_rv s) := by
      apply decide_eq_decide.mpr
      rw [pg_key_lt]
      omega
    rw [e] at h
    exact br_t (by rw [k]) ⟨9, pg_ybef_l hs ht h 8 0 rfl (fun i hi => absurd hi (Nat.not_lt_zero i))⟩
  · refine br_f (fun z => k ((nI_eq (pg_sum31 hA s) (pg_sum31 hA t)).mp z)) ?_
    by_cases l : pg_sum A s 8 ≤ pg_sum A t 8
    · rw [decide_eq_false (by rw [pg_key_lt]; omega)] at h
      exact br_t (nI_le l (pg_sum31 hA t)) h
    · rw [decide_eq_true (by rw [pg_key_lt]; omega)] at h
      exact br_f (nI_ge (by omega) (pg_sum31 hA s)) h
theorem pg_ybest_l {post : Int32 → Prop} {f q r : Int32} {a1 a2 a4 : Nat → Int32} {D W A : Nat → Nat} {G : Nat} (hA : ∀ b, A b ≤ 50) (hf : ∀ s, s < 256 → a4 s = pg_b (pg_al D W G s)) (h : post (pg_o (pg_be D W A G q r))) : ∀ d i, i + d = 256 → wY_best_5 post q r f a1 a2 (pg_arr A) a4 (d + 1) (pg_o (pg_best (pg_F D W G q r) (pg_key A) i)) (nI i) := by
  intro d
  induction d with
  | zero =>
    intro i hi
    have e : i = 256 := by omega
    subst e
    exact br_t pg_e256 h
  | succ d ih =>
    intro i hi
    have hi8 : i < 256 := by omega
    have IH := ih (i + 1) (by omega)
    refine br_f (pg_g256 hi8) ⟨vp_in_nI hi8 (by decide), ?_⟩
    rw [nI_clamp (show i < 2 ^ 31 by omega), hf i hi8]
    cases k : pg_al D W G i
    · rw [pg_best_n (by unfold pg_F; rw [k, Bool.and_false])] at IH
      exact br_t rfl (nm_r (nI_1 i) IH)
    · refine br_f pg_10 ?_
      by_cases hq : nI i &&& q = q
      · refine br_t ((pg_nn q (nI i)).mpr hq) ?_
        by_cases hr : nI i &&& r = 0
        · refine br_t (by rw [pg_comm]; exact hr) ?_
          have e : pg_F D W G q r i = true := pg_F_is.mpr ⟨hq, hr, k⟩
          cases c : pg_best (pg_F D W G q r) (pg_key A) i with
          | none =>
            rw [pg_best_0 e c] at IH
            exact br_t (show (-1 : Int32) < 0 by decide) (nm_r (nI_1 i) IH)
          | some m =>
            have hm : m < 256 := Nat.lt_trans (pg_best_some i m c).1 hi8
            refine br_f (nI_pos (by omega)) (pg_ybef hi8 hm hA ?_)
            by_cases v : pg_key A m < pg_key A i
            · rw [pg_best_t e c v] at IH
              rw [decide_eq_true v]
              exact br_f pg_10 (nm_r (nI_1 i) IH)
            · rw [pg_best_f c v] at IH
              rw [decide_eq_false v]
              exact br_t rfl (nm_r (nI_1 i) IH)
        · rw [pg_best_n (by unfold pg_F; rw [decide_eq_false hr, Bool.and_false, Bool.false_and])] at IH
          exact br_f (fun z => hr (by rw [pg_comm]; exact z)) (nm_r (nI_1 i) IH)
      · rw [pg_best_n (by unfold pg_F; rw [decide_eq_false hq, Bool.false_and, Bool.false_and])] at IH
        exact br_f (fun z => hq ((pg_nn q (nI i)).mp z)) (nm_r (nI_1 i) IH)
theorem pg_ybest {post : Int32 → Prop} {f q r : Int32} {a1 a2 a4 : Nat → Int32} {D W A : Nat → Nat} {G : Nat} (hA : ∀ b, A b ≤ 50) (hf : ∀ s, s < 256 → a4 s = pg_b (pg_al D W G s)) (h : post (pg_o (pg_be D W A G q r))) : wpY_best post (f, a1, a2, pg_arr A, a4) q r :=
  ⟨257, pg_ybest_l hA hf h 256 0 rfl⟩
theorem pg_yof_l {post : Int32 → Prop} {f : Int32} {a3 a4 : Nat → Int32} {D W : Nat → Nat} {p : Nat} (hp : p < 4) (hD : ∀ b, D b < 256) (hW : ∀ b, W b < 4) (h : post (nI (pg_of D W p 8))) : ∀ d j, j + d = 8 → wY_of_4 post (nI p) f (pg_arr D) (pg_arr W) a3 a4 (d + 1) (nI (pg_of D W p j)) (nI j) := by
  intro d
  induction d with
  | zero =>
    intro j hj
    have e : j = 8 := by omega
    subst e
    exact br_t pg_e8 h
  | succ d ih =>
    intro j hj
    have hj8 : j < 8 := by omega
    have IH := ih (j + 1) (by omega)
    have u : pg_of D W p (j + 1) = if 0 < D j ∧ W j = p then pg_of D W p j ||| 2 ^ j else pg_of D W p j := rfl
    rw [u] at IH
    refine br_f (pg_g8 hj8) (pg_yis hD _ (fun y => ?_) (fun y => ?_))
    · obtain ⟨i, hi, e, z⟩ := y
      rw [nI_eq (by omega) (by omega)] at e
      subst e
      refine br_f pg_10 ⟨pg_i8 hj8, ?_⟩
      rw [pg_at W (show j < 256 by omega)]
      by_cases t : W j = p
      · rw [if_pos ⟨z, t⟩] at IH
        refine br_t (by rw [t]) (nm_r ?_ (nm_r (nI_1 j) IH))
        rw [pg_sh j hj8, pg_or]
      · rw [if_neg (fun z => t z.2)] at IH
        exact br_f (fun z => t ((nI_eq (Nat.lt_trans (hW j) (by decide)) (Nat.lt_trans hp (by decide))).mp z)) (nm_r (pg_or0 _) (nm_r (nI_1 j) IH))
    · rw [if_neg (fun z => y ⟨j, hj8, rfl, z.1⟩)] at IH
      exact br_t rfl (nm_r (pg_or0 _) (nm_r (nI_1 j) IH))
theorem pg_yof {post : Int32 → Prop} {f : Int32} {a3 a4 : Nat → Int32} {D W : Nat → Nat} {p : Nat} (hp : p < 4) (hD : ∀ b, D b < 256) (hW : ∀ b, W b < 4) (h : post (nI (pg_of D W p 8))) : wpY_of post (f, pg_arr D, pg_arr W, a3, a4) (nI p) :=
  ⟨9, pg_yof_l hp hD hW h 8 0 rfl⟩
theorem pg_ysold_l {post : Int32 → SY → Prop} {f : Int32} {a2 a3 a4 : Nat → Int32} {D : Nat → Nat} {s : Nat} (hs : s < 256) (h : post (nI (pg_sold D s 8)) (f, pg_arr D, a2, a3, a4)) : ∀ d j, j + d = 8 → wY_sold_9 post (nI s) f (pg_arr D) a2 a3 a4 (d + 1) (nI (pg_sold D s j)) (nI j) := by
  intro d
  induction d with
  | zero =>
    intro j hj
    have e : j = 8 := by omega
    subst e
    exact br_t pg_e8 h
  | succ d ih =>
    intro j hj
    have hj8 : j < 8 := by omega
    have IH := ih (j + 1) (by omega)
    have u : pg_sold D s (j + 1) = if s.testBit j = true then pg_sold D s j ||| D j else pg_sold D s j := rfl
    rw [u] at IH
    refine br_f (pg_g8 hj8) ?_
    cases k : s.testBit j
    · rw [if_neg (pg_nt k)] at IH
      exact br_f (pg_yf hs hj8 k) (nm_r (nI_1 j) IH)
    · rw [if_pos k] at IH
      refine br_t (pg_yt hs hj8 k) ⟨pg_i8 hj8, nm_r ?_ (nm_r (nI_1 j) IH)⟩
      rw [pg_at D (by omega), pg_or]
theorem pg_ybids_l {post : Int32 → Prop} {f : Int32} {a2 a3 a4 : Nat → Int32} {D : Nat → Nat} (hD : ∀ b, D b < 256) (h : post (nI (pg_cov D 8))) : ∀ d j, j + d = 8 → wY_bids_4 post f (pg_arr D) a2 a3 a4 (d + 1) (nI (pg_cov D j)) (nI j) := by
  intro d
  induction d with
  | zero =>
    intro j hj
    have e : j = 8 := by omega
    subst e
    exact br_t pg_e8 h
  | succ d ih =>
    intro j hj
    have hj8 : j < 8 := by omega
    have IH := ih (j + 1) (by omega)
    have u : pg_cov D (j + 1) = if 0 < D j then pg_cov D j ||| 2 ^ j else pg_cov D j := rfl
    rw [u] at IH
    refine br_f (pg_g8 hj8) (pg_yis hD _ (fun y => ?_) (fun y => ?_))
    · obtain ⟨i, hi, e, z⟩ := y
      rw [nI_eq (by omega) (by omega)] at e
      subst e
      rw [if_pos z] at IH
      refine br_f pg_10 (nm_r ?_ (nm_r (nI_1 j) IH))
      rw [pg_sh j hj8, pg_or]
    · rw [if_neg (fun z => y ⟨j, hj8, rfl, z⟩)] at IH
      exact br_t rfl (nm_r (pg_or0 _) (nm_r (nI_1 j) IH))
theorem pg_yfree {post : Int32 → SY → Prop} {H x y z j : Nat} {D W A : Nat → Nat} {a4 : Nat → Int32} (hj : j < 8) (hD : ∀ b, D b < 256) (hf : D j = 0) (hb : ∀ b, b < j → 0 < D b) (h : post (nI j) (nI H, pg_arr (pg_up D j x), pg_arr (pg_up W j y), pg_arr (pg_up A j z), a4)) : ∀ d i, i + d = j → wY_bid_36 post (nI x) (nI y) (nI z) (nI H) (pg_arr D) (pg_arr W) (pg_arr A) a4 (d + 1) (nI i) := by
  intro d
  induction d with
  | zero =>
    intro i hi
    have e : i = j := by omega
    subst e
    have hi := pg_i8 hj
    refine br_f (pg_g8 hj) ⟨hi, br_t ?_ ⟨hi, nm_r (pg_upd D (by omega) x) ⟨hi, nm_r (pg_upd W (by omega) y) ⟨hi, nm_r (pg_upd A (by omega) z) h⟩⟩⟩⟩
    rw [pg_at D (by omega), hf]; exact nI_0
  | succ d ih =>
    intro i hi
    have hi8 : i < 8 := by omega
    refine br_f (pg_g8 hi8) ⟨pg_i8 hi8, br_f ?_ (nm_r (nI_1 i) (ih (i + 1) (by omega)))⟩
    rw [pg_at D (by omega)]
    exact nI_ne0 (hb i (by omega)) (Nat.lt_trans (hD i) (by decide))
theorem pg_yfull {post : Int32 → SY → Prop} {f x1 x2 x3 : Int32} {D : Nat → Nat} {a2 a3 a4 : Nat → Int32} (hD : ∀ b, D b < 256) (hb : ∀ b, b < 8 → 0 < D b) (h : post (-2) (f, pg_arr D, a2, a3, a4)) : ∀ d i, i + d = 8 → wY_bid_36 post x1 x2 x3 f (pg_arr D) a2 a3 a4 (d + 1) (nI i) := by
  intro d
  induction d with
  | zero =>
    intro i hi
    have e : i = 8 := by omega
    subst e
    exact br_t pg_e8 h
  | succ d ih =>
    intro i hi
    have hi8 : i < 8 := by omega
    refine br_f (pg_g8 hi8) ⟨pg_i8 hi8, br_f ?_ (nm_r (nI_1 i) (ih (i + 1) (by omega)))⟩
    rw [pg_at D (by omega)]
    exact nI_ne0 (hb i (by omega)) (Nat.lt_trans (hD i) (by decide))
end
section
/-! threshold: which amounts let bid b win -/
theorem pg_F00 {D W : Nat → Nat} {H t : Nat} : pg_F D W H 0 0 t = true ↔ pg_al D W H t = true := by
  rw [pg_F_is]
  exact ⟨fun h => h.2.2, fun h => ⟨Int32.and_zero, Int32.and_zero, h⟩⟩
theorem pg_Fq {D W : Nat → Nat} {H t b : Nat} (ht : t < 256) (hb : b < 8) : pg_F D W H ((1 : Int32) <<< (nI b &&& 31)) 0 t = true ↔ t.testBit b = true ∧ pg_al D W H t = true := by
  rw [pg_F_is, pg_c1 t ht b hb]
  exact ⟨fun h => ⟨h.1, h.2.2⟩, fun h => ⟨h.1, Int32.and_zero, h.2⟩⟩
theorem pg_Fr {D W : Nat → Nat} {H t b : Nat} (ht : t < 256) (hb : b < 8) : pg_F D W H 0 ((1 : Int32) <<< (nI b &&& 31)) t = true ↔ t.testBit b = false ∧ pg_al D W H t = true := by
  rw [pg_F_is, pg_c0 t ht b hb]
  exact ⟨fun h => ⟨h.2.1, h.2.2⟩, fun h => ⟨Int32.and_zero, h.1, h.2⟩⟩
/-- the sum of the others in t -/
def pg_pt (A : Nat → Nat) (b t : Nat) : Nat := pg_sum A (t &&& (2 ^ b ^^^ (2 ^ 8 - 1))) 8
theorem pg_pt_bit {b t : Nat} (hb : b < 8) : ¬ (t &&& (2 ^ b ^^^ (2 ^ 8 - 1))).testBit b = true := by
  rw [Nat.testBit_and, Nat.testBit_xor, Nat.testBit_two_pow_sub_one, decide_eq_true hb, Nat.testBit_two_pow, decide_eq_true rfl]
  simp
theorem pg_key_on {A : Nat → Nat} {b t : Nat} (hb : b < 8) (h : t.testBit b = true) : pg_key A t = 256 * (pg_pt A b t + A b) + pg_rv t := by
  rcases pg_sum_on (A := A) h 8 with e | e
  · rw [if_pos hb] at e
    unfold pg_key pg_pt
    rw [e]
  · omega
theorem pg_key_up {A : Nat → Nat} {b t a : Nat} (hb : b < 8) (h : t.testBit b = true) : pg_key (pg_up A b a) t = 256 * (pg_pt A b t + a) + pg_rv t := by
  rw [pg_key_on hb h, pg_up_i]
  have : pg_pt (pg_up A b a) b t = pg_pt A b t := pg_sum_off (pg_pt_bit hb) 8
  rw [this]
theorem pg_key_off {A : Nat → Nat} {b t a : Nat} (h : ¬ t.testBit b = true) : pg_key (pg_up A b a) t = pg_key A t := by
  unfold pg_key
  rw [pg_sum_off h]
theorem pg_thr_none {D W A : Nat → Nat} {H b a s : Nat} (hb : b < 8) (hw : pg_be D W A H ((1 : Int32) <<< (nI b &&& 31)) 0 = none) (hs : pg_be D W (pg_up A b a) H 0 0 = some s) : s.testBit b = false := by
  obtain ⟨h1, h2, _⟩ := pg_best_some 256 s hs
  cases k : s.testBit b
  · rfl
  · have n := pg_best_none 256 hw s h1
    rw [(pg_Fq h1 hb).mpr ⟨k, pg_F00.mp h2⟩] at n
    cases n
theorem pg_thr_some {D W A : Nat → Nat} {H b a s w w0 : Nat} (hb : b < 8) (hw : pg_be D W A H ((1 : Int32) <<< (nI b &&& 31)) 0 = some w) (h0 : pg_be D W A H 0 ((1 : Int32) <<< (nI b &&& 31)) = some w0) (hs : pg_be D W (pg_up A b a) H 0 0 = some s) : s.testBit b = true ↔ pg_sum A w0 8 < pg_pt A b w + a ∨ (pg_sum A w0 8 = pg_pt A b w + a ∧ pg_rv w0 < pg_rv w) := by
  obtain ⟨s1, s2, s3⟩ := pg_best_some 256 s hs
  obtain ⟨w1, w2, w3⟩ := pg_best_some 256 w hw
  obtain ⟨v1, v2, v3⟩ := pg_best_some 256 w0 h0
  have w2' := (pg_Fq w1 hb).mp w2
  have v2' := (pg_Fr v1 hb).mp v2
  have s2' := pg_F00.mp s2
  have a1 := s3 w w1 (pg_F00.mpr w2'.2)
  have a2 := s3 w0 v1 (pg_F00.mpr v2'.2)
  rw [pg_key_up hb w2'.1] at a1
  rw [pg_key_off (pg_nt v2'.1)] at a2
  have e0 : pg_key A w0 = 256 * pg_sum A w0 8 + pg_rv w0 := rfl
  have r0 := pg_rv_lt w0
  have r1 := pg_rv_lt w
  cases k : s.testBit b
  · have a3 := v3 s s1 ((pg_Fr s1 hb).mpr ⟨k, s2'⟩)
    rw [pg_key_off (pg_nt k)] at a1
    constructor
    · intro z; cases z
    · intro z
      omega
  · have a3 := w3 s s1 ((pg_Fq s1 hb).mpr ⟨k, s2'⟩)
    have ne : pg_key (pg_up A b a) w0 ≠ pg_key (pg_up A b a) s := by
      intro z
      have e := pg_key_inj v1 s1 z
      rw [e, k] at v2'
      cases v2'.1
    rw [pg_key_off (pg_nt v2'.1)] at ne
    rw [pg_key_up hb k] at a2 ne
    rw [pg_key_on hb k, pg_key_on hb w2'.1] at a3
    constructor
    · intro _
      omega
    · intro _; rfl
theorem pg_dec (i : Nat) : nI (i + 1) + (-1) = nI i := by
  rw [← nI_pred i, Int32.sub_eq_add_neg]
theorem pg_lt1 (i : Nat) (h : i < 2 ^ 31) : nI i < 1 ↔ i = 0 := by
  rw [← pg_n1, nI_ltI h (by decide)]
  omega
theorem pg_ythr_l {post : Int32 → SY → Prop} {D W A : Nat → Nat} {H b o : Nat} {a4 : Nat → Int32} {win : Nat → Bool} (hb : b < 8) (hA : ∀ b, A b ≤ 50) (hf : ∀ s, s < 256 → a4 s = pg_b (pg_al D W H s)) (hw : ∀ a, 1 ≤ a → a ≤ 50 → ∃ s, s < 256 ∧ pg_be D W (pg_up A b a) H 0 0 = some s ∧ s.testBit b = win a) (h : ∀ L, 1 ≤ L → L ≤ 51 → (L ≤ 50 → win L = true) → (∀ a, 1 ≤ a → a < L → win a = false) → post (nI L) (nI H, pg_arr D, pg_arr W, pg_arr (pg_up A b o), a4)) : ∀ i L x, i ≤ 50 → i < L → L ≤ 51 → (L ≤ 50 → win L = true) → (∀ a, i < a → a < L → win a = false) → wY_threshold_28 post (nI b) (nI o) (nI H) (i + 1) (nI L) (nI i) (pg_arr D) (pg_arr W) (pg_arr (pg_up A b x)) a4 := by
  intro i
  induction i with
  | zero =>
    intro L x _ h1 h2 h3 h4
    refine br_t ((pg_lt1 0 (by decide)).mpr rfl) ⟨pg_i8 hb, nm_r (e' := pg_arr (pg_up A b o)) ?_ (h L h1 h2 h3 (fun a ha => h4 a ha))⟩
    rw [pg_upd _ (by omega), pg_up_up]
  | succ i ih =>
    intro L x hi h1 h2 h3 h4
    refine br_f (fun z => absurd ((pg_lt1 (i + 1) (by omega)).mp z) (by omega)) ⟨pg_i8 hb, nm_r (e' := pg_arr (pg_up A b (i + 1))) ?_ ?_⟩
    · rw [pg_upd _ (by omega), pg_up_up]
    · obtain ⟨s, hs, es, bs⟩ := hw (i + 1) (by omega) hi
      have hA' : ∀ c, pg_up A b (i + 1) c ≤ 50 := by
        intro c
        unfold pg_up
        split
        · exact hi
        · exact hA c
      refine pg_ybest hA' hf ?_
      rw [es]
      cases k : win (i + 1)
      · rw [k] at bs
        refine br_f (pg_yf hs hb bs) (nm_r (pg_dec i) (ih L (i + 1) (by omega) (by omega) h2 h3 (fun a ha hl => ?_)))
        rcases Nat.lt_or_ge (i + 1) a with l | l
        · exact h4 a l hl
        · have : a = i + 1 := by omega
          subst this
          exact k
      · rw [k] at bs
        exact br_t (pg_yt hs hb bs) (nm_r (pg_dec i) (ih (i + 1) (i + 1) (by omega) (by omega) (by omega) (fun _ => k) (fun a ha hl => by omega)))
theorem pg_subI {a b : Nat} (ha : a < 1000) (hb : b < 1000) : (nI a - nI b).toInt = (a : Int) - (b : Int) := by
  rw [Int32.toInt_sub, nI_toInt (by omega), nI_toInt (by omega)]
  unfold Int.bmod
  dsimp only
  split <;> omega
theorem pg_subI1 {a b : Nat} (ha : a < 1000) (hb : b < 1000) : (nI a - nI b + 1).toInt = (a : Int) - (b : Int) + 1 := by
  have e : (1 : Int32).toInt = 1 := by decide
  rw [Int32.toInt_add, pg_subI ha hb, e]
  unfold Int.bmod
  dsimp only
  split <;> omega
theorem pg_x80 {post : Int32 → Prop} {x : Int32} {e : Int} {L : Nat} {f1 f2 : Int32} {a1 a2 a3 : Nat → Int32} (hx : x.toInt = e) (h1 : e < 1 → L = 1) (h2 : 1 ≤ e → e ≤ 50 → (L : Int) = e) (h3 : 50 < e → L = 51) (h : post (nI L)) : wX_threshold_80 post x f1 f2 a1 a2 a3 := by
  have e1 : (1 : Int32).toInt = 1 := by decide
  have e50 : (50 : Int32).toInt = 50 := by decide
  by_cases k : 1 ≤ e
  · refine br_t (by rw [Int32.le_iff_toInt_le, e1, hx]; exact k) ?_
    by_cases l : e ≤ 50
    · refine br_t (by rw [Int32.le_iff_toInt_le, e50, hx]; exact l) ?_
      have : x = nI L := by
        apply Int32.toInt_inj.mp
        rw [hx, nI_toInt (by have := h2 k l; omega), h2 k l]
      rw [this]
      exact h
    · refine br_f (by rw [Int32.le_iff_toInt_le, e50, hx]; exact l) ?_
      have : L = 51 := h3 (by omega)
      rw [this] at h
      exact h
  · refine br_f (by rw [Int32.le_iff_toInt_le, e1, hx]; exact k) ?_
    have : L = 1 := h1 (by omega)
    rw [this] at h
    exact h
end
section
/-! the relation; the calls that change the state; bids, withheld -/
def pg_Ok (P H : Nat) (B W A : Nat → Nat) : Prop := P < 256 ∧ H < 256 ∧ (∀ b, B b < 256) ∧ (∀ b, W b < 4) ∧ (∀ b, A b ≤ 50) ∧ (∀ b, P.testBit b = true → 0 < B b)
/-- X's bids that stand and the items withheld as sets; the bundles of Y are X's where a bid stands, and 0 elsewhere -/
def i_Rel (k : Nat) (u : SX) (v : SY) : Prop := ∃ (P H : Nat) (B W A : Nat → Nat) (f : Nat → Int32), pg_Ok P H B W A ∧ u = (nI P, nI H, pg_arr B, pg_arr W, pg_arr A) ∧ v = (nI H, pg_arr (pg_Y P B), pg_arr W, pg_arr A, f)
theorem pg_rel {k P H : Nat} {B W A : Nat → Nat} {f : Nat → Int32} (ok : pg_Ok P H B W A) : i_Rel k (nI P, nI H, pg_arr B, pg_arr W, pg_arr A) (nI H, pg_arr (pg_Y P B), pg_arr W, pg_arr A, f) := ⟨P, H, B, W, A, f, ok, rfl, rfl⟩
theorem i_up {k : Nat} {u : SX} {v : SY} (h : i_Rel k u v) : i_Rel (k + 4) u v := h
theorem pg_z1 : pg_arr (fun _ => 0) = fun _ => 0 := by
  funext b
  exact nI_0
theorem pg_z2 : pg_Y 0 (fun _ => 0) = fun _ => 0 := by
  funext b
  unfold pg_Y
  rw [Nat.zero_testBit]
  rfl
theorem i_vc0 : wpX_init (fun u => wpY_init (fun v => i_Rel 0 u v)) := by
  unfold wpX_init wpY_init
  refine ⟨0, 0, fun _ => 0, fun _ => 0, fun _ => 0, fun _ => 0, ⟨by decide, by decide, fun _ => show (0 : Nat) < 256 by decide, fun _ => show (0 : Nat) < 4 by decide, fun _ => show (0 : Nat) ≤ 50 by decide, fun b h => ?_⟩, ?_, ?_⟩
  · rw [Nat.zero_testBit] at h
    cases h
  · rw [pg_z1, nI_0]
  · rw [pg_z2, pg_z1, nI_0]
theorem pg_YD {P H : Nat} {B W A : Nat → Nat} (ok : pg_Ok P H B W A) : ∀ b, pg_Y P B b < 256 := by
  intro b
  unfold pg_Y
  split
  · exact ok.2.2.1 b
  · decide
theorem pg_Y_set (P j x : Nat) (B : Nat → Nat) : pg_up (pg_Y P B) j x = pg_Y (P ||| 2 ^ j) (pg_up B j x) := by
  funext b
  unfold pg_up pg_Y
  rw [Nat.testBit_or, Nat.testBit_two_pow]
  by_cases e : b = j
  · subst e
    simp
  · have e' : ¬ j = b := fun z => e z.symm
    simp [e, e']
theorem pg_clr_bit {P j b : Nat} (hP : P < 256) : (P &&& (2 ^ j ^^^ (2 ^ 8 - 1))).testBit b = (P.testBit b && !decide (j = b)) := by
  rw [Nat.testBit_and, Nat.testBit_xor, Nat.testBit_two_pow, Nat.testBit_two_pow_sub_one]
  rcases Nat.lt_or_ge b 8 with h | h
  · rw [decide_eq_true h, Bool.xor_true]
  · rw [pg_hi hP h, Bool.false_and, Bool.false_and]
theorem pg_Y_clr {P : Nat} (j : Nat) (B : Nat → Nat) (hP : P < 256) : pg_up (pg_Y P B) j 0 = pg_Y (P &&& (2 ^ j ^^^ (2 ^ 8 - 1))) B := by
  funext b
  unfold pg_up pg_Y
  rw [pg_clr_bit hP]
  by_cases e : b = j
  · subst e
    simp
  · have e' : ¬ j = b := fun z => e z.symm
    simp [e, e']
theorem pg_first (D : Nat → Nat) : ∀ n, (∃ j, j < n ∧ D j = 0 ∧ ∀ b, b < j → 0 < D b) ∨ ∀ b, b < n → 0 < D b := by
  intro n
  induction n with
  | zero => exact Or.inr (fun b hb => absurd hb (Nat.not_lt_zero b))
  | succ n ih =>
    rcases ih with ⟨j, hj, e, h⟩ | h
    · exact Or.inl ⟨j, by omega, e, h⟩
    · by_cases k : D n = 0
      · exact Or.inl ⟨n, by omega, k, h⟩
      · refine Or.inr (fun b hb => ?_)
        rcases Nat.lt_or_ge b n with l | l
        · exact h b l
        · have : b = n := by omega
          subst this
          omega
theorem pg_3 : nI 3 = 3 := by decide +kernel
theorem pg_7 : nI 7 = 7 := by decide +kernel
theorem pg_255 : nI 255 = 255 := by decide +kernel
theorem pg_bi (v : Int32) : v < 0 ∨ (¬ v < 0 ∧ (4 : Int32) ≤ v ∧ (3 : Int32) < v) ∨ ∃ p, p < 4 ∧ v = nI p ∧ ¬ v < 0 ∧ ¬ (4 : Int32) ≤ v ∧ ¬ (3 : Int32) < v := by
  by_cases h : v < 0
  · exact Or.inl h
  · right
    obtain ⟨j, hj, rfl⟩ := nI_of h
    rw [← pg_4, ← pg_3]
    rcases Nat.lt_or_ge j 4 with k | k
    · exact Or.inr ⟨j, k, rfl, h, nI_ge k (by decide), nI_nlt (by omega) (by decide)⟩
    · exact Or.inl ⟨h, nI_le k hj, nI_lt (by omega) hj⟩
theorem pg_it (v : Int32) : v < 0 ∨ (¬ v < 0 ∧ (8 : Int32) ≤ v ∧ ¬ v ≤ 7) ∨ ∃ p, p < 8 ∧ v = nI p ∧ ¬ v < 0 ∧ ¬ (8 : Int32) ≤ v ∧ v ≤ 7 := by
  by_cases h : v < 0
  · exact Or.inl h
  · right
    obtain ⟨j, hj, rfl⟩ := nI_of h
    rw [← pg_8, ← pg_7]
    rcases Nat.lt_or_ge j 8 with k | k
    · exact Or.inr ⟨j, k, rfl, h, nI_ge k (by decide), nI_le (by omega) (by decide)⟩
    · exact Or.inl ⟨h, nI_le k hj, nI_ge (by omega) hj⟩
theorem pg_neg1 {v : Int32} (h : v < 0) : v < 1 := Int32.lt_trans h (by decide)
theorem pg_am (v : Int32) : v < 1 ∨ (¬ v < 1 ∧ (50 : Int32) < v ∧ ¬ v ≤ 50) ∨ ∃ z, 1 ≤ z ∧ z ≤ 50 ∧ v = nI z ∧ ¬ v < 1 ∧ ¬ (50 : Int32) < v ∧ v ≤ 50 := by
  by_cases h : v < 0
  · exact Or.inl (pg_neg1 h)
  · obtain ⟨j, hj, rfl⟩ := nI_of h
    rw [← pg_n1, ← pg_50]
    rcases Nat.lt_or_ge j 1 with k | k
    · exact Or.inl (nI_lt k (by decide))
    · right
      rcases Nat.lt_or_ge 50 j with l | l
      · exact Or.inl ⟨nI_nlt k hj, nI_lt l hj, nI_ge l hj⟩
      · exact Or.inr ⟨j, k, l, rfl, nI_nlt k hj, nI_nlt l (by decide), nI_le l (by decide)⟩
theorem pg_bu (v : Int32) : v < 1 ∨ (¬ v < 1 ∧ (255 : Int32) < v) ∨ ∃ z, 1 ≤ z ∧ z ≤ 255 ∧ v = nI z ∧ ¬ v < 1 ∧ ¬ (255 : Int32) < v := by
  by_cases h : v < 0
  · exact Or.inl (pg_neg1 h)
  · obtain ⟨j, hj, rfl⟩ := nI_of h
    rw [← pg_n1, ← pg_255]
    rcases Nat.lt_or_ge j 1 with k | k
    · exact Or.inl (nI_lt k (by decide))
    · right
      rcases Nat.lt_or_ge 255 j with l | l
      · exact Or.inl ⟨nI_nlt k hj, nI_lt l hj⟩
      · exact Or.inr ⟨j, k, l, rfl, nI_nlt k hj, nI_nlt l (by decide)⟩
theorem pg_ok_set {P H x y z j : Nat} {B W A : Nat → Nat} (ok : pg_Ok P H B W A) (hj : j < 8) (hx : 1 ≤ x) (hx' : x ≤ 255) (hy : y < 4) (hz : z ≤ 50) : pg_Ok (P ||| 2 ^ j) H (pg_up B j x) (pg_up W j y) (pg_up A j z) := by
  obtain ⟨hP, hH, hB, hW, hA, hBP⟩ := ok
  refine ⟨pg_orlt hP (pg_p2 hj), hH, fun b => ?_, fun b => ?_, fun b => ?_, fun b => ?_⟩
  · unfold pg_up
    split
    · omega
    · exact hB b
  · unfold pg_up
    split
    · exact hy
    · exact hW b
  · unfold pg_up
    split
    · exact hz
    · exact hA b
  · rw [Nat.testBit_or, Nat.testBit_two_pow]
    unfold pg_up
    intro h
    split
    · omega
    · rename_i e
      have e' : ¬ j = b := fun z => e z.symm
      rw [decide_eq_false e', Bool.or_false] at h
      exact hBP b h
theorem i_vc_bid {k : Nat} {u : SX} {v : SY} (I : i_Rel k u v) (hk : k + 4 ≤ 2048) (v1 : Int32) (v2 : Int32) (v3 : Int32) : wpX_bid (fun r u' => wpY_bid (fun r' v' => r' = r ∧ i_Rel (k + 4) u' v') v v1 v2 v3) u v1 v2 v3 := by
  obtain ⟨P, H, B, W, A, f, ok, rfl, rfl⟩ := I
  have hD := pg_YD ok
  have hP := ok.1
  have hBP := ok.2.2.2.2.2
  rcases pg_bu v1 with a | ⟨a, b⟩ | ⟨x, x1, x2, ex, a, b⟩
  · exact br_t a (br_t a ⟨rfl, pg_rel ok⟩)
  · exact br_f a (br_t b (br_f a (br_t b ⟨rfl, pg_rel ok⟩)))
  · rcases pg_bi v2 with c | ⟨c, d, e⟩ | ⟨y, y1, ey, c, d, e⟩
    · exact br_f a (br_f b (br_t c (br_t rfl (br_f a (br_f b (br_t c (br_t rfl ⟨rfl, pg_rel ok⟩)))))))
    · exact br_f a (br_f b (br_f c (br_t d (br_t rfl (br_f a (br_f b (br_f c (br_t e (br_t rfl ⟨rfl, pg_rel ok⟩)))))))))
    · rcases pg_am v3 with g | ⟨g, i, j⟩ | ⟨z, z1, z2, ez, g, i, j⟩
      · exact br_f a (br_f b (br_f c (br_f d (br_f pg_10 (br_t g (br_t rfl (br_f a (br_f b (br_f c (br_f e (br_f pg_10 (br_t g ⟨rfl, pg_rel ok⟩))))))))))))
      · exact br_f a (br_f b (br_f c (br_f d (br_f pg_10 (br_f g (br_t i (br_t rfl (br_f a (br_f b (br_f c (br_f e (br_f pg_10 (br_f g (br_f j ⟨rfl, pg_rel ok⟩))))))))))))))
      · refine br_f a (br_f b (br_f c (br_f d (br_f pg_10 (br_f g (br_f i (br_f pg_10 ?_)))))))
        subst ex ey ez
        rcases pg_first (pg_Y P B) 8 with ⟨q, hq, e0, eb⟩ | full
        · have pq : P.testBit q = false := by
            cases w : P.testBit q
            · rfl
            · have := (pg_Y_pos hBP).mpr w
              omega
          refine ⟨_, pg_xfree hP hq pq (fun b hb => (pg_Y_pos hBP).mp (eb b hb)) hBP ?_ q 0 (by omega)⟩
          refine br_f a (br_f b (br_f c (br_f e (br_f pg_10 (br_f g (br_t j ⟨_, pg_yfree hq hD e0 eb ⟨rfl, ?_⟩ q 0 (by omega)⟩))))))
          rw [pg_Y_set]
          exact pg_rel (pg_ok_set ok hq x1 x2 y1 z2)
        · refine ⟨_, pg_xfull hP (fun b hb => (pg_Y_pos hBP).mp (full b hb)) hBP ?_ 8 0 rfl⟩
          exact br_f a (br_f b (br_f c (br_f e (br_f pg_10 (br_f g (br_t j ⟨_, pg_yfull hD full ⟨rfl, pg_rel ok⟩ 8 0 rfl⟩))))))
theorem i_vc_retract {k : Nat} {u : SX} {v : SY} (I : i_Rel k u v) (hk : k + 4 ≤ 2048) (v1 : Int32) : wpX_retract (fun r u' => wpY_retract (fun r' v' => r' = r ∧ i_Rel (k + 4) u' v') v v1) u v1 := by
  obtain ⟨P, H, B, W, A, f, ok, rfl, rfl⟩ := I
  have hD := pg_YD ok
  obtain ⟨hP, hH, hB, hW, hA, hBP⟩ := id ok
  unfold wpX_retract
  dsimp only
  refine pg_xis hP hBP v1 (fun y => ?_) (fun y => ?_)
  · obtain ⟨j, hj, e, z⟩ := id y
    subst e
    refine br_f pg_10 (nm_r (e' := nI (P &&& (2 ^ j ^^^ (2 ^ 8 - 1)))) (by rw [pg_sh j hj, pg_andn _ hP]) ?_)
    unfold wpY_retract
    dsimp only
    refine pg_yis hD _ (fun _ => ?_) (fun y' => absurd y y')
    refine br_f pg_10 ⟨pg_i8 hj, nm_r (pg_upd _ (by omega) 0) ⟨rfl, ?_⟩⟩
    rw [pg_Y_clr j B hP]
    refine pg_rel ⟨pg_andlt _ hP, hH, hB, hW, hA, fun b h => ?_⟩
    rw [pg_clr_bit hP, Bool.and_eq_true] at h
    exact hBP b h.1
  · refine br_t rfl ?_
    unfold wpY_retract
    dsimp only
    exact pg_yis hD _ (fun y' => absurd y' y) (fun _ => br_t rfl ⟨rfl, pg_rel ok⟩)
theorem i_vc_raise {k : Nat} {u : SX} {v : SY} (I : i_Rel k u v) (hk : k + 4 ≤ 2048) (v1 : Int32) (v2 : Int32) : wpX_raise (fun r u' => wpY_raise (fun r' v' => r' = r ∧ i_Rel (k + 4) u' v') v v1 v2) u v1 v2 := by
  obtain ⟨P, H, B, W, A, f, ok, rfl, rfl⟩ := I
  have hD := pg_YD ok
  obtain ⟨hP, hH, hB, hW, hA, hBP⟩ := id ok
  unfold wpX_raise
  dsimp only
  refine pg_xis hP hBP v1 (fun y => ?_) (fun y => ?_)
  · obtain ⟨j, hj, e, z⟩ := id y
    subst e
    refine br_f pg_10 ?_
    rcases pg_am v2 with g | ⟨g, i, l⟩ | ⟨x, z1, z2, ez, g, i, l⟩
    · refine br_t g (br_t rfl ?_)
      unfold wpY_raise
      dsimp only
      exact pg_yis hD _ (fun _ => br_f pg_10 (br_t g ⟨rfl, pg_rel ok⟩)) (fun y' => absurd y y')
    · refine br_f g (br_t i (br_t rfl ?_))
      unfold wpY_raise
      dsimp only
      exact pg_yis hD _ (fun _ => br_f pg_10 (br_f g (br_f l ⟨rfl, pg_rel ok⟩))) (fun y' => absurd y y')
    · subst ez
      refine br_f g (br_f i (br_f pg_10 ⟨pg_i8 hj, nm_r (pg_upd _ (by omega) x) ?_⟩))
      unfold wpY_raise
      dsimp only
      refine pg_yis hD _ (fun _ => br_f pg_10 (br_f g (br_t l ⟨pg_i8 hj, nm_r (pg_upd _ (by omega) x) ⟨rfl, pg_rel ⟨hP, hH, hB, hW, fun b => ?_, hBP⟩⟩⟩))) (fun y' => absurd y y')
      unfold pg_up
      split
      · exact z2
      · exact hA b
  · refine br_t rfl ?_
    unfold wpY_raise
    dsimp only
    exact pg_yis hD _ (fun y' => absurd y' y) (fun _ => br_t rfl ⟨rfl, pg_rel ok⟩)
theorem i_vc_withhold {k : Nat} {u : SX} {v : SY} (I : i_Rel k u v) (hk : k + 4 ≤ 2048) (v1 : Int32) (v2 : Int32) : wpX_withhold (fun r u' => wpY_withhold (fun r' v' => r' = r ∧ i_Rel (k + 4) u' v') v v1 (lw_bz v2)) u v1 (lw_bz v2) := by
  obtain ⟨P, H, B, W, A, f, ok, rfl, rfl⟩ := I
  obtain ⟨hP, hH, hB, hW, hA, hBP⟩ := id ok
  unfold wpX_withhold
  dsimp only
  rcases pg_it v1 with a | ⟨a, b, c⟩ | ⟨j, hj, e, a, b, c⟩
  · exact br_t a (br_t rfl (br_t a ⟨rfl, pg_rel ok⟩))
  · exact br_f a (br_t b (br_t rfl (br_f a (br_f c ⟨rfl, pg_rel ok⟩))))
  · subst e
    refine br_f a (br_f b (br_f pg_10 ?_))
    by_cases t : lw_bz v2 = 0
    · have e1 : nI H &&& (((1 : Int32) <<< (nI j &&& 31)) ^^^ (-1)) = nI (H &&& (2 ^ j ^^^ (2 ^ 8 - 1))) := by rw [pg_sh j hj, pg_andn _ hH]
      exact br_t t (nm_r e1 (br_f a (br_t c (br_t t (nm_r e1 ⟨rfl, pg_rel ⟨hP, pg_andlt _ hH, hB, hW, hA, hBP⟩⟩)))))
    · have e1 : nI H ||| ((1 : Int32) <<< (nI j &&& 31)) = nI (H ||| 2 ^ j) := by rw [pg_sh j hj, pg_or]
      exact br_f t (nm_r e1 (br_f a (br_t c (br_f t (nm_r e1 ⟨rfl, pg_rel ⟨hP, pg_orlt hH (pg_p2 hj), hB, hW, hA, hBP⟩⟩)))))
theorem i_vc_bids {k : Nat} {u : SX} {v : SY} (I : i_Rel k u v) (hk : k + 4 ≤ 2048) : wpX_bids (fun r => wpY_bids (fun r' => r' = r ∧ i_Rel (k + 4) u v) v) u := by
  obtain ⟨P, H, B, W, A, f, ok, rfl, rfl⟩ := I
  have hD := pg_YD ok
  have hBP := ok.2.2.2.2.2
  have e : pg_cov (pg_Y P B) 8 = P := by
    apply Nat.eq_of_testBit_eq
    intro i
    rw [pg_cov_bit]
    cases w : P.testBit i
    · exact decide_eq_false (fun z => by rw [(pg_Y_pos hBP).mp z.2] at w; cases w)
    · exact decide_eq_true ⟨pg_lt8 ok.1 w, (pg_Y_pos hBP).mpr w⟩
  refine ⟨9, pg_ybids_l hD ⟨?_, pg_rel ok⟩ 8 0 rfl⟩
  rw [e]
theorem i_vc_withheld {k : Nat} {u : SX} {v : SY} (I : i_Rel k u v) (hk : k + 4 ≤ 2048) : wpX_withheld (fun r => wpY_withheld (fun r' => r' = r ∧ i_Rel (k + 4) u v) v) u := by
  obtain ⟨P, H, B, W, A, f, ok, rfl, rfl⟩ := I
  exact ⟨rfl, pg_rel ok⟩
end
section
/-! the calls that only ask: both sides at the best sets -/
theorem pg_be_ex (D W A : Nat → Nat) (H : Nat) (r : Int32) : ∃ w, pg_be D W A H 0 r = some w ∧ w < 256 ∧ pg_al D W H w = true := by
  obtain ⟨w, e, h, hF, _⟩ := pg_best_ex (K := pg_key A) (pg_F_0 D W H r)
  exact ⟨w, e, h, (pg_F_is.mp hF).2.2⟩
theorem pg_be_lt {D W A : Nat → Nat} {H w : Nat} {q r : Int32} (h : pg_be D W A H q r = some w) : w < 256 := (pg_best_some 256 w h).1
theorem pg_ywin {post : Int32 → SY → Prop} {D W A : Nat → Nat} {H : Nat} {a4 : Nat → Int32} (hD : ∀ b, D b < 256) (hW : ∀ b, W b < 4) (hA : ∀ b, A b ≤ 50) (h : ∀ a4, post (pg_o (pg_be D W A H 0 0)) (nI H, pg_arr D, pg_arr W, pg_arr A, a4)) : wpY_winners post (nI H, pg_arr D, pg_arr W, pg_arr A, a4) := by
  unfold wpY_winners
  dsimp only
  refine pg_ywork hD hW (fun a hf => ?_)
  dsimp only
  exact pg_ybest hA hf (h a)
theorem pg_xwin {post : Int32 → Prop} {P H : Nat} {B W A : Nat → Nat} (ok : pg_Ok P H B W A) (h : post (pg_o (pg_be (pg_Y P B) W A H 0 0))) : wpX_winners post (nI P, nI H, pg_arr B, pg_arr W, pg_arr A) := by
  obtain ⟨hP, hH, hB, hW, hA, hBP⟩ := ok
  unfold wpX_winners
  dsimp only
  exact pg_xbest hH hB hW hA hBP rfl h
theorem i_vc_winners {k : Nat} {u : SX} {v : SY} (I : i_Rel k u v) (hk : k + 4 ≤ 2048) : wpX_winners (fun r => wpY_winners (fun r' v' => r' = r ∧ i_Rel (k + 4) u v') v) u := by
  obtain ⟨P, H, B, W, A, f, ok, rfl, rfl⟩ := I
  have hD := pg_YD ok
  obtain ⟨hP, hH, hB, hW, hA, hBP⟩ := id ok
  exact pg_xwin ok (pg_ywin hD hW hA (fun a => ⟨rfl, pg_rel ok⟩))
theorem pg_yrev {post : Int32 → SY → Prop} {D W A : Nat → Nat} {H w : Nat} {a4 : Nat → Int32} (hD : ∀ b, D b < 256) (hW : ∀ b, W b < 4) (hA : ∀ b, A b ≤ 50) (hw : pg_be D W A H 0 0 = some w) (h : ∀ a4, post (nI (pg_sum A w 8)) (nI H, pg_arr D, pg_arr W, pg_arr A, a4)) : wpY_revenue post (nI H, pg_arr D, pg_arr W, pg_arr A, a4) := by
  unfold wpY_revenue
  dsimp only
  refine pg_ywin hD hW hA (fun a => ?_)
  rw [hw]
  exact pg_ysum (pg_be_lt hw) (h a)
theorem i_vc_revenue {k : Nat} {u : SX} {v : SY} (I : i_Rel k u v) (hk : k + 4 ≤ 2048) : wpX_revenue (fun r => wpY_revenue (fun r' v' => r' = r ∧ i_Rel (k + 4) u v') v) u := by
  obtain ⟨P, H, B, W, A, f, ok, rfl, rfl⟩ := I
  have hD := pg_YD ok
  obtain ⟨hP, hH, hB, hW, hA, hBP⟩ := id ok
  obtain ⟨w, hw, hl, _⟩ := pg_be_ex (pg_Y P B) W A H 0
  unfold wpX_revenue
  dsimp only
  refine pg_xwin ok ?_
  rw [hw]
  exact pg_xsum hl rfl (pg_yrev hD hW hA hw (fun a => ⟨rfl, pg_rel ok⟩))
theorem i_vc_sold {k : Nat} {u : SX} {v : SY} (I : i_Rel k u v) (hk : k + 4 ≤ 2048) : wpX_sold (fun r => wpY_sold (fun r' v' => r' = r ∧ i_Rel (k + 4) u v') v) u := by
  obtain ⟨P, H, B, W, A, f, ok, rfl, rfl⟩ := I
  have hD := pg_YD ok
  obtain ⟨hP, hH, hB, hW, hA, hBP⟩ := id ok
  obtain ⟨w, hw, hl, hal⟩ := pg_be_ex (pg_Y P B) W A H 0
  unfold wpX_sold
  dsimp only
  refine pg_xwin ok ?_
  rw [hw]
  refine ⟨9, pg_xsold_l hl (fun b hb => (pg_Y_pos hBP).mp (pg_al_d hal b (pg_lt8 hl hb) hb).1) ?_ 8 0 rfl⟩
  unfold wpY_sold
  dsimp only
  refine pg_ywin hD hW hA (fun a => ?_)
  rw [hw]
  exact ⟨9, pg_ysold_l hl ⟨rfl, pg_rel ok⟩ 8 0 rfl⟩
theorem pg_xwo {post : Int32 → Prop} {P H p w : Nat} {B W A : Nat → Nat} (ok : pg_Ok P H B W A) (hp : p < 4) (hw : pg_be (pg_Y P B) W A H 0 (nI (pg_of (pg_Y P B) W p 8)) = some w) (h : post (nI (pg_sum A w 8))) : wpX_revenueWithout post (nI P, nI H, pg_arr B, pg_arr W, pg_arr A) (nI p) := by
  obtain ⟨hP, hH, hB, hW, hA, hBP⟩ := ok
  unfold wpX_revenueWithout
  dsimp only
  have a : ¬ (4 : Int32) ≤ nI p := by rw [← pg_4]; exact nI_ge hp (by decide)
  refine br_f (nI_pos (by omega)) (br_f a (br_f pg_10 (pg_xof hP hp hW hBP (pg_xbest hH hB hW hA hBP rfl ?_))))
  rw [hw]
  exact pg_xsum (pg_be_lt hw) rfl h
theorem pg_ywo {post : Int32 → SY → Prop} {D W A : Nat → Nat} {H p w : Nat} {a4 : Nat → Int32} (hD : ∀ b, D b < 256) (hW : ∀ b, W b < 4) (hA : ∀ b, A b ≤ 50) (hp : p < 4) (hw : pg_be D W A H 0 (nI (pg_of D W p 8)) = some w) (h : ∀ a4, post (nI (pg_sum A w 8)) (nI H, pg_arr D, pg_arr W, pg_arr A, a4)) : wpY_revenueWithout post (nI H, pg_arr D, pg_arr W, pg_arr A, a4) (nI p) := by
  unfold wpY_revenueWithout
  dsimp only
  have c : ¬ (3 : Int32) < nI p := by rw [← pg_3]; exact nI_nlt (by omega) (by decide)
  refine br_f (nI_pos (by omega)) (br_f c (br_f pg_10 (pg_ywork hD hW (fun a hf => ?_))))
  dsimp only
  refine pg_yof hp hD hW (pg_ybest hA hf ?_)
  rw [hw]
  exact pg_ysum (pg_be_lt hw) (h a)
theorem i_vc_revenueWithout {k : Nat} {u : SX} {v : SY} (I : i_Rel k u v) (hk : k + 4 ≤ 2048) (v1 : Int32) : wpX_revenueWithout (fun r => wpY_revenueWithout (fun r' v' => r' = r ∧ i_Rel (k + 4) u v') v v1) u v1 := by
  obtain ⟨P, H, B, W, A, f, ok, rfl, rfl⟩ := I
  have hD := pg_YD ok
  obtain ⟨hP, hH, hB, hW, hA, hBP⟩ := id ok
  rcases pg_bi v1 with a | ⟨a, b, c⟩ | ⟨p, hp, e, a, b, c⟩
  · unfold wpX_revenueWithout wpY_revenueWithout
    dsimp only
    exact br_t a (br_t rfl (br_t a (br_t rfl ⟨rfl, pg_rel ok⟩)))
  · unfold wpX_revenueWithout wpY_revenueWithout
    dsimp only
    exact br_f a (br_t b (br_t rfl (br_f a (br_t c (br_t rfl ⟨rfl, pg_rel ok⟩)))))
  · subst e
    obtain ⟨w, hw, _, _⟩ := pg_be_ex (pg_Y P B) W A H (nI (pg_of (pg_Y P B) W p 8))
    exact pg_xwo ok hp hw (pg_ywo hD hW hA hp hw (fun a => ⟨rfl, pg_rel ok⟩))
theorem pg_nsub (x y : Nat) : nI (x + y) - nI y = nI x := by
  rw [← nI_add, Int32.add_sub_cancel]
theorem i_vc_payment {k : Nat} {u : SX} {v : SY} (I : i_Rel k u v) (hk : k + 4 ≤ 2048) (v1 : Int32) : wpX_payment (fun r => wpY_payment (fun r' v' => r' = r ∧ i_Rel (k + 4) u v') v v1) u v1 := by
  obtain ⟨P, H, B, W, A, f, ok, rfl, rfl⟩ := I
  have hD := pg_YD ok
  obtain ⟨hP, hH, hB, hW, hA, hBP⟩ := id ok
  unfold wpX_payment
  dsimp only
  rcases pg_bi v1 with a | ⟨a, b, c⟩ | ⟨p, hp, e, a, b, c⟩
  · refine br_t a (br_t rfl ?_)
    unfold wpY_payment
    dsimp only
    exact br_t a (br_t rfl ⟨rfl, pg_rel ok⟩)
  · refine br_f a (br_t b (br_t rfl ?_))
    unfold wpY_payment
    dsimp only
    exact br_f a (br_t c (br_t rfl ⟨rfl, pg_rel ok⟩))
  · subst e
    obtain ⟨w, hw, hl, _⟩ := pg_be_ex (pg_Y P B) W A H 0
    obtain ⟨w1, hw1, _, _⟩ := pg_be_ex (pg_Y P B) W A H (nI (pg_of (pg_Y P B) W p 8))
    have hm : w &&& pg_of (pg_Y P B) W p 8 < 256 := pg_andlt _ hl
    have ho : w &&& ((w &&& pg_of (pg_Y P B) W p 8) ^^^ (2 ^ 8 - 1)) < 256 := pg_andlt _ hl
    refine br_f a (br_f b (br_f pg_10 (pg_xwin ok ?_)))
    rw [hw]
    refine pg_xof hP hp hW hBP (nm_r (nx_and _ _) ?_)
    by_cases z : nI (w &&& pg_of (pg_Y P B) W p 8) = 0
    · refine br_t z ?_
      unfold wpY_payment
      dsimp only
      refine br_f a (br_f c (br_f pg_10 (pg_ywin hD hW hA (fun a4 => ?_))))
      rw [hw]
      exact pg_yof hp hD hW (nm_r (nx_and _ _) (br_t z ⟨rfl, pg_rel ok⟩))
    · refine br_f z (nm_r (pg_andn _ hl) (pg_xwo ok hp hw1 (pg_xsum ho rfl ?_)))
      unfold wpY_payment
      dsimp only
      refine br_f a (br_f c (br_f pg_10 (pg_ywin hD hW hA (fun a4 => ?_))))
      rw [hw]
      refine pg_yof hp hD hW (nm_r (nx_and _ _) (br_f z (pg_ywo hD hW hA hp hw1 (fun a5 => ?_))))
      refine pg_ysum hl (pg_ysum hm ⟨?_, pg_rel ok⟩)
      have s := pg_sum_split A w (w &&& pg_of (pg_Y P B) W p 8) 8 (Nat.le_refl 8)
      rw [← Nat.and_assoc, Nat.and_self] at s
      rw [← s, pg_nsub]
theorem i_vc_revenueWith {k : Nat} {u : SX} {v : SY} (I : i_Rel k u v) (hk : k + 4 ≤ 2048) (v1 : Int32) : wpX_revenueWith (fun r => wpY_revenueWith (fun r' v' => r' = r ∧ i_Rel (k + 4) u v') v v1) u v1 := by
  obtain ⟨P, H, B, W, A, f, ok, rfl, rfl⟩ := I
  have hD := pg_YD ok
  obtain ⟨hP, hH, hB, hW, hA, hBP⟩ := id ok
  unfold wpX_revenueWith
  dsimp only
  refine pg_xis hP hBP v1 (fun y => ?_) (fun y => ?_)
  · refine br_f pg_10 (pg_xbest hH hB hW hA hBP rfl ?_)
    cases c : pg_be (pg_Y P B) W A H ((1 : Int32) <<< (v1 &&& 31)) 0 with
    | none =>
      refine br_t rfl ?_
      unfold wpY_revenueWith
      dsimp only
      refine pg_yis hD _ (fun _ => br_f pg_10 (pg_ywork hD hW (fun a hf => ?_))) (fun y' => absurd y y')
      dsimp only
      refine pg_ybest hA hf ?_
      rw [c]
      exact br_f (show ¬ (0 : Int32) ≤ -1 by decide) ⟨rfl, pg_rel ok⟩
    | some w =>
      have hl := pg_be_lt c
      have n : ¬ nI w = -1 := by
        intro z
        have := nI_pos (n := w) (by omega)
        rw [z] at this
        exact this (by decide)
      refine br_f n (pg_xsum hl rfl ?_)
      unfold wpY_revenueWith
      dsimp only
      refine pg_yis hD _ (fun _ => br_f pg_10 (pg_ywork hD hW (fun a hf => ?_))) (fun y' => absurd y y')
      dsimp only
      refine pg_ybest hA hf ?_
      rw [c]
      exact br_t (nI_pos' (by omega)) (pg_ysum hl ⟨rfl, pg_rel ok⟩)
  · refine br_t rfl ?_
    unfold wpY_revenueWith
    dsimp only
    exact pg_yis hD _ (fun y' => absurd y' y) (fun _ => br_t rfl ⟨rfl, pg_rel ok⟩)
theorem i_vc_price {k : Nat} {u : SX} {v : SY} (I : i_Rel k u v) (hk : k + 4 ≤ 2048) (v1 : Int32) : wpX_price (fun r => wpY_price (fun r' v' => r' = r ∧ i_Rel (k + 4) u v') v v1) u v1 := by
  obtain ⟨P, H, B, W, A, f, ok, rfl, rfl⟩ := I
  have hD := pg_YD ok
  obtain ⟨hP, hH, hB, hW, hA, hBP⟩ := id ok
  unfold wpX_price
  dsimp only
  rcases pg_it v1 with a | ⟨a, b, c⟩ | ⟨j, hj, e, a, b, c⟩
  · exact br_t a (br_t rfl (br_t a ⟨rfl, pg_rel ok⟩))
  · exact br_f a (br_t b (br_t rfl (br_f a (br_f c ⟨rfl, pg_rel ok⟩))))
  · subst e
    have e1 : nI H ||| ((1 : Int32) <<< (nI j &&& 31)) = nI (H ||| 2 ^ j) := by rw [pg_sh j hj, pg_or]
    obtain ⟨w, hw, hl, _⟩ := pg_be_ex (pg_Y P B) W A H 0
    obtain ⟨w1, hw1, hl1, _⟩ := pg_be_ex (pg_Y P B) W A (H ||| 2 ^ j) 0
    refine br_f a (br_f b (br_f pg_10 (pg_xbest hH hB hW hA hBP rfl ?_)))
    refine pg_xbest (pg_orlt hH (pg_p2 hj)) hB hW hA hBP e1 ?_
    rw [hw, hw1]
    refine pg_xsum hl rfl (pg_xsum hl1 rfl (br_f a (br_t c ?_)))
    refine pg_yrev hD hW hA hw (fun a4 => ?_)
    dsimp only
    refine nm_r e1 (pg_yrev hD hW hA hw1 (fun a5 => ?_))
    exact ⟨rfl, pg_rel ok⟩
theorem pg_out {P : Nat} (hP : P < 256) {v : Int32} (h : ∀ s, s < 256 → v ≠ nI s) : ¬ (v &&& (nI P ^^^ (-1))) = 0 := by
  intro z
  rw [pg_nn] at z
  have e : v = nI v.toBitVec.toNat := by
    apply Int32.toBitVec_inj.1
    show v.toBitVec = BitVec.ofNat 32 v.toBitVec.toNat
    simp
  rw [e, nx_and] at z
  exact h (P &&& v.toBitVec.toNat) (pg_andlt _ hP) (by rw [z]; exact e)
theorem i_vc_allocation {k : Nat} {u : SX} {v : SY} (I : i_Rel k u v) (hk : k + 4 ≤ 2048) (v1 : Int32) : wpX_allocation (fun r => wpY_allocation (fun r' => r' = r ∧ i_Rel (k + 4) u v) v v1) u v1 := by
  obtain ⟨P, H, B, W, A, f, ok, rfl, rfl⟩ := I
  have hD := pg_YD ok
  obtain ⟨hP, hH, hB, hW, hA, hBP⟩ := id ok
  unfold wpX_allocation
  dsimp only
  rcases pg_cut v1 256 (by decide) with a | ⟨a, b⟩ | ⟨s, hs, e⟩
  · refine br_f (pg_out hP (fun s hs e => ?_)) ⟨rfl, br_t a ⟨rfl, pg_rel ok⟩⟩
    rw [e] at a
    exact nI_pos (by omega) a
  · rw [pg_256] at b
    refine br_f (pg_out hP (fun s hs e => ?_)) ⟨rfl, br_f a (br_t b ⟨rfl, pg_rel ok⟩)⟩
    rw [e] at b
    exact pg_g256 hs b
  · subst e
    refine pg_xal hs hH hB hW hBP rfl rfl ⟨pg_b_nar _, br_f (nI_pos (by omega)) (br_f (pg_g256 hs) (pg_yal hs hD hW ?_))⟩
    cases pg_al (pg_Y P B) W H s
    · exact br_t rfl ⟨rfl, pg_rel ok⟩
    · exact br_f pg_10 ⟨rfl, pg_rel ok⟩
end
section
/-! threshold -/
theorem pg_ythr {post : Int32 → SY → Prop} {D W A : Nat → Nat} {H b : Nat} {a4 : Nat → Int32} {win : Nat → Bool} (hb : b < 8) (hz : 0 < D b) (hD : ∀ b, D b < 256) (hW : ∀ b, W b < 4) (hA : ∀ b, A b ≤ 50) (hw : ∀ a, 1 ≤ a → a ≤ 50 → ∃ s, s < 256 ∧ pg_be D W (pg_up A b a) H 0 0 = some s ∧ s.testBit b = win a) (h : ∀ L a4, 1 ≤ L → L ≤ 51 → (L ≤ 50 → win L = true) → (∀ a, 1 ≤ a → a < L → win a = false) → post (nI L) (nI H, pg_arr D, pg_arr W, pg_arr A, a4)) : wpY_threshold post (nI H, pg_arr D, pg_arr W, pg_arr A, a4) (nI b) := by
  unfold wpY_threshold
  dsimp only
  refine pg_yis hD _ (fun _ => br_f pg_10 (pg_ywork hD hW (fun a hf => ?_))) (fun y => absurd ⟨b, hb, rfl, hz⟩ y)
  dsimp only
  refine ⟨pg_i8 hb, nm_r (pg_at A (by omega)) ⟨51, ?_⟩⟩
  have t := pg_ythr_l (post := post) (a4 := a) (o := A b) hb hA hf hw (fun L h1 h2 h3 h4 => by rw [pg_up_self]; exact h L a h1 h2 h3 h4) 50 51 (A b) (Nat.le_refl _) (by decide) (by decide) (fun z => absurd z (by decide)) (fun a h1 h2 => by omega)
  rw [pg_up_self] at t
  exact t
theorem pg_thr_ex (e : Int) : ∃ M : Nat, (e < 1 → M = 1) ∧ (1 ≤ e → e ≤ 50 → (M : Int) = e) ∧ (50 < e → M = 51) := by
  by_cases a : e < 1
  · exact ⟨1, fun _ => rfl, fun h => by omega, fun h => by omega⟩
  · by_cases b : e ≤ 50
    · exact ⟨e.toNat, fun h => by omega, fun _ _ => by omega, fun h => by omega⟩
    · exact ⟨51, fun h => by omega, fun _ h => by omega, fun _ => rfl⟩
theorem pg_thr_fin {e : Int} {L M : Nat} (k1 : e < 1 → M = 1) (k2 : 1 ≤ e → e ≤ 50 → (M : Int) = e) (k3 : 50 < e → M = 51) (h1 : 1 ≤ L) (h2 : L ≤ 51) (h3 : L ≤ 50 → decide (e ≤ (L : Int)) = true) (h4 : ∀ a : Nat, 1 ≤ a → a < L → decide (e ≤ (a : Int)) = false) : L = M := by
  by_cases a : e < 1
  · rw [k1 a]
    rcases Nat.lt_or_ge 1 L with l | l
    · have := of_decide_eq_false (h4 1 (by omega) l)
      omega
    · omega
  · by_cases b : e ≤ 50
    · have m := k2 (by omega) b
      rcases Nat.lt_or_ge M L with l | l
      · have := of_decide_eq_false (h4 M (by omega) l)
        omega
      · have := of_decide_eq_true (h3 (by omega))
        omega
    · rw [k3 (by omega)]
      rcases Nat.lt_or_ge 50 L with l | l
      · omega
      · have := of_decide_eq_true (h3 l)
        omega
theorem i_vc_threshold {k : Nat} {u : SX} {v : SY} (I : i_Rel k u v) (hk : k + 4 ≤ 2048) (v1 : Int32) : wpX_threshold (fun r => wpY_threshold (fun r' v' => r' = r ∧ i_Rel (k + 4) u v') v v1) u v1 := by
  obtain ⟨P, H, B, W, A, f, ok, rfl, rfl⟩ := I
  have hD := pg_YD ok
  obtain ⟨hP, hH, hB, hW, hA, hBP⟩ := id ok
  unfold wpX_threshold
  dsimp only
  refine pg_xis hP hBP v1 (fun y => ?_) (fun y => ?_)
  · obtain ⟨b, hb, e, z⟩ := id y
    subst e
    refine br_f pg_10 (nm_e (pg_xbest hH hB hW hA hBP rfl ?_))
    cases c : pg_be (pg_Y P B) W A H ((1 : Int32) <<< (nI b &&& 31)) 0 with
    | none =>
      refine br_t rfl (pg_ythr (win := fun _ => false) hb z hD hW hA (fun a _ _ => ?_) (fun L a4 h1 h2 h3 _ => ⟨?_, pg_rel ok⟩))
      · obtain ⟨s, es, hs, _⟩ := pg_be_ex (pg_Y P B) W (pg_up A b a) H 0
        exact ⟨s, hs, es, pg_thr_none hb c es⟩
      · have : L = 51 := by
          rcases Nat.lt_or_ge 50 L with l | l
          · omega
          · cases h3 l
        rw [this]
        exact pg_51
    | some w =>
      have hl := pg_be_lt c
      have n : ¬ nI w = -1 := by
        intro z
        have := nI_pos (n := w) (by omega)
        rw [z] at this
        exact this (by decide)
      obtain ⟨w0, c0, hl0, _⟩ := pg_be_ex (pg_Y P B) W A H ((1 : Int32) <<< (nI b &&& 31))
      have e1 : nI w &&& (((1 : Int32) <<< (nI b &&& 31)) ^^^ (-1)) = nI (w &&& (2 ^ b ^^^ (2 ^ 8 - 1))) := by rw [pg_sh b hb, pg_andn _ hl]
      have b0 := pg_sum_le hA w0 8
      have b1 := pg_sum_le hA (w &&& (2 ^ b ^^^ (2 ^ 8 - 1))) 8
      have key : ∀ e : Int, (∀ a : Nat, e ≤ (a : Int) ↔ pg_sum A w0 8 < pg_pt A b w + a ∨ (pg_sum A w0 8 = pg_pt A b w + a ∧ pg_rv w0 < pg_rv w)) → ∀ x : Int32, x.toInt = e → wX_threshold_80 (fun r => wpY_threshold (fun r' v' => r' = r ∧ i_Rel (k + 4) (nI P, nI H, pg_arr B, pg_arr W, pg_arr A) v') (nI H, pg_arr (pg_Y P B), pg_arr W, pg_arr A, f) (nI b)) x (nI P) (nI H) (pg_arr B) (pg_arr W) (pg_arr A) := by
        intro e he x hx
        obtain ⟨M, k1, k2, k3⟩ := pg_thr_ex e
        refine pg_x80 hx k1 k2 k3 (pg_ythr (win := fun a => decide (e ≤ (a : Int))) hb z hD hW hA (fun a _ _ => ?_) (fun L a4 h1 h2 h3 h4 => ⟨?_, pg_rel ok⟩))
        · obtain ⟨s, es, hs, _⟩ := pg_be_ex (pg_Y P B) W (pg_up A b a) H 0
          have t := pg_thr_some hb c c0 es
          rw [← he a] at t
          refine ⟨s, hs, es, ?_⟩
          by_cases g : e ≤ (a : Int)
          · rw [t.mpr g]; exact (decide_eq_true g).symm
          · rw [decide_eq_false g]
            cases q : s.testBit b
            · rfl
            · exact absurd (t.mp q) g
        · rw [pg_thr_fin k1 k2 k3 h1 h2 h3 h4]
      refine br_f n (pg_xbest hH hB hW hA hBP rfl ?_)
      rw [c0]
      refine nm_r e1 (pg_xsum hl0 rfl (pg_xsum (pg_andlt _ hl) rfl (nm_e (pg_xgb _ hl hl0 ?_))))
      by_cases g : pg_rv w0 < pg_rv w
      · rw [decide_eq_true g]
        refine br_f pg_10 (key _ (fun a => ?_) _ (pg_subI (by omega) (by omega)))
        show _ ↔ pg_sum A w0 8 < pg_sum A (w &&& (2 ^ b ^^^ (2 ^ 8 - 1))) 8 + a ∨ (pg_sum A w0 8 = pg_sum A (w &&& (2 ^ b ^^^ (2 ^ 8 - 1))) 8 + a ∧ pg_rv w0 < pg_rv w)
        omega
      · rw [decide_eq_false g]
        refine br_t rfl (nm_e (key _ (fun a => ?_) _ (pg_subI1 (by omega) (by omega))))
        show _ ↔ pg_sum A w0 8 < pg_sum A (w &&& (2 ^ b ^^^ (2 ^ 8 - 1))) 8 + a ∨ (pg_sum A w0 8 = pg_sum A (w &&& (2 ^ b ^^^ (2 ^ 8 - 1))) 8 + a ∧ pg_rv w0 < pg_rv w)
        omega
  · refine br_t rfl ?_
    unfold wpY_threshold
    dsimp only
    exact pg_yis hD _ (fun y' => absurd y' y) (fun _ => br_t rfl ⟨rfl, pg_rel ok⟩)
end
