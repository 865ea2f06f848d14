/-! numbers and bits (bt, b_.., nx_.. are pasted from the kit's rows) -/
def bt (x : Int32) (i : Nat) : Bool := x.toBitVec.getLsbD i
theorem b_ext {x y : Int32} (h : ∀ i, i < 32 → bt x i = bt y i) : x = y := Int32.toBitVec_inj.mp (BitVec.eq_of_getLsbD_eq (fun i hi => h i hi))
theorem b_and (x y : Int32) (i : Nat) : bt (x &&& y) i = (bt x i && bt y i) := by unfold bt; rw [Int32.toBitVec_and, BitVec.getLsbD_and]
theorem b_xor (x y : Int32) (i : Nat) : bt (x ^^^ y) i = (bt x i ^^ bt y i) := by unfold bt; rw [Int32.toBitVec_xor, BitVec.getLsbD_xor]
theorem b_m1 : ∀ i, i < 32 → bt (-1) i = true := by decide +kernel
theorem b_0 (i : Nat) : bt 0 i = false := BitVec.getLsbD_zero
theorem nx_and (a b : Nat) : nI a &&& nI b = nI (a &&& b) := by
  apply Int32.toBitVec_inj.1
  show BitVec.ofNat 32 a &&& BitVec.ofNat 32 b = BitVec.ofNat 32 (a &&& b)
  apply BitVec.eq_of_getLsbD_eq
  intro i hi
  simp [hi]
theorem nx_xor (a b : Nat) : nI a ^^^ nI b = nI (a ^^^ b) := by
  apply Int32.toBitVec_inj.1
  show BitVec.ofNat 32 a ^^^ BitVec.ofNat 32 b = BitVec.ofNat 32 (a ^^^ b)
  apply BitVec.eq_of_getLsbD_eq
  intro i hi
  simp [hi]
theorem pg_or (a b : Nat) : nI a ||| nI b = nI (a ||| b) := by
  apply Int32.toBitVec_inj.1
  show BitVec.ofNat 32 a ||| BitVec.ofNat 32 b = BitVec.ofNat 32 (a ||| b)
  apply BitVec.eq_of_getLsbD_eq
  intro i hi
  simp [hi]
theorem pg_or0 (a : Nat) : nI a ||| 0 = nI a := by
  have h := pg_or a 0
  rw [nI_0, Nat.or_zero] at h
  exact h
theorem pg_4 : nI 4 = 4 := by decide +kernel
theorem pg_8 : nI 8 = 8 := by decide +kernel
theorem pg_50 : nI 50 = 50 := by decide +kernel
theorem pg_51 : nI 51 = 51 := by decide +kernel
theorem pg_256 : nI 256 = 256 := by decide +kernel
theorem pg_n1 : nI 1 = 1 := by decide +kernel
/-- a boolean as the machine holds it -/
def pg_b (c : Bool) : Int32 := match c with
  | true => 1
  | false => 0
theorem pg_b_nar (c : Bool) : narrow .boolean (.int (pg_b c)) = .int (pg_b c) := by cases c <;> rfl
theorem pg_b_vp (c : Bool) : vp_nar .boolean (pg_b c) = pg_b c := by cases c <;> rfl
theorem pg_b0 {c : Bool} : pg_b c = 0 ↔ c = false := by cases c <;> decide
theorem pg_10 : ¬ (1 : Int32) = 0 := by decide
theorem pg_sh : ∀ l, l < 8 → (1 : Int32) <<< (nI l &&& 31) = nI (2 ^ l) := by decide +kernel
theorem pg_c0 : ∀ s, s < 256 → ∀ j, j < 8 → ((nI s &&& ((1 : Int32) <<< (nI j &&& 31))) = 0 ↔ s.testBit j = false) := by decide +kernel
theorem pg_c1 : ∀ s, s < 256 → ∀ j, j < 8 → ((nI s &&& ((1 : Int32) <<< (nI j &&& 31))) = (1 : Int32) <<< (nI j &&& 31) ↔ s.testBit j = true) := by decide +kernel
theorem pg_yb : ∀ s, s < 256 → ∀ j, j < 8 → (((nI s >>> (nI j &&& 31)) &&& 1) = if s.testBit j = true then 1 else 0) := by decide +kernel
theorem pg_hi {s b : Nat} (h : s < 256) (hb : 8 ≤ b) : s.testBit b = false := Nat.testBit_lt_two_pow (Nat.lt_of_lt_of_le (show s < 2 ^ 8 from h) (Nat.pow_le_pow_right (by decide) hb))
theorem pg_lt8 {s b : Nat} (h : s < 256) (hb : s.testBit b = true) : b < 8 := by
  rcases Nat.lt_or_ge b 8 with k | k
  · exact k
  · rw [pg_hi h k] at hb; exact absurd hb (by decide)
theorem pg_p2 {j : Nat} (h : j < 8) : 2 ^ j < 256 := Nat.pow_lt_pow_right (by decide) h
theorem pg_orlt {a b : Nat} (ha : a < 256) (hb : b < 256) : a ||| b < 256 := Nat.or_lt_two_pow (n := 8) ha hb
theorem pg_andlt {a : Nat} (b : Nat) (ha : a < 256) : a &&& b < 256 := Nat.lt_of_le_of_lt Nat.and_le_left ha
theorem pg_m1 : (-1 : Int32) = nI (2 ^ 32 - 1) := by decide +kernel
theorem pg_andn {w : Nat} (m : Nat) (hw : w < 256) : nI w &&& (nI m ^^^ (-1)) = nI (w &&& (m ^^^ (2 ^ 8 - 1))) := by
  rw [pg_m1, nx_xor, nx_and]
  congr 1
  apply Nat.eq_of_testBit_eq
  intro i
  rw [Nat.testBit_and, Nat.testBit_and, Nat.testBit_xor, Nat.testBit_xor, Nat.testBit_two_pow_sub_one, Nat.testBit_two_pow_sub_one]
  rcases Nat.lt_or_ge i 8 with k | k
  · rw [decide_eq_true k, decide_eq_true (show i < 32 by omega)]
  · rw [pg_hi hw k, Bool.false_and, Bool.false_and]
theorem pg_nn (x y : Int32) : x &&& (y ^^^ (-1)) = 0 ↔ y &&& x = x := by
  constructor
  · intro h
    apply b_ext
    intro i hi
    have e : bt (x &&& (y ^^^ (-1))) i = bt 0 i := by rw [h]
    rw [b_and, b_xor, b_m1 i hi, b_0] at e
    rw [b_and]
    revert e
    cases bt x i <;> cases bt y i <;> decide
  · intro h
    apply b_ext
    intro i hi
    have e : bt (y &&& x) i = bt x i := by rw [h]
    rw [b_and] at e
    rw [b_and, b_xor, b_m1 i hi, b_0]
    revert e
    cases bt x i <;> cases bt y i <;> decide
theorem pg_comm (x y : Int32) : x &&& y = y &&& x := by
  apply b_ext
  intro i hi
  rw [b_and, b_and, Bool.and_comm]
/-- s has no bit outside P -/
theorem pg_sub {s P : Nat} (hs : s < 256) : (nI s &&& (nI P ^^^ (-1))) = 0 ↔ ∀ b, s.testBit b = true → P.testBit b = true := by
  rw [pg_nn, nx_and, nI_eq (Nat.lt_of_le_of_lt Nat.and_le_right (by omega)) (by omega)]
  constructor
  · intro h b hb
    have e : (P &&& s).testBit b = s.testBit b := by rw [h]
    rw [Nat.testBit_and, hb] at e
    simpa using e
  · intro h
    apply Nat.eq_of_testBit_eq
    intro i
    rw [Nat.testBit_and]
    cases k : s.testBit i
    · simp
    · rw [h i k]; rfl
/-- an array of naturals as the machine holds it -/
def pg_arr (f : Nat → Nat) : Nat → Int32 := fun b => nI (f b)
def pg_up (f : Nat → Nat) (i x : Nat) : Nat → Nat := fun b => if b = i then x else f b
theorem pg_at (f : Nat → Nat) {j : Nat} (h : j < 256) : pg_arr f (nI j).toNatClampNeg = nI (f j) := by
  rw [nI_clamp (by omega)]; rfl
theorem pg_upd (f : Nat → Nat) {j : Nat} (h : j < 256) (x : Nat) : upd (pg_arr f) (nI j).toNatClampNeg (nI x) = pg_arr (pg_up f j x) := by
  rw [nI_clamp (by omega)]
  funext b
  unfold upd pg_arr pg_up
  by_cases e : b = j
  · rw [if_pos e, if_pos e]
  · rw [if_neg e, if_neg e]
theorem pg_up_i (f : Nat → Nat) (i x : Nat) : pg_up f i x i = x := if_pos rfl
theorem pg_up_n (f : Nat → Nat) {i j : Nat} (x : Nat) (h : j ≠ i) : pg_up f i x j = f j := if_neg h
theorem pg_up_up (f : Nat → Nat) (i x y : Nat) : pg_up (pg_up f i x) i y = pg_up f i y := by
  funext b
  unfold pg_up
  by_cases e : b = i
  · rw [if_pos e, if_pos e]
  · rw [if_neg e, if_neg e, if_neg e]
theorem pg_up_self (f : Nat → Nat) (i : Nat) : pg_up f i (f i) = f := by
  funext b
  unfold pg_up
  by_cases e : b = i
  · rw [if_pos e, e]
  · rw [if_neg e]
/-- every int: a natural below n, or negative, or at least n -/
theorem pg_cut (v : Int32) (n : Nat) (hn : n < 2 ^ 31) : v < 0 ∨ (¬ v < 0 ∧ nI n ≤ v) ∨ ∃ j, j < n ∧ v = nI j := by
  by_cases h : v < 0
  · exact Or.inl h
  · obtain ⟨j, hj, rfl⟩ := nI_of h
    rcases Nat.lt_or_ge j n with k | k
    · exact Or.inr (Or.inr ⟨j, k, rfl⟩)
    · exact Or.inr (Or.inl ⟨h, nI_le k hj⟩)
