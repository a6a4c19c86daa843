/-! ===== Int32 by its bits: bt x i ===== -/
def bt (x : Int32) (i : Nat) : Bool := x.toBitVec.getLsbD i
theorem b_ext {x y : Int32} (h : ∀ i, i < 32 → bt x i = bt y i) : x = y := Int32.toBitVec_inj.mp (BitVec.eq_of_getLsbD_eq (fun i hi => h i hi))
theorem b_or (x y : Int32) (i : Nat) : bt (x ||| y) i = (bt x i || bt y i) := by unfold bt; rw [Int32.toBitVec_or, BitVec.getLsbD_or]
theorem b_and (x y : Int32) (i : Nat) : bt (x &&& y) i = (bt x i && bt y i) := by unfold bt; rw [Int32.toBitVec_and, BitVec.getLsbD_and]
theorem b_xor (x y : Int32) (i : Nat) : bt (x ^^^ y) i = (bt x i ^^ bt y i) := by unfold bt; rw [Int32.toBitVec_xor, BitVec.getLsbD_xor]
theorem b_big {x : Int32} {i : Nat} (h : 32 ≤ i) : bt x i = false := BitVec.getLsbD_of_ge _ _ h
theorem b_255 (i : Nat) : bt 255 i = decide (i < 8) := by
  rcases Nat.lt_or_ge i 32 with h | h
  · exact (by decide +kernel : ∀ i, i < 32 → bt 255 i = decide (i < 8)) i h
  · rw [b_big h, decide_eq_false (by omega)]
theorem b_65535 (i : Nat) : bt 65535 i = decide (i < 16) := by
  rcases Nat.lt_or_ge i 32 with h | h
  · exact (by decide +kernel : ∀ i, i < 32 → bt 65535 i = decide (i < 16)) i h
  · rw [b_big h, decide_eq_false (by omega)]
theorem b_m1 : ∀ i, i < 32 → bt (-1) i = true := by decide +kernel
theorem b_0 (i : Nat) : bt 0 i = false := BitVec.getLsbD_zero
theorem s_l : ∀ n, n < 32 → ((nI n &&& 31).toBitVec.smod 32).toNat = n := by decide +kernel
theorem s_u : ∀ n, n < 32 → (((nI n).toUInt32 &&& Int32.toUInt32 31).toBitVec % 32).toNat = n := by decide +kernel
theorem b_shl (n : Nat) (hn : n < 32) (x : Int32) {i : Nat} (hi : i < 32) : bt (x <<< (nI n &&& 31)) i = (decide (n ≤ i) && bt x (i - n)) := by
  unfold bt
  rw [Int32.toBitVec_shiftLeft]
  show (x.toBitVec <<< ((nI n &&& 31).toBitVec.smod 32).toNat).getLsbD i = _
  rw [s_l n hn, BitVec.getLsbD_shiftLeft]
  rcases Nat.lt_or_ge i n with h | h
  · simp [h, Nat.not_le.mpr h]
  · simp [hi, h, Nat.not_lt.mpr h]
theorem b_ushr (n : Nat) (hn : n < 32) (x : Int32) (i : Nat) : bt ((x.toUInt32 >>> ((nI n).toUInt32 &&& Int32.toUInt32 31)).toInt32) i = bt x (n + i) := by
  show (x.toUInt32 >>> ((nI n).toUInt32 &&& Int32.toUInt32 31)).toBitVec.getLsbD i = x.toUInt32.toBitVec.getLsbD (n + i)
  rw [UInt32.toBitVec_shiftRight]
  show (x.toUInt32.toBitVec >>> (((nI n).toUInt32 &&& Int32.toUInt32 31).toBitVec % 32).toNat).getLsbD i = _
  rw [s_u n hn, BitVec.getLsbD_ushiftRight]
theorem b_sshr (n : Nat) (hn : n < 32) (x : Int32) {i : Nat} (hi : i < 32) : bt (x >>> (nI n &&& 31)) i = if n + i < 32 then bt x (n + i) else bt x 31 := by
  unfold bt
  rw [Int32.toBitVec_shiftRight]
  show (x.toBitVec.sshiftRight ((nI n &&& 31).toBitVec.smod 32).toNat).getLsbD i = _
  rw [s_l n hn, BitVec.getLsbD_sshiftRight, BitVec.msb_eq_getLsbD_last]
  simp [hi]
theorem b_1 : ∀ i, i < 32 → bt 1 i = decide (i = 0) := by decide +kernel
/-- one bit tested -/
theorem bt_and1 (y : Int32) : (y &&& 1) = 1 ↔ bt y 0 = true := by
  constructor
  · intro h
    have h2 : bt (y &&& 1) 0 = bt 1 0 := by rw [h]
    rw [b_and, b_1 0 (by omega)] at h2
    simpa using h2
  · intro h
    apply b_ext
    intro i hi
    rw [b_and, b_1 i hi]
    by_cases h0 : i = 0
    · subst h0; simp [h]
    · simp [h0]
theorem bt_test (q x : Int32) (n : Nat) (hn : n < 32) (hx : x.toInt = (n : Int)) : ((q >>> (x &&& 31)) &&& 1) = 1 ↔ bt q n = true := by
  have e : x = nI n := by
    apply Int32.toInt_inj.mp
    rw [hx, nI_toInt (by omega)]
  subst e
  rw [bt_and1, b_sshr n hn q (by omega)]
  simp [hn]
/-! ===== numbers: a machine's int by the integer that it stands for ===== -/
theorem t_lt {a b : Int32} : a < b ↔ a.toInt < b.toInt := Int32.lt_iff_toInt_lt
theorem t_le {a b : Int32} : a ≤ b ↔ a.toInt ≤ b.toInt := Int32.le_iff_toInt_le
theorem t_eq {a b : Int32} : a = b ↔ a.toInt = b.toInt := Int32.toInt_inj.symm
theorem t_bm {x : Int} (h : -2147483648 ≤ x ∧ x < 2147483648) : Int.bmod x (2 ^ 32) = x := by
  have e : ((2 ^ 32 : Nat) : Int) = 4294967296 := by decide
  unfold Int.bmod
  simp only [e]
  split <;> omega
theorem t_add {a b : Int32} (h : -2147483648 ≤ a.toInt + b.toInt ∧ a.toInt + b.toInt < 2147483648) : (a + b).toInt = a.toInt + b.toInt := by
  rw [Int32.toInt_add]; exact t_bm h
theorem t_sub {a b : Int32} (h : -2147483648 ≤ a.toInt - b.toInt ∧ a.toInt - b.toInt < 2147483648) : (a - b).toInt = a.toInt - b.toInt := by
  rw [Int32.toInt_sub]; exact t_bm h
theorem t_mul {a b : Int32} (h : -2147483648 ≤ a.toInt * b.toInt ∧ a.toInt * b.toInt < 2147483648) : (a * b).toInt = a.toInt * b.toInt := by
  rw [Int32.toInt_mul]; exact t_bm h
theorem t_neg {a : Int32} (h : -2147483648 < a.toInt) : (-a).toInt = -a.toInt := by
  have h2 := Int32.toInt_lt a
  rw [Int32.toInt_neg]
  exact t_bm (by omega)
theorem t_rng (a : Int32) : -2147483648 ≤ a.toInt ∧ a.toInt < 2147483648 := ⟨by have := Int32.le_toInt a; omega, by have := Int32.toInt_lt a; omega⟩
theorem t_lit (n : Nat) (h : n < 2147483648) : (OfNat.ofNat n : Int32).toInt = (n : Int) := by
  rw [show (OfNat.ofNat n : Int32) = nI n from rfl]
  exact nI_toInt h
theorem t_ite {c : Prop} [Decidable c] {a b : Int32} : (if c then a else b).toInt = if c then a.toInt else b.toInt := by split <;> rfl
theorem t_cl {a : Int32} {n : Nat} (h : a.toInt = (n : Int)) : a.toNatClampNeg = n := by
  show a.toInt.toNat = n
  omega
theorem t_cl' {a : Int32} (h : 0 ≤ a.toInt) : ((a.toNatClampNeg : Nat) : Int) = a.toInt := by
  show ((a.toInt.toNat : Nat) : Int) = a.toInt
  omega
theorem t_in {a : Int32} {n : Nat} (h : 0 ≤ a.toInt ∧ a.toInt < (n : Int)) : vp_in a n := vp_in_iff.mpr h
theorem t_l {a : Int32} : a.toInt64.toInt = a.toInt := Int32.toInt_toInt64 a
theorem t_llt {a b : Int64} : a < b ↔ a.toInt < b.toInt := Int64.lt_iff_toInt_lt
theorem t_lle {a b : Int64} : a ≤ b ↔ a.toInt ≤ b.toInt := Int64.le_iff_toInt_le
theorem t_leq {a b : Int64} : a = b ↔ a.toInt = b.toInt := Int64.toInt_inj.symm
/-! ===== how one draws, in integers ===== -/
def m_pails (k m : Int) : Int := max 0 (min 9 ((if k = 1 then 5 else if k = 3 then 2 else 4) + m))
def m_swt (k m : Int) : Prop := k = 1 ∨ (k = 0 ∧ 0 ≤ m)
def m_clamp (x : Int) : Int := max (-9) (min 9 x)
def m_wane (x : Int) : Int := if 0 < x then x - 1 else if x < 0 then x + 1 else 0
def m_rain (l r : Int) : Int := min 999 (l + r)
def m_felt (k f : Int) : Int := if k = 3 then -f else f
theorem tn0 : (0 : Int32).toInt = 0 := by decide
theorem tn1 : (1 : Int32).toInt = 1 := by decide
theorem tn2 : (2 : Int32).toInt = 2 := by decide
theorem tn3 : (3 : Int32).toInt = 3 := by decide
theorem tn4 : (4 : Int32).toInt = 4 := by decide
theorem tn5 : (5 : Int32).toInt = 5 := by decide
theorem tn6 : (6 : Int32).toInt = 6 := by decide
theorem tn7 : (7 : Int32).toInt = 7 := by decide
theorem tn8 : (8 : Int32).toInt = 8 := by decide
theorem tn9 : (9 : Int32).toInt = 9 := by decide
theorem tn10 : (10 : Int32).toInt = 10 := by decide
theorem tn24 : (24 : Int32).toInt = 24 := by decide
theorem tn60 : (60 : Int32).toInt = 60 := by decide
theorem tn99 : (99 : Int32).toInt = 99 := by decide
theorem tn999 : (999 : Int32).toInt = 999 := by decide
theorem tn9999 : (9999 : Int32).toInt = 9999 := by decide
theorem tnm1 : (-1 : Int32).toInt = -1 := by decide
theorem tnm2 : (-2 : Int32).toInt = -2 := by decide
theorem tnm3 : (-3 : Int32).toInt = -3 := by decide
theorem tnm9 : (-9 : Int32).toInt = -9 := by decide
/-- the Folk of a WellMoods: how many, and what they are -/
def FK (f : wSt) : Prop := (0 ≤ (w_i f 4).toInt ∧ (w_i f 4).toInt ≤ 6) ∧ ∀ i : Nat, (i : Int) < (w_i f 4).toInt → (0 ≤ (w_a f 0 i).toInt ∧ (w_a f 0 i).toInt ≤ 3) ∧ (-3 ≤ (w_a f 1 i).toInt ∧ (w_a f 1 i).toInt ≤ 3) ∧ (1 ≤ (w_a f 2 i).toInt ∧ (w_a f 2 i).toInt ≤ 9)
theorem q_has {x : Int32} {f : wSt} {post : Int32 → Prop} (h1 : 0 ≤ x.toInt → x.toInt < (w_i f 4).toInt → post 1) (h0 : ¬ (0 ≤ x.toInt ∧ x.toInt < (w_i f 4).toInt) → post 0) : wpX0_has x f post := by
  unfold wpX0_has
  refine ⟨fun a => h0 ?_, fun a => ⟨fun b => h0 ?_, fun b => h1 ?_ ?_⟩⟩ <;> simp only [t_lt, t_le, tn0] at * <;> omega
theorem q_compare {x y : Int32} {post : Int32 → Prop} (h : ∀ r : Int32, r.toInt = (if y.toInt < x.toInt then 1 else if x.toInt = y.toInt then 0 else -1) → post r) : wpJ6_compare_7cf53 x y post := by
  unfold wpJ6_compare_7cf53
  refine ⟨fun a => ⟨fun b => h _ ?_, fun b => h _ ?_⟩, fun a => h _ ?_⟩ <;> simp only [t_le, t_eq, tn0, tn1, tnm1] at * <;> split <;> (try split) <;> omega
theorem q_waned {x : Int32} {post : Int32 → Prop} (hx : -1000 ≤ x.toInt ∧ x.toInt ≤ 1000) (h : ∀ r : Int32, r.toInt = m_wane x.toInt → post r) : wpX5_waned x post := by
  unfold wpX5_waned
  refine q_compare (fun r hr => h _ ?_)
  simp only [tn0] at hr
  rw [t_sub (by split at hr <;> (try split at hr) <;> omega), hr]
  unfold m_wane
  split <;> (try split) <;> (try split) <;> omega
theorem q_asMood {x : Int32} {post : Int32 → Prop} (h : ∀ r : Int32, r.toInt = m_clamp x.toInt → post r) : wpX5_asMood x post := by
  unfold wpX5_asMood
  refine h _ ?_
  simp only [t_ite, t_lt, tn9, tnm9]
  unfold m_clamp
  omega
theorem q_rained {x y : Int32} {post : Int32 → Prop} (hx : -1000 ≤ x.toInt ∧ x.toInt ≤ 1000) (hy : -1000 ≤ y.toInt ∧ y.toInt ≤ 1000) (h : ∀ r : Int32, r.toInt = m_rain x.toInt y.toInt → post r) : wpX5_rained x y post := by
  unfold wpX5_rained
  refine h _ ?_
  simp only [t_ite, t_lt, tn999]
  rw [t_add (by omega)]
  unfold m_rain
  omega
