def go_bl (x : Int64) (i : Nat) : Bool := x.toBitVec.getLsbD i
theorem go_blext {x y : Int64} (h : ∀ i, i < 64 → go_bl x i = go_bl y i) : x = y := Int64.toBitVec_inj.mp (BitVec.eq_of_getLsbD_eq (fun i hi => h i hi))
theorem go_blor (x y : Int64) (i : Nat) : go_bl (x ||| y) i = (go_bl x i || go_bl y i) := by unfold go_bl; rw [Int64.toBitVec_or, BitVec.getLsbD_or]
theorem go_bland (x y : Int64) (i : Nat) : go_bl (x &&& y) i = (go_bl x i && go_bl y i) := by unfold go_bl; rw [Int64.toBitVec_and, BitVec.getLsbD_and]
theorem go_blxor (x y : Int64) (i : Nat) : go_bl (x ^^^ y) i = (go_bl x i ^^ go_bl y i) := by unfold go_bl; rw [Int64.toBitVec_xor, BitVec.getLsbD_xor]
theorem go_blm1 : ∀ i, i < 64 → go_bl (-1) i = true := by decide +kernel
theorem go_bl15 : ∀ i, i < 64 → go_bl 15 i = decide (i < 4) := by decide +kernel
theorem go_bl0 (i : Nat) : go_bl 0 i = false := BitVec.getLsbD_zero
theorem go_blbig {x : Int64} {i : Nat} (h : 64 ≤ i) : go_bl x i = false := BitVec.getLsbD_of_ge _ _ h
theorem go_sc : ∀ n, n < 64 → (((nI n).toInt64 &&& 63).toBitVec.smod 64).toNat = n := by decide +kernel
theorem go_su : ∀ n, n < 64 → (((nI n).toInt64.toUInt64 &&& Int64.toUInt64 63).toBitVec % 64).toNat = n := by decide +kernel
theorem go_blshl (n : Nat) (hn : n < 64) (x : Int64) {i : Nat} (hi : i < 64) : go_bl (x <<< ((nI n).toInt64 &&& 63)) i = (decide (n ≤ i) && go_bl x (i - n)) := by
  unfold go_bl
  rw [Int64.toBitVec_shiftLeft]
  show (x.toBitVec <<< (((nI n).toInt64 &&& 63).toBitVec.smod 64).toNat).getLsbD i = _
  rw [go_sc n hn, BitVec.getLsbD_shiftLeft]
  rcases Nat.lt_or_ge i n with h | h
  · simp [h, Nat.not_le.mpr h]
  · simp [hi, h, Nat.not_lt.mpr h]
theorem go_blushr (n : Nat) (hn : n < 64) (x : Int64) (i : Nat) : go_bl ((x.toUInt64 >>> ((nI n).toInt64.toUInt64 &&& Int64.toUInt64 63)).toInt64) i = go_bl x (n + i) := by
  show (x.toUInt64 >>> ((nI n).toInt64.toUInt64 &&& Int64.toUInt64 63)).toBitVec.getLsbD i = x.toUInt64.toBitVec.getLsbD (n + i)
  rw [UInt64.toBitVec_shiftRight]
  show (x.toUInt64.toBitVec >>> (((nI n).toInt64.toUInt64 &&& Int64.toUInt64 63).toBitVec % 64).toNat).getLsbD i = _
  rw [go_su n hn, BitVec.getLsbD_ushiftRight]
theorem go_bl32 (x : Int64) {i : Nat} (hi : i < 32) : bt x.toInt32 i = go_bl x i := by
  show (x.toBitVec.signExtend 32).getLsbD i = x.toBitVec.getLsbD i
  rw [BitVec.getLsbD_signExtend]
  simp [hi, show i < 64 by omega]
theorem go_bl64 (x : Int32) {i : Nat} (hi : i < 64) : go_bl x.toInt64 i = if i < 32 then bt x i else bt x 31 := by
  show (x.toBitVec.signExtend 64).getLsbD i = _
  rw [BitVec.getLsbD_signExtend, BitVec.msb_eq_getLsbD_last]
  by_cases h : i < 32
  · simp [hi, h, bt]
  · simp [hi, h, bt]
theorem go_bx (x y : Int64) : (x &&& (y ^^^ (-1))) = 0 ↔ ∀ i, i < 64 → go_bl x i = true → go_bl y i = true := by
  constructor
  · intro h i hi hx
    have e := congrArg (fun z => go_bl z i) h
    simp only [go_bland, go_blxor, go_blm1 i hi, go_bl0, hx] at e
    cases hy : go_bl y i with
    | true => rfl
    | false => rw [hy] at e; exact absurd e (by decide)
  · intro h
    apply go_blext
    intro i hi
    rw [go_bland, go_blxor, go_blm1 i hi, go_bl0]
    cases hx : go_bl x i with
    | false => rfl
    | true => rw [h i hi hx]; rfl
theorem go_sb1 (m : Int32) (b : Nat) (hb : b < 32) : ((m >>> (nI b &&& 31)) &&& 1) = 0 ↔ bt m b = false := by
  constructor
  · intro h
    have e := congrArg (fun z => bt z 0) h
    simp only [b_and, b_0, b_sshr b hb m (show 0 < 32 by omega)] at e
    rw [if_pos (by omega)] at e
    have e1 : bt 1 0 = true := by decide
    rw [e1, Bool.and_true] at e
    exact e
  · intro h
    apply b_ext
    intro i hi
    rw [b_and, b_0, go_b1 i hi]
    by_cases q : i = 0
    · rw [q, b_sshr b hb m (show 0 < 32 by omega), if_pos (by omega)]
      rw [show b + 0 = b from rfl, h]
      rfl
    · rw [decide_eq_false q, Bool.and_false]
theorem go_gq (W : Nat → Bool) (c t : Nat) (ht : t ≤ 8) : (go_M W c ||| (nI t <<< ((16 : Int32) &&& 31))) >>> ((16 : Int32) &&& 31) = nI t := by
  obtain ⟨m, hm, em⟩ := go_Mn W c
  rw [em, pk_shlN (n := t) ((16 : Int32) &&& 31) 16 (by decide) (by omega), go_or]
  have e : m ||| t * 2 ^ 16 = 2 ^ 16 * t + m := by
    have h := Nat.two_pow_add_eq_or_of_lt (i := 16) (b := m) (by omega) t
    rw [h, Nat.or_comm, Nat.mul_comm t]
  rw [e, pk_shrN (by omega) ((16 : Int32) &&& 31) 16 (by decide)]
  exact congrArg nI (by omega)
theorem go_16b {a : Nat} (ha : a < 16) {i : Nat} (hi : 4 ≤ i) : bt (nI a) i = false := by
  have e := pk_andN (n := a) (by omega) (m := 15) 4 (by decide)
  rw [Nat.mod_eq_of_lt (show a < 2 ^ 4 from ha)] at e
  rcases Nat.lt_or_ge i 32 with h | h
  · rw [← e, b_and, (by decide +kernel : ∀ i, i < 32 → bt 15 i = decide (i < 4)) i h, decide_eq_false (by omega), Bool.and_false]
  · exact b_big h
/-- the sources: four bits a broadcast -/
def go_sr (x7 : Int64) (md : Nat) (src : Nat → Nat) : Prop := ∀ i, i < 64 → go_bl x7 i = (decide (i / 4 < md) && bt (nI (src (i / 4))) (i % 4))
theorem go_srr {x7 : Int64} {md b : Nat} {src : Nat → Nat} (h : go_sr x7 md src) (hb : b < md) (h16 : b < 16) (hs : src b < 16) : (((x7.toUInt64 >>> ((nI (4 * b)).toInt64.toUInt64 &&& Int64.toUInt64 63)).toInt64) &&& 15).toInt32 = nI (src b) := by
  apply b_ext
  intro i hi
  rw [go_bl32 _ hi, go_bland, go_blushr (4 * b) (by omega), go_bl15 i (by omega)]
  by_cases q : i < 4
  · rw [h (4 * b + i) (by omega), show (4 * b + i) / 4 = b by omega, show (4 * b + i) % 4 = i by omega, decide_eq_true hb, decide_eq_true q, Bool.true_and, Bool.and_true]
  · rw [decide_eq_false q, Bool.and_false, go_16b hs (by omega)]
theorem go_srb {x7 : Int64} {md a : Nat} {src : Nat → Nat} (h : go_sr x7 md src) (hm : md < 16) (ha : a < 16) : go_sr (x7 ||| ((nI a).toInt64 <<< ((nI (4 * md)).toInt64 &&& 63))) (md + 1) (go_up src md a) := by
  intro i hi
  rw [go_blor, h i hi, go_blshl (4 * md) (by omega) _ hi]
  by_cases e : i / 4 = md
  · rw [e, go_us, decide_eq_false (show ¬ md < md by omega), decide_eq_true (show 4 * md ≤ i by omega), decide_eq_true (show md < md + 1 by omega), go_bl64 _ (by omega), if_pos (by omega), show i - 4 * md = i % 4 by omega]
    rfl
  · rw [go_un e]
    by_cases q : i / 4 < md
    · rw [decide_eq_true q, decide_eq_true (show i / 4 < md + 1 by omega), decide_eq_false (show ¬ 4 * md ≤ i by omega), Bool.true_and, Bool.false_and, Bool.or_false]
    · rw [decide_eq_false q, decide_eq_false (show ¬ i / 4 < md + 1 by omega), Bool.false_and, Bool.false_or, go_bl64 _ (by omega)]
      by_cases w : i - 4 * md < 32
      · rw [if_pos w, go_16b ha (by omega), Bool.and_false]
      · rw [if_neg w, go_16b ha (by omega), Bool.and_false]
/-- the bits of x are delivered ids of nodes base, base + 1 .. -/
def go_sub (nn : Nat) (D : Nat → Bool) (base : Nat) (x : Int64) : Prop := ∀ i, i < 64 → go_bl x i = true → base + i / 16 < nn ∧ D ((base + i / 16) * 16 + i % 16) = true
def go_dd (nn : Nat) (D : Nat → Bool) (j : Nat) : Int32 := if j < nn then go_M D j else 0
theorem go_ddb (nn : Nat) (D : Nat → Bool) (j i : Nat) (hi : i < 32) : bt (go_dd nn D j &&& 65535) i = (decide (j < nn) && (decide (i < 16) && D (j * 16 + i))) := by
  rw [b_and, b_65535]
  unfold go_dd
  by_cases h : j < nn
  · rw [if_pos h, go_Mb D j i hi, decide_eq_true h, Bool.true_and]
    cases decide (i < 16) <;> simp
  · rw [if_neg h, b_0, decide_eq_false h, Bool.false_and, Bool.false_and]
def go_pk (nn : Nat) (D : Nat → Bool) (base : Nat) : Nat → Int64
  | 0 => 0
  | v + 1 => go_pk nn D base v ||| (((go_dd nn D (base + v) &&& 65535).toInt64) <<< ((nI (16 * v)).toInt64 &&& 63))
theorem go_pkb (nn : Nat) (D : Nat → Bool) (base : Nat) : ∀ v, v ≤ 4 → ∀ i, i < 64 → go_bl (go_pk nn D base v) i = (decide (i / 16 < v) && (decide (base + i / 16 < nn) && D ((base + i / 16) * 16 + i % 16))) := by
  intro v
  induction v with
  | zero =>
    intro _ i _
    show go_bl 0 i = _
    rw [go_bl0, decide_eq_false (by omega), Bool.false_and]
  | succ v ih =>
    intro hv i hi
    show go_bl (go_pk nn D base v ||| (((go_dd nn D (base + v) &&& 65535).toInt64) <<< ((nI (16 * v)).toInt64 &&& 63))) i = _
    rw [go_blor, ih (by omega) i hi, go_blshl (16 * v) (by omega) _ hi]
    by_cases e : i / 16 = v
    · rw [e, decide_eq_false (show ¬ v < v by omega), decide_eq_true (show 16 * v ≤ i by omega), decide_eq_true (show v < v + 1 by omega), go_bl64 _ (by omega), if_pos (by omega), go_ddb nn D (base + v) _ (by omega), show i - 16 * v = i % 16 by omega, decide_eq_true (show i % 16 < 16 by omega)]
      simp
    · by_cases q : i / 16 < v
      · rw [decide_eq_true q, decide_eq_true (show i / 16 < v + 1 by omega), decide_eq_false (show ¬ 16 * v ≤ i by omega), Bool.false_and, Bool.or_false]
      · rw [decide_eq_false q, decide_eq_false (show ¬ i / 16 < v + 1 by omega), Bool.false_and, Bool.false_or, go_bl64 _ (by omega)]
        by_cases w : i - 16 * v < 32
        · rw [if_pos w, go_ddb nn D (base + v) _ w, decide_eq_false (show ¬ i - 16 * v < 16 by omega)]
          simp
        · rw [if_neg w, go_ddb nn D (base + v) _ (by omega), decide_eq_false (show ¬ 31 < 16 by omega)]
          simp
theorem go_pks (nn : Nat) (D : Nat → Bool) (base : Nat) : go_sub nn D base (go_pk nn D base 4) := by
  intro i hi h
  rw [go_pkb nn D base 4 (by omega) i hi] at h
  have h1 := (Bool.and_eq_true_iff.mp h).2
  have h2 := Bool.and_eq_true_iff.mp h1
  exact ⟨of_decide_eq_true h2.1, h2.2⟩
theorem go_pkc {nn : Nat} {D : Nat → Bool} {base : Nat} {x : Int64} (h : go_sub nn D base x) : (x &&& (go_pk nn D base 4 ^^^ (-1))) = 0 := by
  rw [go_bx]
  intro i hi hx
  obtain ⟨h1, h2⟩ := h i hi hx
  rw [go_pkb nn D base 4 (by omega) i hi, decide_eq_true (show i / 16 < 4 by omega), decide_eq_true h1, h2]
  rfl
theorem go_fit {nn md : Nat} {D : Nat → Bool} {base v : Nat} {x : Int64} {x9 : Int32} (h : go_sub nn D base x) (hK : ∀ z b, b < 16 → D (z * 16 + b) = true → b < md) (hm : ∀ i, i < 32 → bt x9 i = decide (i < md)) (hv : v < 4) : (((((x.toUInt64 >>> ((nI (16 * v)).toInt64.toUInt64 &&& Int64.toUInt64 63)).toInt64).toInt32) &&& 65535) &&& (x9 ^^^ (-1))) = 0 := by
  apply b_ext
  intro i hi
  rw [b_and, b_and, b_xor, b_65535, b_m1 i hi, b_0, go_bl32 _ hi, go_blushr (16 * v) (by omega), hm i hi]
  by_cases q : i < 16
  · cases hb : go_bl x (16 * v + i) with
    | false => rw [Bool.false_and, Bool.false_and]
    | true =>
      obtain ⟨h1, h2⟩ := h (16 * v + i) (by omega) hb
      rw [show (16 * v + i) / 16 = v by omega, show (16 * v + i) % 16 = i by omega] at h2
      rw [decide_eq_true (hK _ i q h2)]
      simp
  · rw [decide_eq_false q, Bool.and_false, Bool.false_and]
