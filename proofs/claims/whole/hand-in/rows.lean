section
theorem pk_us {f : Nat → Int32} {k : Nat} {x : Int32} : upd f k x k = x := if_pos rfl
theorem pk_un {f : Nat → Int32} {k j : Nat} {x : Int32} (h : j ≠ k) : upd f k x j = f j := if_neg h
theorem pk_sub {a b : Nat} (h : b ≤ a) : nI a - nI b = nI (a - b) := by
  obtain ⟨c, rfl⟩ : ∃ c, a = c + b := ⟨a - b, by omega⟩
  rw [← nI_add, Int32.add_sub_cancel, Nat.add_sub_cancel]
theorem pk_m1 (n : Nat) : nI (n + 1) + (-1) = nI n := by
  rw [← nI_1, Int32.add_assoc, show (1 : Int32) + (-1) = 0 from rfl, Int32.add_zero]
theorem pk_mul (a b : Nat) : nI a * nI b = nI (a * b) := (Int32.ofNat_mul a b).symm
theorem pk_ix (x : Int32) {n : Nat} (hn : n < 2 ^ 31) : x < 0 ∨ nI n ≤ x ∨ ∃ j : Nat, j < n ∧ x = nI j := by
  by_cases h : x < 0
  · exact Or.inl h
  · obtain ⟨j, hj, rfl⟩ := nI_of h
    by_cases h2 : j < n
    · exact Or.inr (Or.inr ⟨j, h2, rfl⟩)
    · exact Or.inr (Or.inl (nI_le (by omega) hj))
theorem pk_le {x y : Int32} {A B : Prop} (a b : Nat) (f : a ≤ b → A) (g : b < a → B) (hx : x = nI a := by rfl) (hy : y = nI b := by rfl) (ha : a < 2 ^ 31 := by omega) (hb : b < 2 ^ 31 := by omega) : (x ≤ y → A) ∧ (¬ x ≤ y → B) := by
  subst hx hy
  rw [nI_leI ha hb]
  exact ⟨f, fun z => g (by omega)⟩
theorem pk_lt {x y : Int32} {A B : Prop} (a b : Nat) (f : a < b → A) (g : b ≤ a → B) (hx : x = nI a := by rfl) (hy : y = nI b := by rfl) (ha : a < 2 ^ 31 := by omega) (hb : b < 2 ^ 31 := by omega) : (x < y → A) ∧ (¬ x < y → B) := by
  subst hx hy
  rw [nI_ltI ha hb]
  exact ⟨f, fun z => g (by omega)⟩
theorem pk_eq {x y : Int32} {A B : Prop} (a b : Nat) (f : a = b → A) (g : a ≠ b → B) (hx : x = nI a := by rfl) (hy : y = nI b := by rfl) (ha : a < 2 ^ 31 := by omega) (hb : b < 2 ^ 31 := by omega) : (x = y → A) ∧ (¬ x = y → B) := by
  subst hx hy
  rw [nI_eq ha hb]
  exact ⟨f, g⟩
theorem pk_in {x : Int32} (n N : Nat) (h : n < N) (hx : x = nI n := by rfl) (hN : N < 2 ^ 31 := by omega) : vp_in x N := by
  subst hx
  exact vp_in_nI h hN
theorem pk_cl {x : Int32} (n : Nat) (hx : x = nI n := by rfl) (h : n < 2 ^ 31 := by omega) : x.toNatClampNeg = n := by
  subst hx
  exact nI_clamp h
theorem pk_tn {n : Nat} (h : n < 2 ^ 32) : (nI n).toBitVec.toNat = n := Nat.mod_eq_of_lt h
theorem pk_and (x : Int32) {m : Int32} (k : Nat) (hm : m.toBitVec.toNat = 2 ^ k - 1) : x &&& m = nI (x.toBitVec.toNat % 2 ^ k) := by
  apply Int32.toBitVec_inj.mp
  apply BitVec.eq_of_toNat_eq
  rw [Int32.toBitVec_and, BitVec.toNat_and, hm, Nat.and_two_pow_sub_one_eq_mod]
  show _ = (BitVec.ofNat 32 _).toNat
  rw [BitVec.toNat_ofNat]
  exact (Nat.mod_eq_of_lt (Nat.lt_of_le_of_lt (Nat.mod_le _ _) x.toBitVec.isLt)).symm
theorem pk_andN {n : Nat} (h : n < 2 ^ 32) {m : Int32} (k : Nat) (hm : m.toBitVec.toNat = 2 ^ k - 1) : nI n &&& m = nI (n % 2 ^ k) := by
  rw [pk_and _ k hm, pk_tn h]
theorem pk_andE (x : Int32) {m : Int32} (k : Nat) (hm : m.toBitVec.toNat = 2 ^ k - 1) : ∃ j : Nat, j < 2 ^ k ∧ x &&& m = nI j := ⟨_, Nat.mod_lt _ (Nat.two_pow_pos k), pk_and x k hm⟩
theorem pk_andIn (x : Int32) {m : Int32} (k : Nat) (hm : m.toBitVec.toNat = 2 ^ k - 1) (hk : k ≤ 30) : vp_in (x &&& m) (2 ^ k) := by
  obtain ⟨j, hj, e⟩ := pk_andE x k hm
  rw [e]
  exact vp_in_nI hj (Nat.lt_of_le_of_lt (Nat.pow_le_pow_right (by decide) hk) (by decide))
theorem pk_shl (a s : Int32) (k : Nat) (hs : (s.toBitVec.smod 32).toNat = k) : (a <<< s).toBitVec.toNat = a.toBitVec.toNat * 2 ^ k % 2 ^ 32 := by
  show (a.toBitVec <<< (s.toBitVec.smod 32).toNat).toNat = _
  rw [hs, BitVec.toNat_shiftLeft, Nat.shiftLeft_eq]
theorem pk_shlN {n : Nat} (s : Int32) (k : Nat) (hs : (s.toBitVec.smod 32).toNat = k) (h : n * 2 ^ k < 2 ^ 32) : nI n <<< s = nI (n * 2 ^ k) := by
  apply Int32.toBitVec_inj.mp
  apply BitVec.eq_of_toNat_eq
  have hn : n < 2 ^ 32 := Nat.lt_of_le_of_lt (Nat.le_mul_of_pos_right n (Nat.two_pow_pos k)) h
  rw [pk_shl _ _ k hs, pk_tn hn, pk_tn h, Nat.mod_eq_of_lt h]
theorem pk_shr (a s : Int32) (k : Nat) (hs : (s.toBitVec.smod 32).toNat = k) : (a >>> s).toInt = a.toInt >>> k := by
  show (a.toBitVec.sshiftRight (s.toBitVec.smod 32).toNat).toInt = _
  rw [hs, BitVec.toInt_sshiftRight]
  rfl
theorem pk_shrN {n : Nat} (h : n < 2 ^ 31) (s : Int32) (k : Nat) (hs : (s.toBitVec.smod 32).toNat = k) : nI n >>> s = nI (n / 2 ^ k) := by
  apply Int32.toInt_inj.mp
  have h2 : n / 2 ^ k ≤ n := Nat.div_le_self _ _
  rw [pk_shr _ _ k hs, nI_toInt h, nI_toInt (by omega), Int.shiftRight_eq_div_pow]
  rfl
def bt (x : Int32) (i : Nat) : Bool := x.toBitVec.getLsbD i
theorem b_ext {x y : Int32} (h : ∀ i, i < 32 → bt x i = bt y i) : x = y := Int32.toBitVec_inj.mp (BitVec.eq_of_getLsbD_eq (fun i hi => h i hi))
theorem b_or (x y : Int32) (i : Nat) : bt (x ||| y) i = (bt x i || bt y i) := by unfold bt; rw [Int32.toBitVec_or, BitVec.getLsbD_or]
theorem b_and (x y : Int32) (i : Nat) : bt (x &&& y) i = (bt x i && bt y i) := by unfold bt; rw [Int32.toBitVec_and, BitVec.getLsbD_and]
theorem b_xor (x y : Int32) (i : Nat) : bt (x ^^^ y) i = (bt x i ^^ bt y i) := by unfold bt; rw [Int32.toBitVec_xor, BitVec.getLsbD_xor]
theorem b_big {x : Int32} {i : Nat} (h : 32 ≤ i) : bt x i = false := BitVec.getLsbD_of_ge _ _ h
theorem b_65535 (i : Nat) : bt 65535 i = decide (i < 16) := by
  rcases Nat.lt_or_ge i 32 with h | h
  · exact (by decide +kernel : ∀ i, i < 32 → bt 65535 i = decide (i < 16)) i h
  · rw [b_big h, decide_eq_false (by omega)]
theorem b_m1 : ∀ i, i < 32 → bt (-1) i = true := by decide +kernel
theorem b_0 (i : Nat) : bt 0 i = false := BitVec.getLsbD_zero
theorem s_l : ∀ n, n < 32 → ((nI n &&& 31).toBitVec.smod 32).toNat = n := by decide +kernel
theorem b_shl (n : Nat) (hn : n < 32) (x : Int32) {i : Nat} (hi : i < 32) : bt (x <<< (nI n &&& 31)) i = (decide (n ≤ i) && bt x (i - n)) := by
  unfold bt
  rw [Int32.toBitVec_shiftLeft]
  show (x.toBitVec <<< ((nI n &&& 31).toBitVec.smod 32).toNat).getLsbD i = _
  rw [s_l n hn, BitVec.getLsbD_shiftLeft]
  rcases Nat.lt_or_ge i n with h | h
  · simp [h, Nat.not_le.mpr h]
  · simp [hi, h, Nat.not_lt.mpr h]
theorem b_sshr (n : Nat) (hn : n < 32) (x : Int32) {i : Nat} (hi : i < 32) : bt (x >>> (nI n &&& 31)) i = if n + i < 32 then bt x (n + i) else bt x 31 := by
  unfold bt
  rw [Int32.toBitVec_shiftRight]
  show (x.toBitVec.sshiftRight ((nI n &&& 31).toBitVec.smod 32).toNat).getLsbD i = _
  rw [s_l n hn, BitVec.getLsbD_sshiftRight, BitVec.msb_eq_getLsbD_last]
  simp [hi]
end
section
def go_up {α : Type} (f : Nat → α) (k : Nat) (x : α) : Nat → α := fun j => if j = k then x else f j
theorem go_us {α : Type} {f : Nat → α} {k : Nat} {x : α} : go_up f k x k = x := if_pos rfl
theorem go_un {α : Type} {f : Nat → α} {k j : Nat} {x : α} (h : j ≠ k) : go_up f k x j = f j := if_neg h
theorem go_ui {α : Type} (f : Nat → α) (k : Nat) : go_up f k (f k) = f := by
  funext j
  by_cases h : j = k
  · rw [h]; exact go_us
  · exact go_un h
def go_z {α : Type} (f : Nat → α) (v : α) (lo hi : Nat) : Nat → α := fun j => if lo ≤ j ∧ j < hi then v else f j
theorem go_z0 {α : Type} (f : Nat → α) (v : α) (lo : Nat) : go_z f v lo lo = f := funext fun j => if_neg (by omega)
theorem go_zs {α : Type} (f : Nat → α) (v : α) {lo hi : Nat} (h : lo ≤ hi) : go_up (go_z f v lo hi) hi v = go_z f v lo (hi + 1) := by
  funext j
  unfold go_up go_z
  by_cases e : j = hi
  · rw [if_pos e, if_pos (by omega)]
  · rw [if_neg e]
    by_cases g : lo ≤ j ∧ j < hi
    · rw [if_pos g, if_pos (by omega)]
    · rw [if_neg g, if_neg (by omega)]
def go_sh (f : Nat → Nat) (lo hi : Nat) : Nat → Nat := fun t => if lo ≤ t ∧ t < hi then f (t + 1) else f t
theorem go_sh0 (f : Nat → Nat) (lo : Nat) : go_sh f lo lo = f := funext fun j => if_neg (by omega)
theorem go_shs (f : Nat → Nat) {lo hi : Nat} (h : lo ≤ hi) : go_up (go_sh f lo hi) hi (f (hi + 1)) = go_sh f lo (hi + 1) := by
  funext j
  unfold go_up go_sh
  by_cases e : j = hi
  · rw [if_pos e, if_pos (by omega), e]
  · rw [if_neg e]
    by_cases g : lo ≤ j ∧ j < hi
    · rw [if_pos g, if_pos (by omega)]
    · rw [if_neg g, if_neg (by omega)]
theorem go_shr (f : Nat → Nat) {lo hi t : Nat} (h : hi ≤ t) : go_sh f lo hi t = f t := if_neg (by omega)
def go_N (f : Nat → Nat) : Nat → Int32 := fun j => nI (f j)
def go_c (b : Bool) : Int32 := cond b 1 0
def go_B (b : Nat → Bool) : Nat → Int32 := fun j => go_c (b j)
theorem go_Nu (f : Nat → Nat) (k x : Nat) : upd (go_N f) k (nI x) = go_N (go_up f k x) := by
  funext j
  unfold upd go_N go_up
  split <;> rfl
theorem go_Bu (b : Nat → Bool) (k : Nat) (x : Bool) : upd (go_B b) k (go_c x) = go_B (go_up b k x) := by
  funext j
  unfold upd go_B go_up
  split <;> rfl
theorem go_rN {e : Int32} (f : Nat → Nat) (j : Nat) (he : e = nI j) (hj : j < 2 ^ 31) : go_N f e.toNatClampNeg = nI (f j) := by
  subst he
  show nI (f _) = _
  rw [nI_clamp hj]
theorem go_rB {e : Int32} (b : Nat → Bool) (j : Nat) (he : e = nI j) (hj : j < 2 ^ 31) : go_B b e.toNatClampNeg = go_c (b j) := by
  subst he
  show go_c (b _) = _
  rw [nI_clamp hj]
theorem go_c0 {b : Bool} : go_c b = 0 ↔ b = false := by
  cases b
  · exact ⟨fun _ => rfl, fun _ => rfl⟩
  · exact ⟨fun h => absurd h (by decide), fun h => nomatch h⟩
theorem go_bz {e : Int32} (b : Nat → Bool) (j : Nat) (h : b j = false) (he : e = nI j := by rfl) (hj : j < 2 ^ 31 := by omega) : go_B b e.toNatClampNeg = 0 := by
  rw [go_rB b j he hj, h]; rfl
theorem go_bn {e : Int32} (b : Nat → Bool) (j : Nat) (h : b j = true) (he : e = nI j := by rfl) (hj : j < 2 ^ 31 := by omega) : ¬ go_B b e.toNatClampNeg = 0 := by
  rw [go_rB b j he hj, h]; decide
theorem go_brB {e : Int32} {A B : Prop} (b : Nat → Bool) (j : Nat) (f : b j = false → A) (g : b j = true → B) (he : e = nI j := by rfl) (hj : j < 2 ^ 31 := by omega) : (go_B b e.toNatClampNeg = 0 → A) ∧ (¬ go_B b e.toNatClampNeg = 0 → B) := by
  cases h : b j with
  | false => exact br_t (go_bz b j h he hj) (f h)
  | true => exact br_f (go_bn b j h he hj) (g h)
theorem go_ix (x s i : Nat) : nI x * nI s + nI i = nI (x * s + i) := by rw [pk_mul, nI_add]
/-! bits -/
theorem go_b1 : ∀ j, j < 32 → bt 1 j = decide (j = 0) := by decide +kernel
theorem go_1b (k : Nat) (hk : k < 32) {i : Nat} (hi : i < 32) : bt ((1 : Int32) <<< (nI k &&& 31)) i = decide (i = k) := by
  rw [b_shl k hk 1 hi]
  by_cases h : k ≤ i
  · rw [go_b1 (i - k) (by omega), decide_eq_true h, Bool.true_and]
    exact decide_eq_decide.mpr (by omega)
  · rw [decide_eq_false h, Bool.false_and]
    exact (decide_eq_false (by omega)).symm
theorem go_bit (m : Int32) (p : Nat) (hp : p < 32) : (m &&& ((1 : Int32) <<< (nI p &&& 31))) = 0 ↔ bt m p = false := by
  constructor
  · intro h
    have e := congrArg (fun z => bt z p) h
    simp only [b_and, b_0, go_1b p hp hp] at e
    simpa using e
  · intro h
    apply b_ext
    intro i hi
    rw [b_and, b_0, go_1b p hp hi]
    by_cases e : i = p
    · rw [e, h, Bool.false_and]
    · rw [decide_eq_false e, Bool.and_false]
def go_m (f : Nat → Bool) : Nat → Int32
  | 0 => 0
  | k + 1 => cond (f k) (go_m f k ||| ((1 : Int32) <<< (nI k &&& 31))) (go_m f k)
theorem go_mb (f : Nat → Bool) : ∀ k, k ≤ 32 → ∀ i, i < 32 → bt (go_m f k) i = (decide (i < k) && f i) := by
  intro k
  induction k with
  | zero =>
    intro _ i _
    show bt 0 i = _
    rw [b_0, decide_eq_false (by omega), Bool.false_and]
  | succ k ih =>
    intro hk i hi
    show bt (cond (f k) (go_m f k ||| ((1 : Int32) <<< (nI k &&& 31))) (go_m f k)) i = _
    cases hf : f k with
    | false =>
      show bt (go_m f k) i = _
      rw [ih (by omega) i hi]
      by_cases e : i = k
      · rw [e, hf, Bool.and_false, Bool.and_false]
      · rw [decide_eq_decide.mpr (show i < k ↔ i < k + 1 by omega)]
    | true =>
      show bt (go_m f k ||| ((1 : Int32) <<< (nI k &&& 31))) i = _
      rw [b_or, ih (by omega) i hi, go_1b k (by omega) hi]
      by_cases e : i = k
      · rw [e, hf, decide_eq_true (show k < k + 1 by omega), decide_eq_true (rfl : k = k), Bool.or_true]; rfl
      · rw [decide_eq_false e, Bool.or_false, decide_eq_decide.mpr (show i < k ↔ i < k + 1 by omega)]
theorem go_mc {f g : Nat → Bool} : ∀ k, (∀ i, i < k → f i = g i) → go_m f k = go_m g k := by
  intro k
  induction k with
  | zero => intro _; rfl
  | succ k ih =>
    intro h
    unfold go_m
    rw [h k (by omega), ih (fun i hi => h i (by omega))]
def go_M (b : Nat → Bool) : Nat → Int32 := fun c => go_m (fun p => b (c * 16 + p)) 16
theorem go_Mb (b : Nat → Bool) (c i : Nat) (hi : i < 32) : bt (go_M b c) i = (decide (i < 16) && b (c * 16 + i)) := go_mb _ 16 (by omega) i hi
theorem go_Mu (b b' : Nat → Bool) (c : Nat) (v : Int32) (hv : ∀ i, i < 32 → bt v i = (decide (i < 16) && b' (c * 16 + i))) (ho : ∀ j, j / 16 ≠ c → b' j = b j) : upd (go_M b) c v = go_M b' := by
  funext j
  by_cases h : j = c
  · rw [h, pk_us]
    apply b_ext
    intro i hi
    rw [hv i hi, go_Mb b' c i hi]
  · rw [pk_un h]
    exact go_mc 16 (fun i hi => (ho (j * 16 + i) (by omega)).symm)
theorem go_Mset (b : Nat → Bool) (c p : Nat) (hp : p < 16) : upd (go_M b) c (go_M b c ||| ((1 : Int32) <<< (nI p &&& 31))) = go_M (go_up b (c * 16 + p) true) := by
  apply go_Mu
  · intro i hi
    rw [b_or, go_Mb b c i hi, go_1b p (by omega) hi]
    by_cases e : i = p
    · rw [e, go_us, decide_eq_true (rfl : p = p), Bool.or_true, decide_eq_true hp]; rfl
    · rw [decide_eq_false e, Bool.or_false, go_un (by omega)]
  · intro j hj
    exact go_un (by omega)
theorem go_Mclr (b : Nat → Bool) (c p : Nat) (hp : p < 16) : upd (go_M b) c (go_M b c &&& (((1 : Int32) <<< (nI p &&& 31)) ^^^ (-1))) = go_M (go_up b (c * 16 + p) false) := by
  apply go_Mu
  · intro i hi
    rw [b_and, b_xor, b_m1 i hi, go_Mb b c i hi, go_1b p (by omega) hi]
    by_cases e : i = p
    · rw [e, go_us, decide_eq_true (rfl : p = p), Bool.and_false]
      exact Bool.and_false _
    · rw [decide_eq_false e, go_un (by omega)]
      exact Bool.and_true _
  · intro j hj
    exact go_un (by omega)
theorem go_Mz (b : Nat → Bool) (c : Nat) : upd (go_M b) c 0 = go_M (go_z b false (c * 16) (c * 16 + 16)) := by
  apply go_Mu
  · intro i hi
    rw [b_0]
    by_cases e : i < 16
    · rw [show go_z b false (c * 16) (c * 16 + 16) (c * 16 + i) = false from if_pos (by omega), Bool.and_false]
    · rw [decide_eq_false e, Bool.false_and]
  · intro j hj
    exact if_neg (by omega)
theorem go_M0 (b : Nat → Bool) (c : Nat) : go_M b c = 0 ↔ ∀ p, p < 16 → b (c * 16 + p) = false := by
  constructor
  · intro h p hp
    have e := go_Mb b c p (by omega)
    rw [h, b_0, decide_eq_true hp, Bool.true_and] at e
    exact e.symm
  · intro h
    apply b_ext
    intro i hi
    rw [go_Mb b c i hi, b_0]
    by_cases e : i < 16
    · rw [h i e, Bool.and_false]
    · rw [decide_eq_false e, Bool.false_and]
theorem go_Mt (b : Nat → Bool) (c p : Nat) (hp : p < 16) : (go_M b c &&& ((1 : Int32) <<< (nI p &&& 31))) = 0 ↔ b (c * 16 + p) = false := by
  rw [go_bit _ p (by omega), go_Mb b c p (by omega), decide_eq_true hp, Bool.true_and]
theorem go_16 {x : Int32} (h : ∀ i, 16 ≤ i → i < 32 → bt x i = false) : ∃ m, m < 65536 ∧ x = nI m := by
  have e : x = x &&& 65535 := by
    apply b_ext
    intro i hi
    rw [b_and, b_65535]
    by_cases g : i < 16
    · rw [decide_eq_true g, Bool.and_true]
    · rw [decide_eq_false g, Bool.and_false]
      exact h i (by omega) hi
  obtain ⟨j, hj, ej⟩ := pk_andE x (m := 65535) 16 (by decide)
  exact ⟨j, Nat.lt_of_lt_of_le hj (by decide), e.trans ej⟩
theorem go_n16 {m : Nat} (hm : m < 65536) {i : Nat} (h1 : 16 ≤ i) : bt (nI m) i = false := by
  have e := pk_andN (n := m) (by omega) (m := 65535) 16 (by decide)
  rw [Nat.mod_eq_of_lt (show m < 2 ^ 16 from hm)] at e
  rw [← e, b_and, b_65535, decide_eq_false (by omega), Bool.and_false]
theorem go_Mn (b : Nat → Bool) (c : Nat) : ∃ m, m < 65536 ∧ go_M b c = nI m := go_16 (fun i h1 h2 => by rw [go_Mb b c i h2, decide_eq_false (by omega), Bool.false_and])
theorem go_or (a b : Nat) : nI a ||| nI b = nI (a ||| b) := by
  apply Int32.toBitVec_inj.1
  show BitVec.ofNat 32 a ||| BitVec.ofNat 32 b = BitVec.ofNat 32 (a ||| b)
  exact BitVec.ofNat_or.symm
theorem go_code (k x y a : Nat) (hk0 : 0 < k) (hk : k < 128) (hx : x < 16) (hy : y < 16) (ha : a < 65536) : ∃ c, 0 < c ∧ c < 2 ^ 31 ∧ (((nI k <<< ((24 : Int32) &&& 31)) ||| (nI x <<< ((20 : Int32) &&& 31))) ||| (nI y <<< ((16 : Int32) &&& 31))) ||| nI a = nI c := by
  rw [pk_shlN (n := k) ((24 : Int32) &&& 31) 24 (by decide) (by omega), pk_shlN (n := x) ((20 : Int32) &&& 31) 20 (by decide) (by omega), pk_shlN (n := y) ((16 : Int32) &&& 31) 16 (by decide) (by omega), go_or, go_or, go_or]
  refine ⟨_, ?_, ?_, rfl⟩
  · exact Nat.lt_of_lt_of_le (show 0 < k * 2 ^ 24 by omega) (Nat.le_trans Nat.left_le_or (Nat.le_trans Nat.left_le_or Nat.left_le_or))
  · exact Nat.or_lt_two_pow (Nat.or_lt_two_pow (Nat.or_lt_two_pow (by omega) (by omega)) (by omega)) (by omega)
theorem go_fj (w t : Nat) (hw : w < 16) (ht : t < 16) : ∃ a, a < 65536 ∧ nI w ||| (nI t <<< ((4 : Int32) &&& 31)) = nI a := by
  rw [pk_shlN (n := t) ((4 : Int32) &&& 31) 4 (by decide) (by omega), go_or]
  exact ⟨_, Nat.or_lt_two_pow (n := 16) (by omega) (by omega), rfl⟩
theorem go_j48 (w : Nat) (hw : w < 16) : ∃ a, a < 65536 ∧ nI w ||| 48 = nI a := ⟨_, Nat.or_lt_two_pow (n := 16) (y := 48) (by omega) (by omega), go_or w 48⟩
def go_w (f : Nat → Nat) (s : Nat) : Nat → Int32
  | 0 => 0
  | k + 1 => go_w f s k ||| ((1 : Int32) <<< (nI (f (s + k)) &&& 31))
theorem go_w16 {f : Nat → Nat} (hf : ∀ j, f j < 16) (s : Nat) : ∀ k i, 16 ≤ i → i < 32 → bt (go_w f s k) i = false := by
  intro k
  induction k with
  | zero => intro i _ _; exact b_0 i
  | succ k ih =>
    intro i h1 h2
    have := hf (s + k)
    show bt (go_w f s k ||| ((1 : Int32) <<< (nI (f (s + k)) &&& 31))) i = false
    rw [b_or, ih i h1 h2, go_1b _ (by omega) h2, decide_eq_false (by omega)]
    rfl
theorem go_oz (x : Int32) : 0 ||| x = x := b_ext fun i _ => by rw [b_or, b_0, Bool.false_or]
theorem go_zo (x : Int32) : x ||| 0 = x := b_ext fun i _ => by rw [b_or, b_0, Bool.or_false]
theorem go_oa (x y z : Int32) : (x ||| y) ||| z = x ||| (y ||| z) := b_ext fun i _ => by rw [b_or, b_or, b_or, b_or, Bool.or_assoc]
theorem go_oc (x y : Int32) : x ||| y = y ||| x := b_ext fun i _ => by rw [b_or, b_or, Bool.or_comm]
theorem go_first (p : Nat → Prop) (l : Nat) : (∀ i, i < l → ¬ p i) ∨ ∃ i, i < l ∧ p i ∧ ∀ j, j < i → ¬ p j := by
  induction l with
  | zero => exact Or.inl (fun i hi => absurd hi (by omega))
  | succ l ih =>
    rcases ih with h | ⟨i, hi, hp, hj⟩
    · by_cases g : p l
      · exact Or.inr ⟨l, by omega, g, h⟩
      · refine Or.inl (fun i hi => ?_)
        by_cases e : i = l
        · rw [e]; exact g
        · exact h i (by omega)
    · exact Or.inr ⟨i, by omega, hp, hj⟩
/-! the pool -/
def go_S (U : Nat → Bool) (C : Nat → Nat) : Nat → Int32 := fun s => cond (U s) (nI (C s)) 0
def go_IS (U : Nat → Bool) (C : Nat → Nat) : Prop := ∀ s, C s < 2 ^ 31 ∧ (U s = true → 0 < C s)
theorem go_St (U : Nat → Bool) (C : Nat → Nat) (s c : Nat) : upd (go_S U C) s (nI c) = go_S (go_up U s true) (go_up C s c) := by
  funext j
  unfold upd go_S go_up
  split <;> rfl
theorem go_Sf (U : Nat → Bool) (C : Nat → Nat) (s : Nat) : upd (go_S U C) s 0 = go_S (go_up U s false) C := by
  funext j
  unfold upd go_S go_up
  split <;> rfl
theorem go_S0 {U : Nat → Bool} {C : Nat → Nat} (I : go_IS U C) {e : Int32} (s : Nat) (he : e = nI s := by rfl) (hs : s < 2 ^ 31 := by omega) : go_S U C e.toNatClampNeg = 0 ↔ U s = false := by
  subst he
  rw [nI_clamp hs]
  unfold go_S
  obtain ⟨h1, h2⟩ := I s
  cases h : U s with
  | false => exact ⟨fun _ => rfl, fun _ => rfl⟩
  | true => exact ⟨fun z => absurd z (nI_ne0 (h2 h) h1), fun z => nomatch z⟩
theorem go_ISt {U : Nat → Bool} {C : Nat → Nat} (I : go_IS U C) (s c : Nat) (h0 : 0 < c) (hc : c < 2 ^ 31) : go_IS (go_up U s true) (go_up C s c) := by
  intro j
  by_cases e : j = s
  · rw [e, go_us, go_us]; exact ⟨hc, fun _ => h0⟩
  · rw [go_un e, go_un e]; exact I j
theorem go_ISf {U : Nat → Bool} {C : Nat → Nat} (I : go_IS U C) (s : Nat) : go_IS (go_up U s false) C := by
  intro j
  by_cases e : j = s
  · rw [e, go_us]; exact ⟨(I s).1, fun z => nomatch z⟩
  · rw [go_un e]; exact I j
end
section
def go_IV4 (cap : Nat) (A L : Nat → Nat) : Prop := (∀ j, A j < 16) ∧ (∀ x, L x ≤ cap) ∧ (∀ x i j, i < j → j < L x → A (x * 4 + i) ≠ A (x * 4 + j))
theorem go_rm4_at {A : Nat → Nat} {x l i0 : Nat} (hi : i0 < l) {t : Nat} (ht : t < l - 1) : go_sh A (x * 4 + i0) (x * 4 + (l - 1)) (x * 4 + t) = A (x * 4 + (if t < i0 then t else t + 1)) := by
  unfold go_sh
  by_cases g : t < i0
  · rw [if_neg (by omega), if_pos g]
  · rw [if_pos (by omega), if_neg g]; rfl
theorem go_rm4_o {A : Nat → Nat} {x z l i0 i : Nat} (hl : l ≤ 4) (hi : i < 4) (h : z ≠ x) : go_sh A (x * 4 + i0) (x * 4 + (l - 1)) (z * 4 + i) = A (z * 4 + i) := if_neg (by omega)
theorem go_rm4 {cap : Nat} {A L : Nat → Nat} {x i0 : Nat} (hc : cap ≤ 4) (I : go_IV4 cap A L) (hi : i0 < L x) : go_IV4 cap (go_sh A (x * 4 + i0) (x * 4 + (L x - 1))) (go_up L x (L x - 1)) := by
  obtain ⟨h1, h2, h3⟩ := I
  have hl := h2 x
  refine ⟨?_, ?_, ?_⟩
  · intro j
    unfold go_sh
    split
    · exact h1 _
    · exact h1 _
  · intro z
    by_cases e : z = x
    · rw [e, go_us]; omega
    · rw [go_un e]; exact h2 z
  · intro z i j hij hj
    by_cases e : z = x
    · rw [e, go_us] at hj
      rw [e, go_rm4_at hi (by omega), go_rm4_at hi hj]
      refine h3 x _ _ ?_ ?_
      · split <;> split <;> omega
      · split <;> omega
    · rw [go_un e] at hj
      have hz := h2 z
      rw [go_rm4_o (by omega) (by omega) e, go_rm4_o (by omega) (by omega) e]
      exact h3 z i j hij hj
theorem go_ap4 {cap : Nat} {A L : Nat → Nat} {x y : Nat} (hc : cap ≤ 4) (I : go_IV4 cap A L) (hl : L x < cap) (hy : y < 16) (hn : ∀ i, i < L x → A (x * 4 + i) ≠ y) : go_IV4 cap (go_up A (x * 4 + L x) y) (go_up L x (L x + 1)) := by
  obtain ⟨h1, h2, h3⟩ := I
  refine ⟨?_, ?_, ?_⟩
  · intro j
    by_cases e : j = x * 4 + L x
    · rw [e, go_us]; exact hy
    · rw [go_un e]; exact h1 j
  · intro z
    by_cases e : z = x
    · rw [e, go_us]; omega
    · rw [go_un e]; exact h2 z
  · intro z i j hij hj
    by_cases e : z = x
    · rw [e, go_us] at hj
      rw [e, go_un (show x * 4 + i ≠ x * 4 + L x by omega)]
      by_cases g : j = L x
      · rw [g, go_us]; exact hn i (by omega)
      · rw [go_un (show x * 4 + j ≠ x * 4 + L x by omega)]; exact h3 x i j hij (by omega)
    · rw [go_un e] at hj
      have hz := h2 z
      rw [go_un (show z * 4 + i ≠ x * 4 + L x by omega), go_un (show z * 4 + j ≠ x * 4 + L x by omega)]
      exact h3 z i j hij hj
theorem go_cl4 {cap : Nat} {A L : Nat → Nat} (I : go_IV4 cap A L) (x : Nat) : go_IV4 cap A (go_up L x 0) := by
  obtain ⟨h1, h2, h3⟩ := I
  refine ⟨h1, ?_, ?_⟩
  · intro z
    by_cases e : z = x
    · rw [e, go_us]; omega
    · rw [go_un e]; exact h2 z
  · intro z i j hij hj
    by_cases e : z = x
    · rw [e, go_us] at hj; omega
    · rw [go_un e] at hj; exact h3 z i j hij hj
def go_IV8 (cap : Nat) (A L : Nat → Nat) : Prop := (∀ j, A j < 16) ∧ (∀ x, L x ≤ cap) ∧ (∀ x i j, i < j → j < L x → A (x * 8 + i) ≠ A (x * 8 + j))
theorem go_rm8_at {A : Nat → Nat} {x l i0 : Nat} (hi : i0 < l) {t : Nat} (ht : t < l - 1) : go_sh A (x * 8 + i0) (x * 8 + (l - 1)) (x * 8 + t) = A (x * 8 + (if t < i0 then t else t + 1)) := by
  unfold go_sh
  by_cases g : t < i0
  · rw [if_neg (by omega), if_pos g]
  · rw [if_pos (by omega), if_neg g]; rfl
theorem go_rm8_o {A : Nat → Nat} {x z l i0 i : Nat} (hl : l ≤ 8) (hi : i < 8) (h : z ≠ x) : go_sh A (x * 8 + i0) (x * 8 + (l - 1)) (z * 8 + i) = A (z * 8 + i) := if_neg (by omega)
theorem go_rm8 {cap : Nat} {A L : Nat → Nat} {x i0 : Nat} (hc : cap ≤ 8) (I : go_IV8 cap A L) (hi : i0 < L x) : go_IV8 cap (go_sh A (x * 8 + i0) (x * 8 + (L x - 1))) (go_up L x (L x - 1)) := by
  obtain ⟨h1, h2, h3⟩ := I
  have hl := h2 x
  refine ⟨?_, ?_, ?_⟩
  · intro j
    unfold go_sh
    split
    · exact h1 _
    · exact h1 _
  · intro z
    by_cases e : z = x
    · rw [e, go_us]; omega
    · rw [go_un e]; exact h2 z
  · intro z i j hij hj
    by_cases e : z = x
    · rw [e, go_us] at hj
      rw [e, go_rm8_at hi (by omega), go_rm8_at hi hj]
      refine h3 x _ _ ?_ ?_
      · split <;> split <;> omega
      · split <;> omega
    · rw [go_un e] at hj
      have hz := h2 z
      rw [go_rm8_o (by omega) (by omega) e, go_rm8_o (by omega) (by omega) e]
      exact h3 z i j hij hj
theorem go_ap8 {cap : Nat} {A L : Nat → Nat} {x y : Nat} (hc : cap ≤ 8) (I : go_IV8 cap A L) (hl : L x < cap) (hy : y < 16) (hn : ∀ i, i < L x → A (x * 8 + i) ≠ y) : go_IV8 cap (go_up A (x * 8 + L x) y) (go_up L x (L x + 1)) := by
  obtain ⟨h1, h2, h3⟩ := I
  refine ⟨?_, ?_, ?_⟩
  · intro j
    by_cases e : j = x * 8 + L x
    · rw [e, go_us]; exact hy
    · rw [go_un e]; exact h1 j
  · intro z
    by_cases e : z = x
    · rw [e, go_us]; omega
    · rw [go_un e]; exact h2 z
  · intro z i j hij hj
    by_cases e : z = x
    · rw [e, go_us] at hj
      rw [e, go_un (show x * 8 + i ≠ x * 8 + L x by omega)]
      by_cases g : j = L x
      · rw [g, go_us]; exact hn i (by omega)
      · rw [go_un (show x * 8 + j ≠ x * 8 + L x by omega)]; exact h3 x i j hij (by omega)
    · rw [go_un e] at hj
      have hz := h2 z
      rw [go_un (show z * 8 + i ≠ x * 8 + L x by omega), go_un (show z * 8 + j ≠ x * 8 + L x by omega)]
      exact h3 z i j hij hj
theorem go_cl8 {cap : Nat} {A L : Nat → Nat} (I : go_IV8 cap A L) (x : Nat) : go_IV8 cap A (go_up L x 0) := by
  obtain ⟨h1, h2, h3⟩ := I
  refine ⟨h1, ?_, ?_⟩
  · intro z
    by_cases e : z = x
    · rw [e, go_us]; omega
    · rw [go_un e]; exact h2 z
  · intro z i j hij hj
    by_cases e : z = x
    · rw [e, go_us] at hj; omega
    · rw [go_un e] at hj; exact h3 z i j hij hj
/-- the eager set is a part of the active view -/
def go_IE (A L : Nat → Nat) (E : Nat → Bool) : Prop := ∀ x p, p < 16 → E (x * 16 + p) = true → ∃ i, i < L x ∧ A (x * 4 + i) = p
theorem go_rmE {cap : Nat} {A L : Nat → Nat} {E : Nat → Bool} {x y i0 : Nat} (hc : cap ≤ 4) (I : go_IV4 cap A L) (J : go_IE A L E) (hi : i0 < L x) (hy : A (x * 4 + i0) = y) : go_IE (go_sh A (x * 4 + i0) (x * 4 + (L x - 1))) (go_up L x (L x - 1)) (go_up E (x * 16 + y) false) := by
  have hl := I.2.1 x
  have hy16 : y < 16 := by rw [← hy]; exact I.1 _
  intro z p hp hE
  by_cases e : z = x
  · rw [e] at hE ⊢
    by_cases g : p = y
    · rw [g, go_us] at hE; exact absurd hE (by decide)
    · rw [go_un (show x * 16 + p ≠ x * 16 + y by omega)] at hE
      obtain ⟨i, h1, h2⟩ := J x p hp hE
      rw [go_us]
      have hne : i ≠ i0 := fun q => g (by rw [← h2, q, hy])
      by_cases d : i < i0
      · refine ⟨i, by omega, ?_⟩
        rw [go_rm4_at hi (by omega), if_pos d]; exact h2
      · refine ⟨i - 1, by omega, ?_⟩
        rw [go_rm4_at hi (by omega), if_neg (by omega), show i - 1 + 1 = i by omega]; exact h2
  · rw [go_un (show z * 16 + p ≠ x * 16 + y by omega)] at hE
    obtain ⟨i, h1, h2⟩ := J z p hp hE
    have hz := I.2.1 z
    rw [go_un e]
    refine ⟨i, h1, ?_⟩
    rw [go_rm4_o (by omega) (by omega) e]; exact h2
theorem go_apE {cap : Nat} {A L : Nat → Nat} {E : Nat → Bool} {x y : Nat} (hc : cap ≤ 4) (I : go_IV4 cap A L) (J : go_IE A L E) (hl : L x < cap) (hy : y < 16) : go_IE (go_up A (x * 4 + L x) y) (go_up L x (L x + 1)) (go_up E (x * 16 + y) true) := by
  intro z p hp hE
  have hz := I.2.1 z
  by_cases e : z = x
  · rw [e] at hE ⊢
    rw [go_us]
    by_cases g : p = y
    · exact ⟨L x, by omega, by rw [go_us, g]⟩
    · rw [go_un (show x * 16 + p ≠ x * 16 + y by omega)] at hE
      obtain ⟨i, h1, h2⟩ := J x p hp hE
      exact ⟨i, by omega, by rw [go_un (show x * 4 + i ≠ x * 4 + L x by omega)]; exact h2⟩
  · rw [go_un (show z * 16 + p ≠ x * 16 + y by omega)] at hE
    obtain ⟨i, h1, h2⟩ := J z p hp hE
    rw [go_un e]
    exact ⟨i, h1, by rw [go_un (show z * 4 + i ≠ x * 4 + L x by omega)]; exact h2⟩
theorem go_Eclr {A L : Nat → Nat} {E : Nat → Bool} (J : go_IE A L E) (k : Nat) : go_IE A L (go_up E k false) := by
  intro z p hp hE
  by_cases e : z * 16 + p = k
  · rw [e, go_us] at hE; exact absurd hE (by decide)
  · rw [go_un e] at hE; exact J z p hp hE
theorem go_Eset {A L : Nat → Nat} {E : Nat → Bool} (J : go_IE A L E) {x y i : Nat} (hy : y < 16) (hi : i < L x) (h : A (x * 4 + i) = y) : go_IE A L (go_up E (x * 16 + y) true) := by
  intro z p hp hE
  by_cases e : z * 16 + p = x * 16 + y
  · have e1 : z = x := by omega
    have e2 : p = y := by omega
    rw [e1, e2]; exact ⟨i, hi, h⟩
  · rw [go_un e] at hE; exact J z p hp hE
theorem go_Erow {A L : Nat → Nat} {E : Nat → Bool} (J : go_IE A L E) (x : Nat) : go_IE A (go_up L x 0) (go_z E false (x * 16) (x * 16 + 16)) := by
  intro z p hp hE
  by_cases e : z = x
  · rw [show go_z E false (x * 16) (x * 16 + 16) (z * 16 + p) = false from if_pos (by omega)] at hE; exact absurd hE (by decide)
  · rw [show go_z E false (x * 16) (x * 16 + 16) (z * 16 + p) = E (z * 16 + p) from if_neg (by omega)] at hE
    rw [go_un e]; exact J z p hp hE
theorem go_Eno {A L : Nat → Nat} {E : Nat → Bool} (J : go_IE A L E) {x y : Nat} (hy : y < 16) (h : ∀ i, i < L x → A (x * 4 + i) ≠ y) : go_up E (x * 16 + y) false = E := by
  funext j
  by_cases e : j = x * 16 + y
  · rw [e, go_us]
    cases g : E (x * 16 + y) with
    | false => rfl
    | true =>
      obtain ⟨i, h1, h2⟩ := J x y hy g
      exact absurd h2 (h i h1)
  · exact go_un e
end
section
/-! stores over a row's chosen ids: v at every x * 16 + i, i < b, with bit i in g -/
def go_ov {α : Type} (f : Nat → α) (v : α) (x : Nat) (g : Int32) (b : Nat) : Nat → α := fun j => if x * 16 ≤ j ∧ j < x * 16 + b ∧ bt g (j - x * 16) = true then v else f j
theorem go_ov0 {α : Type} (f : Nat → α) (v : α) (x : Nat) (g : Int32) : go_ov f v x g 0 = f := funext fun j => if_neg (fun h => absurd h.2.1 (by have := h.1; omega))
theorem go_ovt {α : Type} (f : Nat → α) (v : α) (x : Nat) {g : Int32} {b : Nat} (h : bt g b = true) : go_up (go_ov f v x g b) (x * 16 + b) v = go_ov f v x g (b + 1) := by
  funext j
  unfold go_up go_ov
  by_cases e : j = x * 16 + b
  · rw [if_pos e, if_pos ⟨by omega, by omega, by rw [e, Nat.add_sub_cancel_left]; exact h⟩]
  · rw [if_neg e]
    by_cases q : x * 16 ≤ j ∧ j < x * 16 + b ∧ bt g (j - x * 16) = true
    · rw [if_pos q, if_pos ⟨q.1, by have := q.2.1; omega, q.2.2⟩]
    · rw [if_neg q, if_neg (fun z => q ⟨z.1, by have := z.2.1; omega, z.2.2⟩)]
theorem go_ovf {α : Type} (f : Nat → α) (v : α) (x : Nat) {g : Int32} {b : Nat} (h : bt g b = false) : go_ov f v x g b = go_ov f v x g (b + 1) := by
  funext j
  unfold go_ov
  by_cases q : x * 16 ≤ j ∧ j < x * 16 + b ∧ bt g (j - x * 16) = true
  · rw [if_pos q, if_pos ⟨q.1, by have := q.2.1; omega, q.2.2⟩]
  · rw [if_neg q, if_neg]
    intro z
    by_cases e : j = x * 16 + b
    · have w := z.2.2
      rw [e, Nat.add_sub_cancel_left, h] at w
      exact absurd w (by decide)
    · exact q ⟨z.1, by have := z.2.1; omega, z.2.2⟩
def go_oW (f : Nat → Bool) (x : Nat) (g : Int32) (b : Nat) : Nat → Bool := fun j => if x * 16 ≤ j / 16 ∧ j / 16 < x * 16 + b ∧ bt g (j / 16 - x * 16) = true then false else f j
theorem go_oW0 (f : Nat → Bool) (x : Nat) (g : Int32) : go_oW f x g 0 = f := funext fun j => if_neg (fun h => absurd h.2.1 (by have := h.1; omega))
theorem go_oWt (f : Nat → Bool) (x : Nat) {g : Int32} {b : Nat} (h : bt g b = true) : go_z (go_oW f x g b) false ((x * 16 + b) * 16) ((x * 16 + b) * 16 + 16) = go_oW f x g (b + 1) := by
  funext j
  unfold go_z go_oW
  by_cases e : j / 16 = x * 16 + b
  · rw [if_pos (by omega), if_pos ⟨by omega, by omega, by rw [e, Nat.add_sub_cancel_left]; exact h⟩]
  · rw [if_neg (by omega)]
    by_cases q : x * 16 ≤ j / 16 ∧ j / 16 < x * 16 + b ∧ bt g (j / 16 - x * 16) = true
    · rw [if_pos q, if_pos ⟨q.1, by have := q.2.1; omega, q.2.2⟩]
    · rw [if_neg q, if_neg (fun z => q ⟨z.1, by have := z.2.1; omega, z.2.2⟩)]
theorem go_oWf (f : Nat → Bool) (x : Nat) {g : Int32} {b : Nat} (h : bt g b = false) : go_oW f x g b = go_oW f x g (b + 1) := by
  funext j
  unfold go_oW
  by_cases q : x * 16 ≤ j / 16 ∧ j / 16 < x * 16 + b ∧ bt g (j / 16 - x * 16) = true
  · rw [if_pos q, if_pos ⟨q.1, by have := q.2.1; omega, q.2.2⟩]
  · rw [if_neg q, if_neg]
    intro z
    by_cases e : j / 16 = x * 16 + b
    · have w := z.2.2
      rw [e, Nat.add_sub_cancel_left, h] at w
      exact absurd w (by decide)
    · exact q ⟨z.1, by have := z.2.1; omega, z.2.2⟩
theorem go_Dor (D : Nat → Bool) (x : Nat) (g : Int32) (hg : ∀ i, 16 ≤ i → i < 32 → bt g i = false) : upd (go_M D) x (go_M D x ||| g) = go_M (go_ov D true x g 16) := by
  apply go_Mu
  · intro i hi
    rw [b_or, go_Mb D x i hi]
    unfold go_ov
    by_cases h16 : i < 16
    · cases hb : bt g i with
      | true =>
        rw [if_pos ⟨by omega, by omega, by rw [Nat.add_sub_cancel_left]; exact hb⟩, Bool.or_true, decide_eq_true h16]; rfl
      | false =>
        rw [if_neg, Bool.or_false]
        intro z
        have w := z.2.2
        rw [Nat.add_sub_cancel_left, hb] at w
        exact absurd w (by decide)
    · rw [decide_eq_false h16, Bool.false_and, Bool.false_and, Bool.false_or]
      exact hg i (by omega) hi
  · intro j hj
    exact if_neg (fun z => by have := z.1; have := z.2.1; omega)
theorem go_and16 {a : Nat} (ha : a < 65536) (z : Int32) : (nI a &&& z) &&& 65535 = nI a &&& z := by
  apply b_ext
  intro i hi
  rw [b_and, b_and, b_65535]
  by_cases h : i < 16
  · rw [decide_eq_true h, Bool.and_true]
  · rw [go_n16 ha (by omega), Bool.false_and, Bool.false_and]
theorem go_and16n {a : Nat} (ha : a < 65536) (z : Int32) : ∃ g, g < 65536 ∧ nI a &&& z = nI g := go_16 (fun i h1 _ => by rw [b_and, go_n16 ha h1, Bool.false_and])
theorem go_bm (m b : Nat) (hb : b < 16) : (nI m &&& ((1 : Int32) <<< (nI b &&& 31))) = 0 ↔ bt (nI m) b = false := go_bit _ b (by omega)
theorem go_1n (b : Nat) (hb : b < 16) : ∃ a, 0 < a ∧ a < 65536 ∧ (1 : Int32) <<< (nI b &&& 31) = nI a := by
  obtain ⟨a, h1, h2⟩ := go_16 (x := (1 : Int32) <<< (nI b &&& 31)) (fun i h1 h2 => by rw [go_1b b (by omega) h2, decide_eq_false (by omega)])
  refine ⟨a, ?_, h1, h2⟩
  rcases Nat.eq_zero_or_pos a with h | h
  · exfalso
    have e := go_1b b (by omega) (i := b) (by omega)
    rw [h2, h, nI_0, b_0] at e
    simp at e
  · exact h
end
section
/-! stores and reads at an index e with e = nI j -/
theorem go_vt : vp_nar .boolean 1 = go_c true := rfl
theorem go_vf : vp_nar .boolean 0 = go_c false := rfl
theorem go_uN {e v : Int32} (f : Nat → Nat) (j w : Nat) (hv : v = nI w) (he : e = nI j := by rfl) (hj : j < 2 ^ 31 := by omega) : upd (go_N f) e.toNatClampNeg v = go_N (go_up f j w) := by
  subst he hv
  rw [nI_clamp hj]
  exact go_Nu f j w
theorem go_uB {e v : Int32} (b : Nat → Bool) (j : Nat) (w : Bool) (hv : v = go_c w) (he : e = nI j := by rfl) (hj : j < 2 ^ 31 := by omega) : upd (go_B b) e.toNatClampNeg v = go_B (go_up b j w) := by
  subst he hv
  rw [nI_clamp hj]
  exact go_Bu b j w
theorem go_rM {e : Int32} (b : Nat → Bool) (c : Nat) (he : e = nI c := by rfl) (hc : c < 2 ^ 31 := by omega) : go_M b e.toNatClampNeg = go_M b c := by
  subst he
  rw [nI_clamp hc]
theorem go_uMs {e : Int32} (b : Nat → Bool) (c p : Nat) (hp : p < 16) (he : e = nI c := by rfl) (hc : c < 2 ^ 31 := by omega) : upd (go_M b) e.toNatClampNeg (go_M b e.toNatClampNeg ||| ((1 : Int32) <<< (nI p &&& 31))) = go_M (go_up b (c * 16 + p) true) := by
  subst he
  rw [nI_clamp hc]
  exact go_Mset b c p hp
theorem go_uMc {e : Int32} (b : Nat → Bool) (c p : Nat) (hp : p < 16) (he : e = nI c := by rfl) (hc : c < 2 ^ 31 := by omega) : upd (go_M b) e.toNatClampNeg (go_M b e.toNatClampNeg &&& (((1 : Int32) <<< (nI p &&& 31)) ^^^ (-1))) = go_M (go_up b (c * 16 + p) false) := by
  subst he
  rw [nI_clamp hc]
  exact go_Mclr b c p hp
theorem go_uMz {e : Int32} (b : Nat → Bool) (c : Nat) (he : e = nI c := by rfl) (hc : c < 2 ^ 31 := by omega) : upd (go_M b) e.toNatClampNeg 0 = go_M (go_z b false (c * 16) (c * 16 + 16)) := by
  subst he
  rw [nI_clamp hc]
  exact go_Mz b c
theorem go_brM {e : Int32} {A B : Prop} (b : Nat → Bool) (c p : Nat) (hp : p < 16) (f : b (c * 16 + p) = false → A) (g : b (c * 16 + p) = true → B) (he : e = nI c := by rfl) (hc : c < 2 ^ 31 := by omega) : ((go_M b e.toNatClampNeg &&& ((1 : Int32) <<< (nI p &&& 31))) = 0 → A) ∧ (¬ (go_M b e.toNatClampNeg &&& ((1 : Int32) <<< (nI p &&& 31))) = 0 → B) := by
  subst he
  rw [nI_clamp hc]
  cases h : b (c * 16 + p) with
  | false => exact br_t ((go_Mt b c p hp).mpr h) (f h)
  | true => exact br_f (fun z => by rw [(go_Mt b c p hp).mp z] at h; exact absurd h (by decide)) (g h)
theorem go_brb {A B : Prop} (m p : Nat) (hp : p < 16) (f : bt (nI m) p = false → A) (g : bt (nI m) p = true → B) : ((nI m &&& ((1 : Int32) <<< (nI p &&& 31))) = 0 → A) ∧ (¬ (nI m &&& ((1 : Int32) <<< (nI p &&& 31))) = 0 → B) := by
  cases h : bt (nI m) p with
  | false => exact br_t ((go_bm m p hp).mpr h) (f h)
  | true => exact br_f (fun z => by rw [(go_bm m p hp).mp z] at h; exact absurd h (by decide)) (g h)
theorem go_brS {e : Int32} {A B : Prop} {U : Nat → Bool} {C : Nat → Nat} (I : go_IS U C) (s : Nat) (f : U s = false → A) (g : U s = true → B) (he : e = nI s := by rfl) (hs : s < 2 ^ 31 := by omega) : (go_S U C e.toNatClampNeg = 0 → A) ∧ (¬ go_S U C e.toNatClampNeg = 0 → B) := by
  cases h : U s with
  | false => exact br_t ((go_S0 I s he hs).mpr h) (f h)
  | true => exact br_f (fun z => by rw [(go_S0 I s he hs).mp z] at h; exact absurd h (by decide)) (g h)
theorem go_uSt {e v : Int32} (U : Nat → Bool) (C : Nat → Nat) (s c : Nat) (hv : v = nI c) (he : e = nI s := by rfl) (hs : s < 2 ^ 31 := by omega) : upd (go_S U C) e.toNatClampNeg v = go_S (go_up U s true) (go_up C s c) := by
  subst he hv
  rw [nI_clamp hs]
  exact go_St U C s c
theorem go_uSf {e : Int32} (U : Nat → Bool) (C : Nat → Nat) (s : Nat) (he : e = nI s := by rfl) (hs : s < 2 ^ 31 := by omega) : upd (go_S U C) e.toNatClampNeg 0 = go_S (go_up U s false) C := by
  subst he
  rw [nI_clamp hs]
  exact go_Sf U C s
theorem go_rS {e : Int32} {U : Nat → Bool} {C : Nat → Nat} (s : Nat) (h : U s = true) (he : e = nI s := by rfl) (hs : s < 2 ^ 31 := by omega) : go_S U C e.toNatClampNeg = nI (C s) := by
  subst he
  rw [nI_clamp hs]
  unfold go_S
  rw [h]
  rfl
theorem go_d24 {c : Nat} (hc : c < 2 ^ 31) : nI c >>> ((24 : Int32) &&& 31) = nI (c / 2 ^ 24) := pk_shrN hc _ 24 (by decide)
theorem go_d255 {c : Nat} (hc : c < 2 ^ 31) : (nI c >>> ((24 : Int32) &&& 31)) &&& 255 = nI (c / 2 ^ 24) := by
  rw [go_d24 hc, pk_andN (by omega) 8 (by decide), Nat.mod_eq_of_lt (by omega)]
theorem go_d20 {c : Nat} (hc : c < 2 ^ 31) : (nI c >>> ((20 : Int32) &&& 31)) &&& 15 = nI (c / 2 ^ 20 % 2 ^ 4) := by
  rw [pk_shrN hc _ 20 (by decide), pk_andN (by omega) 4 (by decide)]
theorem go_d16 {c : Nat} (hc : c < 2 ^ 31) : (nI c >>> ((16 : Int32) &&& 31)) &&& 15 = nI (c / 2 ^ 16 % 2 ^ 4) := by
  rw [pk_shrN hc _ 16 (by decide), pk_andN (by omega) 4 (by decide)]
theorem go_d4 {c : Nat} (hc : c < 2 ^ 31) : (nI c >>> ((4 : Int32) &&& 31)) &&& 15 = nI (c / 2 ^ 4 % 2 ^ 4) := by
  rw [pk_shrN hc _ 4 (by decide), pk_andN (by omega) 4 (by decide)]
theorem go_d0 {c : Nat} (hc : c < 2 ^ 31) : nI c &&& 65535 = nI (c % 2 ^ 16) := pk_andN (by omega) 16 (by decide)
theorem go_dw {c : Nat} (hc : c < 2 ^ 31) : nI c &&& 15 = nI (c % 2 ^ 4) := pk_andN (by omega) 4 (by decide)
theorem go_0f : (0 : Int32) = nI 0 := rfl
theorem go_mz {e : Int32} (b : Nat → Bool) (c p : Nat) (hp : p < 16) (h : b (c * 16 + p) = false) (he : e = nI c := by rfl) (hc : c < 2 ^ 31 := by omega) : (go_M b e.toNatClampNeg &&& ((1 : Int32) <<< (nI p &&& 31))) = 0 := by
  rw [go_rM b c he hc]
  exact (go_Mt b c p hp).mpr h
theorem go_mn {e : Int32} (b : Nat → Bool) (c p : Nat) (hp : p < 16) (h : b (c * 16 + p) = true) (he : e = nI c := by rfl) (hc : c < 2 ^ 31 := by omega) : ¬ (go_M b e.toNatClampNeg &&& ((1 : Int32) <<< (nI p &&& 31))) = 0 := by
  rw [go_rM b c he hc, go_Mt b c p hp, h]
  decide
theorem go_ix4 (x i : Nat) : nI x * 4 + nI i = nI (x * 4 + i) := go_ix x 4 i
theorem go_ix8 (x i : Nat) : nI x * 8 + nI i = nI (x * 8 + i) := go_ix x 8 i
theorem go_ix16 (x i : Nat) : nI x * 16 + nI i = nI (x * 16 + i) := go_ix x 16 i
end
section
section
variable (nn ac pc tm md lo : Nat) (al : Nat → Bool) (A La P Lp : Nat → Nat) (E D W : Nat → Bool) (T : Nat → Nat) (U : Nat → Bool) (C : Nat → Nat)
theorem go_lkX4 {x y : Nat} (hA : ∀ j, A j < 16) (hL : La x ≤ 4) (hx : x < 16) (hy : y < 16) (h : ∀ i, i < La x → A (x * 4 + i) ≠ y) (post : Int32 → Prop) (hp : post 0) : ∀ n i, i ≤ La x → La x - i < n → wX_isActive_2 post (nI x) (nI y) (nI nn) (nI ac) (nI pc) (nI tm) (nI md) (nI lo) (go_B al) (go_N A) (go_N La) (go_N P) (go_N Lp) (go_M E) (go_M D) (go_M W) (go_N T) (go_S U C) n (nI i) := by
  intro n
  induction n with
  | zero => intro i _ hn; exact absurd hn (by omega)
  | succ n ih =>
    intro i hi hn
    exact ⟨vp_in_nI hx (by omega), pk_le (La x) i (fun _ => hp) (fun h2 => ⟨pk_in (x * 4 + i) 64 (by omega) (go_ix4 x i), br_f (by rw [go_rN A (x * 4 + i) (go_ix4 x i) (by omega), nI_eq (by have := hA (x * 4 + i); omega) (by omega)]; exact h i h2) (nm_r (nI_1 i) (ih (i + 1) (by omega) (by omega)))⟩) (go_rN La x rfl (by omega)) rfl (by omega) (by omega)⟩
theorem go_lkXy4 {x y i0 : Nat} (hA : ∀ j, A j < 16) (hL : La x ≤ 4) (hx : x < 16) (hy : y < 16) (h0 : i0 < La x) (he : A (x * 4 + i0) = y) (post : Int32 → Prop) (hp : post 1) : ∀ n i, i ≤ i0 → i0 - i < n → wX_isActive_2 post (nI x) (nI y) (nI nn) (nI ac) (nI pc) (nI tm) (nI md) (nI lo) (go_B al) (go_N A) (go_N La) (go_N P) (go_N Lp) (go_M E) (go_M D) (go_M W) (go_N T) (go_S U C) n (nI i) := by
  intro n
  induction n with
  | zero => intro i _ hn; exact absurd hn (by omega)
  | succ n ih =>
    intro i hi hn
    refine ⟨vp_in_nI hx (by omega), pk_le (La x) i (fun h2 => absurd h2 (by omega)) (fun h2 => ⟨pk_in (x * 4 + i) 64 (by omega) (go_ix4 x i), pk_eq (A (x * 4 + i)) y (fun _ => hp) (fun h3 => ?_) (go_rN A (x * 4 + i) (go_ix4 x i) (by omega)) rfl (by have := hA (x * 4 + i); omega) (by omega)⟩) (go_rN La x rfl (by omega)) rfl (by omega) (by omega)⟩
    have h4 : i ≠ i0 := fun q => h3 (by rw [q]; exact he)
    exact nm_r (nI_1 i) (ih (i + 1) (by omega) (by omega))
theorem go_lkY4 {x y : Nat} (hA : ∀ j, A j < 16) (hL : La x ≤ 4) (hx : x < 16) (hy : y < 16) (h : ∀ i, i < La x → A (x * 4 + i) ≠ y) (post : Int32 → Prop) (hp : post (-1)) : ∀ n i, i ≤ La x → La x - i < n → wY_posA_2 post (nI x) (nI y) (nI nn) (nI ac) (nI pc) (nI tm) (nI lo) (nI md) (go_B al) (go_N A) (go_N La) (go_N P) (go_N Lp) (go_B E) (go_B D) (go_B W) (go_N T) (go_B U) (go_N C) n (nI i) := by
  intro n
  induction n with
  | zero => intro i _ hn; exact absurd hn (by omega)
  | succ n ih =>
    intro i hi hn
    exact ⟨vp_in_nI hx (by omega), pk_le (La x) i (fun _ => hp) (fun h2 => ⟨pk_in (x * 4 + i) 64 (by omega) (go_ix4 x i), br_f (by rw [go_rN A (x * 4 + i) (go_ix4 x i) (by omega), nI_eq (by have := hA (x * 4 + i); omega) (by omega)]; exact h i h2) (nm_r (nI_1 i) (ih (i + 1) (by omega) (by omega)))⟩) (go_rN La x rfl (by omega)) rfl (by omega) (by omega)⟩
theorem go_lkYy4 {x y i0 : Nat} (hA : ∀ j, A j < 16) (hL : La x ≤ 4) (hx : x < 16) (hy : y < 16) (h0 : i0 < La x) (he : A (x * 4 + i0) = y) (hb : ∀ j, j < i0 → A (x * 4 + j) ≠ y) (post : Int32 → Prop) (hp : post (nI i0)) : ∀ n i, i ≤ i0 → i0 - i < n → wY_posA_2 post (nI x) (nI y) (nI nn) (nI ac) (nI pc) (nI tm) (nI lo) (nI md) (go_B al) (go_N A) (go_N La) (go_N P) (go_N Lp) (go_B E) (go_B D) (go_B W) (go_N T) (go_B U) (go_N C) n (nI i) := by
  intro n
  induction n with
  | zero => intro i _ hn; exact absurd hn (by omega)
  | succ n ih =>
    intro i hi hn
    refine ⟨vp_in_nI hx (by omega), pk_le (La x) i (fun h2 => absurd h2 (by omega)) (fun h2 => ⟨pk_in (x * 4 + i) 64 (by omega) (go_ix4 x i), pk_eq (A (x * 4 + i)) y (fun h3 => ?_) (fun h3 => ?_) (go_rN A (x * 4 + i) (go_ix4 x i) (by omega)) rfl (by have := hA (x * 4 + i); omega) (by omega)⟩) (go_rN La x rfl (by omega)) rfl (by omega) (by omega)⟩
    · have h4 : i = i0 := by
        rcases Nat.lt_or_ge i i0 with q | q
        · exact absurd h3 (hb i q)
        · omega
      rw [h4]; exact hp
    · have h4 : i ≠ i0 := fun q => h3 (by rw [q]; exact he)
      exact nm_r (nI_1 i) (ih (i + 1) (by omega) (by omega))
theorem go_is4 {x y : Nat} (hA : ∀ j, A j < 16) (hL : La x ≤ 4) (hx : x < 16) (hy : y < 16) (h : ∀ i, i < La x → A (x * 4 + i) ≠ y) (post : Int32 → Prop) (hp : post 0) : wpX_isActive post (nI nn, nI ac, nI pc, nI tm, nI md, nI lo, go_B al, go_N A, go_N La, go_N P, go_N Lp, go_M E, go_M D, go_M W, go_N T, go_S U C) (nI x) (nI y) := ⟨La x + 1, go_lkX4 nn ac pc tm md lo al A La P Lp E D W T U C hA hL hx hy h post hp _ 0 (by omega) (by omega)⟩
theorem go_isy4 {x y i0 : Nat} (hA : ∀ j, A j < 16) (hL : La x ≤ 4) (hx : x < 16) (hy : y < 16) (h0 : i0 < La x) (he : A (x * 4 + i0) = y) (post : Int32 → Prop) (hp : post 1) : wpX_isActive post (nI nn, nI ac, nI pc, nI tm, nI md, nI lo, go_B al, go_N A, go_N La, go_N P, go_N Lp, go_M E, go_M D, go_M W, go_N T, go_S U C) (nI x) (nI y) := ⟨i0 + 1, go_lkXy4 nn ac pc tm md lo al A La P Lp E D W T U C hA hL hx hy h0 he post hp _ 0 (by omega) (by omega)⟩
theorem go_ps4 {x y : Nat} (hA : ∀ j, A j < 16) (hL : La x ≤ 4) (hx : x < 16) (hy : y < 16) (h : ∀ i, i < La x → A (x * 4 + i) ≠ y) (post : Int32 → Prop) (hp : post (-1)) : wpY_posA post (nI nn, nI ac, nI pc, nI tm, nI lo, nI md, go_B al, go_N A, go_N La, go_N P, go_N Lp, go_B E, go_B D, go_B W, go_N T, go_B U, go_N C) (nI x) (nI y) := ⟨La x + 1, go_lkY4 nn ac pc tm md lo al A La P Lp E D W T U C hA hL hx hy h post hp _ 0 (by omega) (by omega)⟩
theorem go_psy4 {x y i0 : Nat} (hA : ∀ j, A j < 16) (hL : La x ≤ 4) (hx : x < 16) (hy : y < 16) (h0 : i0 < La x) (he : A (x * 4 + i0) = y) (hb : ∀ j, j < i0 → A (x * 4 + j) ≠ y) (post : Int32 → Prop) (hp : post (nI i0)) : wpY_posA post (nI nn, nI ac, nI pc, nI tm, nI lo, nI md, go_B al, go_N A, go_N La, go_N P, go_N Lp, go_B E, go_B D, go_B W, go_N T, go_B U, go_N C) (nI x) (nI y) := ⟨i0 + 1, go_lkYy4 nn ac pc tm md lo al A La P Lp E D W T U C hA hL hx hy h0 he hb post hp _ 0 (by omega) (by omega)⟩
theorem go_lkX8 {x y : Nat} (hA : ∀ j, P j < 16) (hL : Lp x ≤ 8) (hx : x < 16) (hy : y < 16) (h : ∀ i, i < Lp x → P (x * 8 + i) ≠ y) (post : Int32 → Prop) (hp : post 0) : ∀ n i, i ≤ Lp x → Lp x - i < n → wX_isPassive_2 post (nI x) (nI y) (nI nn) (nI ac) (nI pc) (nI tm) (nI md) (nI lo) (go_B al) (go_N A) (go_N La) (go_N P) (go_N Lp) (go_M E) (go_M D) (go_M W) (go_N T) (go_S U C) n (nI i) := by
  intro n
  induction n with
  | zero => intro i _ hn; exact absurd hn (by omega)
  | succ n ih =>
    intro i hi hn
    exact ⟨vp_in_nI hx (by omega), pk_le (Lp x) i (fun _ => hp) (fun h2 => ⟨pk_in (x * 8 + i) 128 (by omega) (go_ix8 x i), br_f (by rw [go_rN P (x * 8 + i) (go_ix8 x i) (by omega), nI_eq (by have := hA (x * 8 + i); omega) (by omega)]; exact h i h2) (nm_r (nI_1 i) (ih (i + 1) (by omega) (by omega)))⟩) (go_rN Lp x rfl (by omega)) rfl (by omega) (by omega)⟩
theorem go_lkXy8 {x y i0 : Nat} (hA : ∀ j, P j < 16) (hL : Lp x ≤ 8) (hx : x < 16) (hy : y < 16) (h0 : i0 < Lp x) (he : P (x * 8 + i0) = y) (post : Int32 → Prop) (hp : post 1) : ∀ n i, i ≤ i0 → i0 - i < n → wX_isPassive_2 post (nI x) (nI y) (nI nn) (nI ac) (nI pc) (nI tm) (nI md) (nI lo) (go_B al) (go_N A) (go_N La) (go_N P) (go_N Lp) (go_M E) (go_M D) (go_M W) (go_N T) (go_S U C) n (nI i) := by
  intro n
  induction n with
  | zero => intro i _ hn; exact absurd hn (by omega)
  | succ n ih =>
    intro i hi hn
    refine ⟨vp_in_nI hx (by omega), pk_le (Lp x) i (fun h2 => absurd h2 (by omega)) (fun h2 => ⟨pk_in (x * 8 + i) 128 (by omega) (go_ix8 x i), pk_eq (P (x * 8 + i)) y (fun _ => hp) (fun h3 => ?_) (go_rN P (x * 8 + i) (go_ix8 x i) (by omega)) rfl (by have := hA (x * 8 + i); omega) (by omega)⟩) (go_rN Lp x rfl (by omega)) rfl (by omega) (by omega)⟩
    have h4 : i ≠ i0 := fun q => h3 (by rw [q]; exact he)
    exact nm_r (nI_1 i) (ih (i + 1) (by omega) (by omega))
theorem go_lkY8 {x y : Nat} (hA : ∀ j, P j < 16) (hL : Lp x ≤ 8) (hx : x < 16) (hy : y < 16) (h : ∀ i, i < Lp x → P (x * 8 + i) ≠ y) (post : Int32 → Prop) (hp : post (-1)) : ∀ n i, i ≤ Lp x → Lp x - i < n → wY_posP_2 post (nI x) (nI y) (nI nn) (nI ac) (nI pc) (nI tm) (nI lo) (nI md) (go_B al) (go_N A) (go_N La) (go_N P) (go_N Lp) (go_B E) (go_B D) (go_B W) (go_N T) (go_B U) (go_N C) n (nI i) := by
  intro n
  induction n with
  | zero => intro i _ hn; exact absurd hn (by omega)
  | succ n ih =>
    intro i hi hn
    exact ⟨vp_in_nI hx (by omega), pk_le (Lp x) i (fun _ => hp) (fun h2 => ⟨pk_in (x * 8 + i) 128 (by omega) (go_ix8 x i), br_f (by rw [go_rN P (x * 8 + i) (go_ix8 x i) (by omega), nI_eq (by have := hA (x * 8 + i); omega) (by omega)]; exact h i h2) (nm_r (nI_1 i) (ih (i + 1) (by omega) (by omega)))⟩) (go_rN Lp x rfl (by omega)) rfl (by omega) (by omega)⟩
theorem go_lkYy8 {x y i0 : Nat} (hA : ∀ j, P j < 16) (hL : Lp x ≤ 8) (hx : x < 16) (hy : y < 16) (h0 : i0 < Lp x) (he : P (x * 8 + i0) = y) (hb : ∀ j, j < i0 → P (x * 8 + j) ≠ y) (post : Int32 → Prop) (hp : post (nI i0)) : ∀ n i, i ≤ i0 → i0 - i < n → wY_posP_2 post (nI x) (nI y) (nI nn) (nI ac) (nI pc) (nI tm) (nI lo) (nI md) (go_B al) (go_N A) (go_N La) (go_N P) (go_N Lp) (go_B E) (go_B D) (go_B W) (go_N T) (go_B U) (go_N C) n (nI i) := by
  intro n
  induction n with
  | zero => intro i _ hn; exact absurd hn (by omega)
  | succ n ih =>
    intro i hi hn
    refine ⟨vp_in_nI hx (by omega), pk_le (Lp x) i (fun h2 => absurd h2 (by omega)) (fun h2 => ⟨pk_in (x * 8 + i) 128 (by omega) (go_ix8 x i), pk_eq (P (x * 8 + i)) y (fun h3 => ?_) (fun h3 => ?_) (go_rN P (x * 8 + i) (go_ix8 x i) (by omega)) rfl (by have := hA (x * 8 + i); omega) (by omega)⟩) (go_rN Lp x rfl (by omega)) rfl (by omega) (by omega)⟩
    · have h4 : i = i0 := by
        rcases Nat.lt_or_ge i i0 with q | q
        · exact absurd h3 (hb i q)
        · omega
      rw [h4]; exact hp
    · have h4 : i ≠ i0 := fun q => h3 (by rw [q]; exact he)
      exact nm_r (nI_1 i) (ih (i + 1) (by omega) (by omega))
theorem go_is8 {x y : Nat} (hA : ∀ j, P j < 16) (hL : Lp x ≤ 8) (hx : x < 16) (hy : y < 16) (h : ∀ i, i < Lp x → P (x * 8 + i) ≠ y) (post : Int32 → Prop) (hp : post 0) : wpX_isPassive post (nI nn, nI ac, nI pc, nI tm, nI md, nI lo, go_B al, go_N A, go_N La, go_N P, go_N Lp, go_M E, go_M D, go_M W, go_N T, go_S U C) (nI x) (nI y) := ⟨Lp x + 1, go_lkX8 nn ac pc tm md lo al A La P Lp E D W T U C hA hL hx hy h post hp _ 0 (by omega) (by omega)⟩
theorem go_isy8 {x y i0 : Nat} (hA : ∀ j, P j < 16) (hL : Lp x ≤ 8) (hx : x < 16) (hy : y < 16) (h0 : i0 < Lp x) (he : P (x * 8 + i0) = y) (post : Int32 → Prop) (hp : post 1) : wpX_isPassive post (nI nn, nI ac, nI pc, nI tm, nI md, nI lo, go_B al, go_N A, go_N La, go_N P, go_N Lp, go_M E, go_M D, go_M W, go_N T, go_S U C) (nI x) (nI y) := ⟨i0 + 1, go_lkXy8 nn ac pc tm md lo al A La P Lp E D W T U C hA hL hx hy h0 he post hp _ 0 (by omega) (by omega)⟩
theorem go_ps8 {x y : Nat} (hA : ∀ j, P j < 16) (hL : Lp x ≤ 8) (hx : x < 16) (hy : y < 16) (h : ∀ i, i < Lp x → P (x * 8 + i) ≠ y) (post : Int32 → Prop) (hp : post (-1)) : wpY_posP post (nI nn, nI ac, nI pc, nI tm, nI lo, nI md, go_B al, go_N A, go_N La, go_N P, go_N Lp, go_B E, go_B D, go_B W, go_N T, go_B U, go_N C) (nI x) (nI y) := ⟨Lp x + 1, go_lkY8 nn ac pc tm md lo al A La P Lp E D W T U C hA hL hx hy h post hp _ 0 (by omega) (by omega)⟩
theorem go_psy8 {x y i0 : Nat} (hA : ∀ j, P j < 16) (hL : Lp x ≤ 8) (hx : x < 16) (hy : y < 16) (h0 : i0 < Lp x) (he : P (x * 8 + i0) = y) (hb : ∀ j, j < i0 → P (x * 8 + j) ≠ y) (post : Int32 → Prop) (hp : post (nI i0)) : wpY_posP post (nI nn, nI ac, nI pc, nI tm, nI lo, nI md, go_B al, go_N A, go_N La, go_N P, go_N Lp, go_B E, go_B D, go_B W, go_N T, go_B U, go_N C) (nI x) (nI y) := ⟨i0 + 1, go_lkYy8 nn ac pc tm md lo al A La P Lp E D W T U C hA hL hx hy h0 he hb post hp _ 0 (by omega) (by omega)⟩
end
end
section
section
variable (nn ac pc tm md lo : Nat) (al : Nat → Bool) (A La P Lp : Nat → Nat) (E D W : Nat → Bool) (T : Nat → Nat) (U : Nat → Bool) (C : Nat → Nat)
theorem go_sXf {x y k a : Nat} (I : go_IS U C) (hl : lo + 1 < 2 ^ 31) (h : ∀ s, s < 64 → U s = true) (post : SX → Prop) (hp : post (nI nn, nI ac, nI pc, nI tm, nI md, nI (lo + 1), go_B al, go_N A, go_N La, go_N P, go_N Lp, go_M E, go_M D, go_M W, go_N T, go_S U C)) : ∀ n i, i ≤ 64 → 64 - i < n → wX_send_13 post (nI x) (nI y) (nI k) (nI a) (nI nn) (nI ac) (nI pc) (nI tm) (nI md) (nI lo) (go_B al) (go_N A) (go_N La) (go_N P) (go_N Lp) (go_M E) (go_M D) (go_M W) (go_N T) (go_S U C) n (nI i) := by
  intro n
  induction n with
  | zero => intro i _ hn; exact absurd hn (by omega)
  | succ n ih =>
    intro i hi hn
    exact pk_le 64 i (fun _ => pk_le 2147483647 lo (fun z => absurd z (by omega)) (fun _ => nm_r (nI_1 lo) hp)) (fun h2 => ⟨vp_in_nI h2 (by omega), go_brS I i (fun z => absurd z (by rw [h i h2]; decide)) (fun _ => nm_r (nI_1 i) (ih (i + 1) (by omega) (by omega)))⟩)
theorem go_sXs {x y k a c s : Nat} (I : go_IS U C) (hc : (((nI k <<< ((24 : Int32) &&& 31)) ||| (nI x <<< ((20 : Int32) &&& 31))) ||| (nI y <<< ((16 : Int32) &&& 31))) ||| nI a = nI c) (hs : s < 64) (hf : U s = false) (hb : ∀ j, j < s → ¬ U j = false) (post : SX → Prop) (hp : post (nI nn, nI ac, nI pc, nI tm, nI md, nI lo, go_B al, go_N A, go_N La, go_N P, go_N Lp, go_M E, go_M D, go_M W, go_N T, go_S (go_up U s true) (go_up C s c))) : ∀ n i, i ≤ s → s - i < n → wX_send_13 post (nI x) (nI y) (nI k) (nI a) (nI nn) (nI ac) (nI pc) (nI tm) (nI md) (nI lo) (go_B al) (go_N A) (go_N La) (go_N P) (go_N Lp) (go_M E) (go_M D) (go_M W) (go_N T) (go_S U C) n (nI i) := by
  intro n
  induction n with
  | zero => intro i _ hn; exact absurd hn (by omega)
  | succ n ih =>
    intro i hi hn
    refine pk_le 64 i (fun z => absurd z (by omega)) (fun h2 => ⟨vp_in_nI h2 (by omega), go_brS I i (fun z => ⟨vp_in_nI h2 (by omega), nm_r (go_uSt U C i c hc) ?_⟩) (fun z => nm_r (nI_1 i) (ih (i + 1) ?_ ?_))⟩)
    · have e : i = s := by
        rcases Nat.lt_or_ge i s with q | q
        · exact absurd z (hb i q)
        · omega
      rw [e]; exact hp
    · have e : i ≠ s := fun q => by rw [q, hf] at z; exact absurd z (by decide)
      omega
    · have e : i ≠ s := fun q => by rw [q, hf] at z; exact absurd z (by decide)
      omega
theorem go_sYf {x y k a : Nat} (h : ∀ s, s < 64 → U s = true) (post : SY → Prop) (hp : post (nI nn, nI ac, nI pc, nI tm, nI (lo + 1), nI md, go_B al, go_N A, go_N La, go_N P, go_N Lp, go_B E, go_B D, go_B W, go_N T, go_B U, go_N C)) : ∀ n i, i ≤ 64 → 64 - i < n → wY_send_16 post (nI x) (nI y) (nI k) (nI a) (nI nn) (nI ac) (nI pc) (nI tm) (nI lo) (nI md) (go_B al) (go_N A) (go_N La) (go_N P) (go_N Lp) (go_B E) (go_B D) (go_B W) (go_N T) (go_B U) (go_N C) n (nI i) := by
  intro n
  induction n with
  | zero => intro i _ hn; exact absurd hn (by omega)
  | succ n ih =>
    intro i hi hn
    exact pk_le 64 i (fun _ => nm_r (nI_1 lo) hp) (fun h2 => ⟨vp_in_nI h2 (by omega), go_brB U i (fun z => absurd z (by rw [h i h2]; decide)) (fun _ => nm_r (nI_1 i) (ih (i + 1) (by omega) (by omega)))⟩)
theorem go_sYs {x y k a c s : Nat} (hc : (((nI k <<< ((24 : Int32) &&& 31)) ||| (nI x <<< ((20 : Int32) &&& 31))) ||| (nI y <<< ((16 : Int32) &&& 31))) ||| nI a = nI c) (hs : s < 64) (hf : U s = false) (hb : ∀ j, j < s → ¬ U j = false) (post : SY → Prop) (hp : post (nI nn, nI ac, nI pc, nI tm, nI lo, nI md, go_B al, go_N A, go_N La, go_N P, go_N Lp, go_B E, go_B D, go_B W, go_N T, go_B (go_up U s true), go_N (go_up C s c))) : ∀ n i, i ≤ s → s - i < n → wY_send_16 post (nI x) (nI y) (nI k) (nI a) (nI nn) (nI ac) (nI pc) (nI tm) (nI lo) (nI md) (go_B al) (go_N A) (go_N La) (go_N P) (go_N Lp) (go_B E) (go_B D) (go_B W) (go_N T) (go_B U) (go_N C) n (nI i) := by
  intro n
  induction n with
  | zero => intro i _ hn; exact absurd hn (by omega)
  | succ n ih =>
    intro i hi hn
    refine pk_le 64 i (fun z => absurd z (by omega)) (fun h2 => ⟨vp_in_nI h2 (by omega), go_brB U i (fun z => ⟨vp_in_nI h2 (by omega), nm_r (go_uB U i true go_vt) ⟨vp_in_nI h2 (by omega), nm_r (go_uN C i c hc) ?_⟩⟩) (fun z => nm_r (nI_1 i) (ih (i + 1) ?_ ?_))⟩)
    · have e : i = s := by
        rcases Nat.lt_or_ge i s with q | q
        · exact absurd z (hb i q)
        · omega
      rw [e]; exact hp
    · have e : i ≠ s := fun q => by rw [q, hf] at z; exact absurd z (by decide)
      omega
    · have e : i ≠ s := fun q => by rw [q, hf] at z; exact absurd z (by decide)
      omega
theorem go_send {x y k a : Nat} (I : go_IS U C) (hl : lo + 1 < 2 ^ 31) (hx : x < 16) (hy : y < 16) (hk0 : 0 < k) (hk : k < 128) (ha : a < 65536) : ∃ (U' : Nat → Bool) (C' : Nat → Nat) (lo' : Nat), go_IS U' C' ∧ lo' ≤ lo + 1 ∧ (∀ post : SX → Prop, post (nI nn, nI ac, nI pc, nI tm, nI md, nI lo', go_B al, go_N A, go_N La, go_N P, go_N Lp, go_M E, go_M D, go_M W, go_N T, go_S U' C') → wpX_send post (nI nn, nI ac, nI pc, nI tm, nI md, nI lo, go_B al, go_N A, go_N La, go_N P, go_N Lp, go_M E, go_M D, go_M W, go_N T, go_S U C) (nI x) (nI y) (nI k) (nI a)) ∧ (∀ post : SY → Prop, post (nI nn, nI ac, nI pc, nI tm, nI lo', nI md, go_B al, go_N A, go_N La, go_N P, go_N Lp, go_B E, go_B D, go_B W, go_N T, go_B U', go_N C') → wpY_send post (nI nn, nI ac, nI pc, nI tm, nI lo, nI md, go_B al, go_N A, go_N La, go_N P, go_N Lp, go_B E, go_B D, go_B W, go_N T, go_B U, go_N C) (nI x) (nI y) (nI k) (nI a)) := by
  obtain ⟨c, hc0, hc1, hc⟩ := go_code k x y a hk0 hk hx hy ha
  have e15 : nI y &&& 15 = nI y := by rw [pk_andN (by omega) 4 (by decide), Nat.mod_eq_of_lt (show y < 2 ^ 4 from hy)]
  cases hal : al y with
  | false => exact ⟨U, C, lo, I, by omega, fun post hp => ⟨vp_in_nI hy (by omega), br_t (go_bz al y hal) hp⟩, fun post hp => ⟨pk_in y 16 hy e15, br_t (go_bz al y hal e15) hp⟩⟩
  | true =>
    rcases go_first (fun s => U s = false) 64 with h | ⟨s, hs, hf, hb⟩
    · have h' : ∀ s, s < 64 → U s = true := fun s hs => by have := h s hs; simpa using this
      exact ⟨U, C, lo + 1, I, by omega, fun post hp => ⟨vp_in_nI hy (by omega), br_f (go_bn al y hal) ⟨65, go_sXf nn ac pc tm md lo al A La P Lp E D W T U C I hl h' post hp 65 0 (by omega) (by omega)⟩⟩, fun post hp => ⟨pk_in y 16 hy e15, br_f (go_bn al y hal e15) ⟨65, go_sYf nn ac pc tm md lo al A La P Lp E D W T U C h' post hp 65 0 (by omega) (by omega)⟩⟩⟩
    · exact ⟨go_up U s true, go_up C s c, lo, go_ISt I s c hc0 hc1, by omega, fun post hp => ⟨vp_in_nI hy (by omega), br_f (go_bn al y hal) ⟨65, go_sXs nn ac pc tm md lo al A La P Lp E D W T U C I hc hs hf hb post hp 65 0 (by omega) (by omega)⟩⟩, fun post hp => ⟨pk_in y 16 hy e15, br_f (go_bn al y hal e15) ⟨65, go_sYs nn ac pc tm md lo al A La P Lp E D W T U C hc hs hf hb post hp 65 0 (by omega) (by omega)⟩⟩⟩
end
end
section
section
variable (nn ac pc tm md lo : Nat) (al : Nat → Bool) (A La P Lp : Nat → Nat) (E D W : Nat → Bool) (T : Nat → Nat) (U : Nat → Bool) (C : Nat → Nat)
theorem go_cX24 {x y i0 : Nat} (hc : ac ≤ 4) (I : go_IV4 ac A La) (hx : x < 16) (hy : y < 16) (h0 : i0 < La x) (he : A (x * 4 + i0) = y) (post : Int32 → SX → Prop) (hp : post 1  (nI nn, nI ac, nI pc, nI tm, nI md, nI lo, go_B al, go_N (go_sh A (x * 4 + i0) (x * 4 + (La x - 1))), go_N (go_up La x (La x - 1)), go_N P, go_N Lp, go_M (go_up E (x * 16 + y) false), go_M D, go_M W, go_N T, go_S U C)) : ∀ n m, i0 ≤ m → m + 1 ≤ La x → La x - m ≤ n → wX_removeActive_13 post (nI x) (nI y) (nI (La x)) (nI nn) (nI ac) (nI pc) (nI tm) (nI md) (nI lo) n (nI m) (nI (m + 1)) (go_B al) (go_N (go_sh A (x * 4 + i0) (x * 4 + m))) (go_N La) (go_N P) (go_N Lp) (go_M E) (go_M D) (go_M W) (go_N T) (go_S U C) := by
  have hl := I.2.1 x
  intro n
  induction n with
  | zero => intro m _ _ hn; exact absurd hn (by omega)
  | succ n ih =>
    intro m hm1 hm2 hn
    refine pk_le (La x) (m + 1) (fun h => ⟨vp_in_nI hx (by omega), nm_r (go_uN La x m rfl) ?_⟩) (fun h => ⟨pk_in (x * 4 + (m + 1)) 64 (by omega) (go_ix4 x (m + 1)), nm_r ((go_rN _ (x * 4 + (m + 1)) (go_ix4 x (m + 1)) (by omega)).trans (congrArg nI (go_shr A (by omega)))) (br_f ?_ ⟨pk_in (x * 4 + m) 64 (by omega) (go_ix4 x m), nm_r ((go_uN _ (x * 4 + m) (A (x * 4 + (m + 1))) rfl (go_ix4 x m)).trans (congrArg go_N (go_shs A (by omega)))) (nm_r (nI_1 m) (nm_r (nI_1 (m + 1)) (ih (m + 1) (by omega) (by omega) (by omega))))⟩)⟩)
    · have hm : La x - 1 = m := by omega
      rw [hm] at hp
      exact ⟨vp_in_nI hx (by omega), vp_in_nI hx (by omega), nm_r (go_uMc E x y hy) (br_f (nI_ge (by omega) (by omega)) hp)⟩
    · rw [nI_eq (by have := I.1 (x * 4 + (m + 1)); omega) (by omega), ← he]
      exact (I.2.2 x i0 (m + 1) (by omega) (by omega)).symm
theorem go_cX14 {x y i0 : Nat} (hc : ac ≤ 4) (I : go_IV4 ac A La) (hx : x < 16) (hy : y < 16) (h0 : i0 < La x) (he : A (x * 4 + i0) = y) (post : Int32 → SX → Prop) (hp : post 1  (nI nn, nI ac, nI pc, nI tm, nI md, nI lo, go_B al, go_N (go_sh A (x * 4 + i0) (x * 4 + (La x - 1))), go_N (go_up La x (La x - 1)), go_N P, go_N Lp, go_M (go_up E (x * 16 + y) false), go_M D, go_M W, go_N T, go_S U C)) : ∀ n i, i ≤ i0 → La x - i < n → wX_removeActive_13 post (nI x) (nI y) (nI (La x)) (nI nn) (nI ac) (nI pc) (nI tm) (nI md) (nI lo) n (nI i) (nI i) (go_B al) (go_N A) (go_N La) (go_N P) (go_N Lp) (go_M E) (go_M D) (go_M W) (go_N T) (go_S U C) := by
  have hl := I.2.1 x
  intro n
  induction n with
  | zero => intro m _ hn; exact absurd hn (by omega)
  | succ n ih =>
    intro i hi hn
    refine pk_le (La x) i (fun h => absurd h (by omega)) (fun h => ⟨pk_in (x * 4 + i) 64 (by omega) (go_ix4 x i), nm_r (go_rN A (x * 4 + i) (go_ix4 x i) (by omega)) (pk_eq (A (x * 4 + i)) y (fun h3 => nm_r (nI_1 i) ?_) (fun h3 => ⟨pk_in (x * 4 + i) 64 (by omega) (go_ix4 x i), nm_r ((go_uN A (x * 4 + i) (A (x * 4 + i)) rfl (go_ix4 x i)).trans (congrArg go_N (go_ui A _))) (nm_r (nI_1 i) (nm_r (nI_1 i) (ih (i + 1) ?_ (by omega))))⟩) rfl rfl (by have := I.1 (x * 4 + i); omega) (by omega))⟩)
    · have e : i = i0 := by
        rcases Nat.lt_or_ge i i0 with q | q
        · exact absurd (h3.trans he.symm) (I.2.2 x i i0 q h0)
        · omega
      have w := go_cX24 nn ac pc tm md lo al A La P Lp E D W T U C hc I hx hy h0 he post hp n i0 (by omega) (by omega) (by omega)
      rw [go_sh0] at w
      rw [e]
      exact w
    · have e : i ≠ i0 := fun q => h3 (by rw [q]; exact he)
      omega
theorem go_cX04 {x y : Nat} (hc : ac ≤ 4) (I : go_IV4 ac A La) (JE : go_IE A La E) (hx : x < 16) (hy : y < 16) (ha : ∀ i, i < La x → A (x * 4 + i) ≠ y) (post : Int32 → SX → Prop) (hp : post 0  (nI nn, nI ac, nI pc, nI tm, nI md, nI lo, go_B al, go_N A, go_N La, go_N P, go_N Lp, go_M E, go_M D, go_M W, go_N T, go_S U C)) : ∀ n i, i ≤ La x → La x - i < n → wX_removeActive_13 post (nI x) (nI y) (nI (La x)) (nI nn) (nI ac) (nI pc) (nI tm) (nI md) (nI lo) n (nI i) (nI i) (go_B al) (go_N A) (go_N La) (go_N P) (go_N Lp) (go_M E) (go_M D) (go_M W) (go_N T) (go_S U C) := by
  have hl := I.2.1 x
  intro n
  induction n with
  | zero => intro m _ hn; exact absurd hn (by omega)
  | succ n ih =>
    intro i hi hn
    refine pk_le (La x) i (fun h => ⟨vp_in_nI hx (by omega), nm_r ((go_uN La x i rfl).trans (congrArg go_N (show go_up La x i = La by rw [show i = La x by omega]; exact go_ui La x))) ?_⟩) (fun h => ⟨pk_in (x * 4 + i) 64 (by omega) (go_ix4 x i), nm_r (go_rN A (x * 4 + i) (go_ix4 x i) (by omega)) (br_f ?_ ⟨pk_in (x * 4 + i) 64 (by omega) (go_ix4 x i), nm_r ((go_uN A (x * 4 + i) (A (x * 4 + i)) rfl (go_ix4 x i)).trans (congrArg go_N (go_ui A _))) (nm_r (nI_1 i) (nm_r (nI_1 i) (ih (i + 1) (by omega) (by omega))))⟩)⟩)
    · exact ⟨vp_in_nI hx (by omega), vp_in_nI hx (by omega), nm_r ((go_uMc E x y hy).trans (congrArg go_M (go_Eno JE hy ha))) (br_t (nI_le (by omega) (by omega)) hp)⟩
    · rw [nI_eq (by have := I.1 (x * 4 + i); omega) (by omega)]
      exact ha i h
theorem go_cY4 {x y i0 : Nat} (hc : ac ≤ 4) (I : go_IV4 ac A La) (hx : x < 16) (hy : y < 16) (h0 : i0 < La x) (post : SY → Prop) (hp : post (nI nn, nI ac, nI pc, nI tm, nI lo, nI md, go_B al, go_N (go_sh A (x * 4 + i0) (x * 4 + (La x - 1))), go_N (go_up La x (La x - 1)), go_N P, go_N Lp, go_B (go_up E (x * 16 + y) false), go_B D, go_B W, go_N T, go_B U, go_N C)) : ∀ n m, i0 ≤ m → m ≤ La x - 1 → La x - m ≤ n → wY_removeA_15 post (nI x) (nI y) (nI nn) (nI ac) (nI pc) (nI tm) (nI lo) (nI md) n (nI m) (go_B al) (go_N (go_sh A (x * 4 + i0) (x * 4 + m))) (go_N La) (go_N P) (go_N Lp) (go_B E) (go_B D) (go_B W) (go_N T) (go_B U) (go_N C) := by
  have hl := I.2.1 x
  have e2 : go_N La (nI x).toNatClampNeg - 1 = nI (La x - 1) := by
    rw [go_rN La x rfl (by omega)]
    exact pk_sub (a := La x) (b := 1) (by omega)
  intro n
  induction n with
  | zero => intro m _ _ hn; exact absurd hn (by omega)
  | succ n ih =>
    intro m hm1 hm2 hn
    have e1 : nI x * 4 + nI m + 1 = nI (x * 4 + m + 1) := (congrArg (fun z => z + 1) (go_ix4 x m)).trans (nI_1 _)
    refine ⟨vp_in_nI hx (by omega), pk_le (La x - 1) m (fun h => ⟨vp_in_nI hx (by omega), vp_in_nI hx (by omega), nm_r (go_uN La x (La x - 1) e2) ?_⟩) (fun h => ⟨pk_in (x * 4 + m + 1) 64 (by omega) e1, pk_in (x * 4 + m) 64 (by omega) (go_ix4 x m), nm_r ((go_uN _ (x * 4 + m) (A (x * 4 + m + 1)) ((go_rN _ (x * 4 + m + 1) e1 (by omega)).trans (congrArg nI (go_shr A (by omega)))) (go_ix4 x m)).trans (congrArg go_N (go_shs A (by omega)))) (nm_r (nI_1 m) (ih (m + 1) (by omega) (by omega) (by omega)))⟩) e2 rfl (by omega) (by omega)⟩
    have hm : La x - 1 = m := by omega
    rw [hm] at hp ⊢
    exact ⟨pk_in (x * 16 + y) 256 (by omega) (go_ix16 x y), nm_r (go_uB E (x * 16 + y) false go_vf (go_ix16 x y)) hp⟩
theorem go_rX14 {x y i0 : Nat} (hc : ac ≤ 4) (I : go_IV4 ac A La) (hx : x < 16) (hy : y < 16) (h0 : i0 < La x) (he : A (x * 4 + i0) = y) (post : Int32 → SX → Prop) (hp : post 1  (nI nn, nI ac, nI pc, nI tm, nI md, nI lo, go_B al, go_N (go_sh A (x * 4 + i0) (x * 4 + (La x - 1))), go_N (go_up La x (La x - 1)), go_N P, go_N Lp, go_M (go_up E (x * 16 + y) false), go_M D, go_M W, go_N T, go_S U C)) : wpX_removeActive post (nI nn, nI ac, nI pc, nI tm, nI md, nI lo, go_B al, go_N A, go_N La, go_N P, go_N Lp, go_M E, go_M D, go_M W, go_N T, go_S U C) (nI x) (nI y) := ⟨vp_in_nI hx (by omega), nm_r (go_rN La x rfl (by omega)) ⟨La x + 1, go_cX14 nn ac pc tm md lo al A La P Lp E D W T U C hc I hx hy h0 he post hp _ 0 (by omega) (by omega)⟩⟩
theorem go_rX04 {x y : Nat} (hc : ac ≤ 4) (I : go_IV4 ac A La) (JE : go_IE A La E) (hx : x < 16) (hy : y < 16) (ha : ∀ i, i < La x → A (x * 4 + i) ≠ y) (post : Int32 → SX → Prop) (hp : post 0  (nI nn, nI ac, nI pc, nI tm, nI md, nI lo, go_B al, go_N A, go_N La, go_N P, go_N Lp, go_M E, go_M D, go_M W, go_N T, go_S U C)) : wpX_removeActive post (nI nn, nI ac, nI pc, nI tm, nI md, nI lo, go_B al, go_N A, go_N La, go_N P, go_N Lp, go_M E, go_M D, go_M W, go_N T, go_S U C) (nI x) (nI y) := ⟨vp_in_nI hx (by omega), nm_r (go_rN La x rfl (by omega)) ⟨La x + 1, go_cX04 nn ac pc tm md lo al A La P Lp E D W T U C hc I JE hx hy ha post hp _ 0 (by omega) (by omega)⟩⟩
theorem go_rY14 {x y i0 : Nat} (hc : ac ≤ 4) (I : go_IV4 ac A La) (hx : x < 16) (hy : y < 16) (h0 : i0 < La x) (he : A (x * 4 + i0) = y) (hb : ∀ j, j < i0 → A (x * 4 + j) ≠ y) (post : SY → Prop) (hp : post (nI nn, nI ac, nI pc, nI tm, nI lo, nI md, go_B al, go_N (go_sh A (x * 4 + i0) (x * 4 + (La x - 1))), go_N (go_up La x (La x - 1)), go_N P, go_N Lp, go_B (go_up E (x * 16 + y) false), go_B D, go_B W, go_N T, go_B U, go_N C)) : wpY_removeA post (nI nn, nI ac, nI pc, nI tm, nI lo, nI md, go_B al, go_N A, go_N La, go_N P, go_N Lp, go_B E, go_B D, go_B W, go_N T, go_B U, go_N C) (nI x) (nI y) := by
  have hl := I.2.1 x
  have w := go_cY4 nn ac pc tm md lo al A La P Lp E D W T U C hc I hx hy h0 post hp (La x + 1) i0 (by omega) (by omega) (by omega)
  rw [go_sh0] at w
  unfold wpY_removeA
  exact go_psy4 nn ac pc tm md lo al A La P Lp E D W T U C I.1 (by omega) hx hy h0 he hb _ (br_t (nI_pos' (by omega)) ⟨_, w⟩)
theorem go_rY04 {x y : Nat} (hc : ac ≤ 4) (I : go_IV4 ac A La) (hx : x < 16) (hy : y < 16) (ha : ∀ i, i < La x → A (x * 4 + i) ≠ y) (post : SY → Prop) (hp : post (nI nn, nI ac, nI pc, nI tm, nI lo, nI md, go_B al, go_N A, go_N La, go_N P, go_N Lp, go_B E, go_B D, go_B W, go_N T, go_B U, go_N C)) : wpY_removeA post (nI nn, nI ac, nI pc, nI tm, nI lo, nI md, go_B al, go_N A, go_N La, go_N P, go_N Lp, go_B E, go_B D, go_B W, go_N T, go_B U, go_N C) (nI x) (nI y) := by
  have hl := I.2.1 x
  unfold wpY_removeA
  exact go_ps4 nn ac pc tm md lo al A La P Lp E D W T U C I.1 (by omega) hx hy ha _ (br_f (by decide) hp)
theorem go_cX28 {x y i0 : Nat} (hc : pc ≤ 8) (I : go_IV8 pc P Lp) (hx : x < 16) (hy : y < 16) (h0 : i0 < Lp x) (he : P (x * 8 + i0) = y) (post : SX → Prop) (hp : post  (nI nn, nI ac, nI pc, nI tm, nI md, nI lo, go_B al, go_N A, go_N La, go_N (go_sh P (x * 8 + i0) (x * 8 + (Lp x - 1))), go_N (go_up Lp x (Lp x - 1)), go_M E, go_M D, go_M W, go_N T, go_S U C)) : ∀ n m, i0 ≤ m → m + 1 ≤ Lp x → Lp x - m ≤ n → wX_removePassive_13 post (nI x) (nI y) (nI (Lp x)) (nI nn) (nI ac) (nI pc) (nI tm) (nI md) (nI lo) n (nI m) (nI (m + 1)) (go_B al) (go_N A) (go_N La) (go_N (go_sh P (x * 8 + i0) (x * 8 + m))) (go_N Lp) (go_M E) (go_M D) (go_M W) (go_N T) (go_S U C) := by
  have hl := I.2.1 x
  intro n
  induction n with
  | zero => intro m _ _ hn; exact absurd hn (by omega)
  | succ n ih =>
    intro m hm1 hm2 hn
    refine pk_le (Lp x) (m + 1) (fun h => ⟨vp_in_nI hx (by omega), nm_r (go_uN Lp x m rfl) ?_⟩) (fun h => ⟨pk_in (x * 8 + (m + 1)) 128 (by omega) (go_ix8 x (m + 1)), nm_r ((go_rN _ (x * 8 + (m + 1)) (go_ix8 x (m + 1)) (by omega)).trans (congrArg nI (go_shr P (by omega)))) (br_f ?_ ⟨pk_in (x * 8 + m) 128 (by omega) (go_ix8 x m), nm_r ((go_uN _ (x * 8 + m) (P (x * 8 + (m + 1))) rfl (go_ix8 x m)).trans (congrArg go_N (go_shs P (by omega)))) (nm_r (nI_1 m) (nm_r (nI_1 (m + 1)) (ih (m + 1) (by omega) (by omega) (by omega))))⟩)⟩)
    · have hm : Lp x - 1 = m := by omega
      rw [hm] at hp
      exact hp
    · rw [nI_eq (by have := I.1 (x * 8 + (m + 1)); omega) (by omega), ← he]
      exact (I.2.2 x i0 (m + 1) (by omega) (by omega)).symm
theorem go_cX18 {x y i0 : Nat} (hc : pc ≤ 8) (I : go_IV8 pc P Lp) (hx : x < 16) (hy : y < 16) (h0 : i0 < Lp x) (he : P (x * 8 + i0) = y) (post : SX → Prop) (hp : post  (nI nn, nI ac, nI pc, nI tm, nI md, nI lo, go_B al, go_N A, go_N La, go_N (go_sh P (x * 8 + i0) (x * 8 + (Lp x - 1))), go_N (go_up Lp x (Lp x - 1)), go_M E, go_M D, go_M W, go_N T, go_S U C)) : ∀ n i, i ≤ i0 → Lp x - i < n → wX_removePassive_13 post (nI x) (nI y) (nI (Lp x)) (nI nn) (nI ac) (nI pc) (nI tm) (nI md) (nI lo) n (nI i) (nI i) (go_B al) (go_N A) (go_N La) (go_N P) (go_N Lp) (go_M E) (go_M D) (go_M W) (go_N T) (go_S U C) := by
  have hl := I.2.1 x
  intro n
  induction n with
  | zero => intro m _ hn; exact absurd hn (by omega)
  | succ n ih =>
    intro i hi hn
    refine pk_le (Lp x) i (fun h => absurd h (by omega)) (fun h => ⟨pk_in (x * 8 + i) 128 (by omega) (go_ix8 x i), nm_r (go_rN P (x * 8 + i) (go_ix8 x i) (by omega)) (pk_eq (P (x * 8 + i)) y (fun h3 => nm_r (nI_1 i) ?_) (fun h3 => ⟨pk_in (x * 8 + i) 128 (by omega) (go_ix8 x i), nm_r ((go_uN P (x * 8 + i) (P (x * 8 + i)) rfl (go_ix8 x i)).trans (congrArg go_N (go_ui P _))) (nm_r (nI_1 i) (nm_r (nI_1 i) (ih (i + 1) ?_ (by omega))))⟩) rfl rfl (by have := I.1 (x * 8 + i); omega) (by omega))⟩)
    · have e : i = i0 := by
        rcases Nat.lt_or_ge i i0 with q | q
        · exact absurd (h3.trans he.symm) (I.2.2 x i i0 q h0)
        · omega
      have w := go_cX28 nn ac pc tm md lo al A La P Lp E D W T U C hc I hx hy h0 he post hp n i0 (by omega) (by omega) (by omega)
      rw [go_sh0] at w
      rw [e]
      exact w
    · have e : i ≠ i0 := fun q => h3 (by rw [q]; exact he)
      omega
theorem go_cX08 {x y : Nat} (hc : pc ≤ 8) (I : go_IV8 pc P Lp) (hx : x < 16) (hy : y < 16) (ha : ∀ i, i < Lp x → P (x * 8 + i) ≠ y) (post : SX → Prop) (hp : post  (nI nn, nI ac, nI pc, nI tm, nI md, nI lo, go_B al, go_N A, go_N La, go_N P, go_N Lp, go_M E, go_M D, go_M W, go_N T, go_S U C)) : ∀ n i, i ≤ Lp x → Lp x - i < n → wX_removePassive_13 post (nI x) (nI y) (nI (Lp x)) (nI nn) (nI ac) (nI pc) (nI tm) (nI md) (nI lo) n (nI i) (nI i) (go_B al) (go_N A) (go_N La) (go_N P) (go_N Lp) (go_M E) (go_M D) (go_M W) (go_N T) (go_S U C) := by
  have hl := I.2.1 x
  intro n
  induction n with
  | zero => intro m _ hn; exact absurd hn (by omega)
  | succ n ih =>
    intro i hi hn
    refine pk_le (Lp x) i (fun h => ⟨vp_in_nI hx (by omega), nm_r ((go_uN Lp x i rfl).trans (congrArg go_N (show go_up Lp x i = Lp by rw [show i = Lp x by omega]; exact go_ui Lp x))) ?_⟩) (fun h => ⟨pk_in (x * 8 + i) 128 (by omega) (go_ix8 x i), nm_r (go_rN P (x * 8 + i) (go_ix8 x i) (by omega)) (br_f ?_ ⟨pk_in (x * 8 + i) 128 (by omega) (go_ix8 x i), nm_r ((go_uN P (x * 8 + i) (P (x * 8 + i)) rfl (go_ix8 x i)).trans (congrArg go_N (go_ui P _))) (nm_r (nI_1 i) (nm_r (nI_1 i) (ih (i + 1) (by omega) (by omega))))⟩)⟩)
    · exact hp
    · rw [nI_eq (by have := I.1 (x * 8 + i); omega) (by omega)]
      exact ha i h
theorem go_cY8 {x y i0 : Nat} (hc : pc ≤ 8) (I : go_IV8 pc P Lp) (hx : x < 16) (hy : y < 16) (h0 : i0 < Lp x) (post : SY → Prop) (hp : post (nI nn, nI ac, nI pc, nI tm, nI lo, nI md, go_B al, go_N A, go_N La, go_N (go_sh P (x * 8 + i0) (x * 8 + (Lp x - 1))), go_N (go_up Lp x (Lp x - 1)), go_B E, go_B D, go_B W, go_N T, go_B U, go_N C)) : ∀ n m, i0 ≤ m → m ≤ Lp x - 1 → Lp x - m ≤ n → wY_removeP_15 post (nI x) (nI nn) (nI ac) (nI pc) (nI tm) (nI lo) (nI md) n (nI m) (go_B al) (go_N A) (go_N La) (go_N (go_sh P (x * 8 + i0) (x * 8 + m))) (go_N Lp) (go_B E) (go_B D) (go_B W) (go_N T) (go_B U) (go_N C) := by
  have hl := I.2.1 x
  have e2 : go_N Lp (nI x).toNatClampNeg - 1 = nI (Lp x - 1) := by
    rw [go_rN Lp x rfl (by omega)]
    exact pk_sub (a := Lp x) (b := 1) (by omega)
  intro n
  induction n with
  | zero => intro m _ _ hn; exact absurd hn (by omega)
  | succ n ih =>
    intro m hm1 hm2 hn
    have e1 : nI x * 8 + nI m + 1 = nI (x * 8 + m + 1) := (congrArg (fun z => z + 1) (go_ix8 x m)).trans (nI_1 _)
    refine ⟨vp_in_nI hx (by omega), pk_le (Lp x - 1) m (fun h => ⟨vp_in_nI hx (by omega), vp_in_nI hx (by omega), nm_r (go_uN Lp x (Lp x - 1) e2) ?_⟩) (fun h => ⟨pk_in (x * 8 + m + 1) 128 (by omega) e1, pk_in (x * 8 + m) 128 (by omega) (go_ix8 x m), nm_r ((go_uN _ (x * 8 + m) (P (x * 8 + m + 1)) ((go_rN _ (x * 8 + m + 1) e1 (by omega)).trans (congrArg nI (go_shr P (by omega)))) (go_ix8 x m)).trans (congrArg go_N (go_shs P (by omega)))) (nm_r (nI_1 m) (ih (m + 1) (by omega) (by omega) (by omega)))⟩) e2 rfl (by omega) (by omega)⟩
    have hm : Lp x - 1 = m := by omega
    rw [hm] at hp ⊢
    exact hp
theorem go_rX18 {x y i0 : Nat} (hc : pc ≤ 8) (I : go_IV8 pc P Lp) (hx : x < 16) (hy : y < 16) (h0 : i0 < Lp x) (he : P (x * 8 + i0) = y) (post : SX → Prop) (hp : post  (nI nn, nI ac, nI pc, nI tm, nI md, nI lo, go_B al, go_N A, go_N La, go_N (go_sh P (x * 8 + i0) (x * 8 + (Lp x - 1))), go_N (go_up Lp x (Lp x - 1)), go_M E, go_M D, go_M W, go_N T, go_S U C)) : wpX_removePassive post (nI nn, nI ac, nI pc, nI tm, nI md, nI lo, go_B al, go_N A, go_N La, go_N P, go_N Lp, go_M E, go_M D, go_M W, go_N T, go_S U C) (nI x) (nI y) := ⟨vp_in_nI hx (by omega), nm_r (go_rN Lp x rfl (by omega)) ⟨Lp x + 1, go_cX18 nn ac pc tm md lo al A La P Lp E D W T U C hc I hx hy h0 he post hp _ 0 (by omega) (by omega)⟩⟩
theorem go_rX08 {x y : Nat} (hc : pc ≤ 8) (I : go_IV8 pc P Lp) (hx : x < 16) (hy : y < 16) (ha : ∀ i, i < Lp x → P (x * 8 + i) ≠ y) (post : SX → Prop) (hp : post  (nI nn, nI ac, nI pc, nI tm, nI md, nI lo, go_B al, go_N A, go_N La, go_N P, go_N Lp, go_M E, go_M D, go_M W, go_N T, go_S U C)) : wpX_removePassive post (nI nn, nI ac, nI pc, nI tm, nI md, nI lo, go_B al, go_N A, go_N La, go_N P, go_N Lp, go_M E, go_M D, go_M W, go_N T, go_S U C) (nI x) (nI y) := ⟨vp_in_nI hx (by omega), nm_r (go_rN Lp x rfl (by omega)) ⟨Lp x + 1, go_cX08 nn ac pc tm md lo al A La P Lp E D W T U C hc I hx hy ha post hp _ 0 (by omega) (by omega)⟩⟩
theorem go_rY18 {x y i0 : Nat} (hc : pc ≤ 8) (I : go_IV8 pc P Lp) (hx : x < 16) (hy : y < 16) (h0 : i0 < Lp x) (he : P (x * 8 + i0) = y) (hb : ∀ j, j < i0 → P (x * 8 + j) ≠ y) (post : SY → Prop) (hp : post (nI nn, nI ac, nI pc, nI tm, nI lo, nI md, go_B al, go_N A, go_N La, go_N (go_sh P (x * 8 + i0) (x * 8 + (Lp x - 1))), go_N (go_up Lp x (Lp x - 1)), go_B E, go_B D, go_B W, go_N T, go_B U, go_N C)) : wpY_removeP post (nI nn, nI ac, nI pc, nI tm, nI lo, nI md, go_B al, go_N A, go_N La, go_N P, go_N Lp, go_B E, go_B D, go_B W, go_N T, go_B U, go_N C) (nI x) (nI y) := by
  have hl := I.2.1 x
  have w := go_cY8 nn ac pc tm md lo al A La P Lp E D W T U C hc I hx hy h0 post hp (Lp x + 1) i0 (by omega) (by omega) (by omega)
  rw [go_sh0] at w
  unfold wpY_removeP
  exact go_psy8 nn ac pc tm md lo al A La P Lp E D W T U C I.1 (by omega) hx hy h0 he hb _ (br_t (nI_pos' (by omega)) ⟨_, w⟩)
theorem go_rY08 {x y : Nat} (hc : pc ≤ 8) (I : go_IV8 pc P Lp) (hx : x < 16) (hy : y < 16) (ha : ∀ i, i < Lp x → P (x * 8 + i) ≠ y) (post : SY → Prop) (hp : post (nI nn, nI ac, nI pc, nI tm, nI lo, nI md, go_B al, go_N A, go_N La, go_N P, go_N Lp, go_B E, go_B D, go_B W, go_N T, go_B U, go_N C)) : wpY_removeP post (nI nn, nI ac, nI pc, nI tm, nI lo, nI md, go_B al, go_N A, go_N La, go_N P, go_N Lp, go_B E, go_B D, go_B W, go_N T, go_B U, go_N C) (nI x) (nI y) := by
  have hl := I.2.1 x
  unfold wpY_removeP
  exact go_ps8 nn ac pc tm md lo al A La P Lp E D W T U C I.1 (by omega) hx hy ha _ (br_f (by decide) hp)
end
end
section
section
variable (nn ac pc tm md lo : Nat) (al : Nat → Bool) (A La P Lp : Nat → Nat) (E D W : Nat → Bool) (T : Nat → Nat) (U : Nat → Bool) (C : Nat → Nat)
theorem go_pyX {x y : Nat} (hx : x < 16) (hy : y < 16) (hl : Lp x < 8) (post : SX → Prop) (hp : post (nI nn, nI ac, nI pc, nI tm, nI md, nI lo, go_B al, go_N A, go_N La, go_N (go_up P (x * 8 + Lp x) y), go_N (go_up Lp x (Lp x + 1)), go_M E, go_M D, go_M W, go_N T, go_S U C)) : wX_addPassive_53 post (nI x) (nI y) (nI nn) (nI ac) (nI pc) (nI tm) (nI md) (nI lo) (go_B al) (go_N A) (go_N La) (go_N P) (go_N Lp) (go_M E) (go_M D) (go_M W) (go_N T) (go_S U C) := by
  have e1 : nI x * 8 + go_N Lp (nI x).toNatClampNeg = nI (x * 8 + Lp x) := by rw [go_rN Lp x rfl (by omega)]; exact go_ix8 x (Lp x)
  have e2 : go_N Lp (nI x).toNatClampNeg + 1 = nI (Lp x + 1) := by rw [go_rN Lp x rfl (by omega)]; exact nI_1 _
  exact ⟨vp_in_nI hx (by omega), pk_in (x * 8 + Lp x) 128 (by omega) e1, nm_r (go_uN P (x * 8 + Lp x) y rfl e1) ⟨vp_in_nI hx (by omega), vp_in_nI hx (by omega), nm_r (go_uN Lp x (Lp x + 1) e2) hp⟩⟩
theorem go_pyY {x y : Nat} (hx : x < 16) (hy : y < 16) (hl : Lp x < 8) (post : SY → Prop) (hp : post (nI nn, nI ac, nI pc, nI tm, nI lo, nI md, go_B al, go_N A, go_N La, go_N (go_up P (x * 8 + Lp x) y), go_N (go_up Lp x (Lp x + 1)), go_B E, go_B D, go_B W, go_N T, go_B U, go_N C)) : wY_addP_51 post (nI x) (nI y) (nI nn) (nI ac) (nI pc) (nI tm) (nI lo) (nI md) (go_B al) (go_N A) (go_N La) (go_N P) (go_N Lp) (go_B E) (go_B D) (go_B W) (go_N T) (go_B U) (go_N C) := by
  have e1 : nI x * 8 + go_N Lp (nI x).toNatClampNeg = nI (x * 8 + Lp x) := by rw [go_rN Lp x rfl (by omega)]; exact go_ix8 x (Lp x)
  have e2 : go_N Lp (nI x).toNatClampNeg + 1 = nI (Lp x + 1) := by rw [go_rN Lp x rfl (by omega)]; exact nI_1 _
  exact ⟨vp_in_nI hx (by omega), pk_in (x * 8 + Lp x) 128 (by omega) e1, nm_r (go_uN P (x * 8 + Lp x) y rfl e1) ⟨vp_in_nI hx (by omega), vp_in_nI hx (by omega), nm_r (go_uN Lp x (Lp x + 1) e2) hp⟩⟩
theorem go_addP {x y : Nat} (hac : ac ≤ 4) (IA : go_IV4 ac A La) (hpc : 1 ≤ pc ∧ pc ≤ 8) (I : go_IV8 pc P Lp) (hx : x < 16) (hy : y < 16) : ∃ (P' Lp' : Nat → Nat), go_IV8 pc P' Lp' ∧ (∀ post : SX → Prop, post (nI nn, nI ac, nI pc, nI tm, nI md, nI lo, go_B al, go_N A, go_N La, go_N P', go_N Lp', go_M E, go_M D, go_M W, go_N T, go_S U C) → wpX_addPassive post (nI nn, nI ac, nI pc, nI tm, nI md, nI lo, go_B al, go_N A, go_N La, go_N P, go_N Lp, go_M E, go_M D, go_M W, go_N T, go_S U C) (nI x) (nI y)) ∧ (∀ post : SY → Prop, post (nI nn, nI ac, nI pc, nI tm, nI lo, nI md, go_B al, go_N A, go_N La, go_N P', go_N Lp', go_B E, go_B D, go_B W, go_N T, go_B U, go_N C) → wpY_addP post (nI nn, nI ac, nI pc, nI tm, nI lo, nI md, go_B al, go_N A, go_N La, go_N P, go_N Lp, go_B E, go_B D, go_B W, go_N T, go_B U, go_N C) (nI x) (nI y)) := by
  have hla := IA.2.1 x
  have hlp := I.2.1 x
  by_cases e : y = x
  · exact ⟨P, Lp, I, fun post hp => br_t (by rw [e]) hp, fun post hp => br_t (by rw [e]) hp⟩
  have e' : ¬ nI y = nI x := by rw [nI_eq (by omega) (by omega)]; exact e
  rcases go_first (fun i => A (x * 4 + i) = y) (La x) with hA | ⟨i, hi, hAi, hAb⟩
  rotate_left
  · exact ⟨P, Lp, I, fun post hp => br_f e' (go_isy4 nn ac pc tm md lo al A La P Lp E D W T U C IA.1 (by omega) hx hy hi hAi _ (br_f (by decide) hp)), fun post hp => br_f e' (go_psy4 nn ac pc tm md lo al A La P Lp E D W T U C IA.1 (by omega) hx hy hi hAi hAb _ (br_t (nI_pos' (by omega)) hp))⟩
  rcases go_first (fun i => P (x * 8 + i) = y) (Lp x) with hP | ⟨i, hi, hPi, hPb⟩
  rotate_left
  · exact ⟨P, Lp, I, fun post hp => br_f e' (go_is4 nn ac pc tm md lo al A La P Lp E D W T U C IA.1 (by omega) hx hy hA _ (br_t rfl (go_isy8 nn ac pc tm md lo al A La P Lp E D W T U C I.1 (by omega) hx hy hi hPi _ (br_f (by decide) hp)))), fun post hp => br_f e' (go_ps4 nn ac pc tm md lo al A La P Lp E D W T U C IA.1 (by omega) hx hy hA _ (br_f (by decide) (go_psy8 nn ac pc tm md lo al A La P Lp E D W T U C I.1 (by omega) hx hy hi hPi hPb _ (br_f (nI_pos (by omega)) hp))))⟩
  by_cases hf : Lp x = pc
  · have h0 : 0 < Lp x := by omega
    have I2 := go_rm8 hpc.2 I h0
    have l2 : go_up Lp x (Lp x - 1) x = Lp x - 1 := go_us
    have n2 : ∀ i, i < go_up Lp x (Lp x - 1) x → go_sh P (x * 8 + 0) (x * 8 + (Lp x - 1)) (x * 8 + i) ≠ y := by
      intro i hi
      rw [l2] at hi
      rw [go_rm8_at h0 hi, if_neg (by omega)]
      exact hP (i + 1) (by omega)
    have I3 := go_ap8 hpc.2 I2 (by rw [l2]; omega) hy n2
    have c1 : go_N Lp (nI x).toNatClampNeg = nI pc := by rw [go_rN Lp x rfl (by omega), hf]
    have c2 : nI x * 8 = nI (x * 8) := pk_mul x 8
    have c3 : go_N P (nI x * 8).toNatClampNeg = nI (P (x * 8 + 0)) := go_rN P (x * 8) c2 (by omega)
    have hz : P (x * 8 + 0) < 16 := I.1 _
    refine ⟨_, _, I3, fun post hp => br_f e' (go_is4 nn ac pc tm md lo al A La P Lp E D W T U C IA.1 (by omega) hx hy hA _ (br_t rfl (go_is8 nn ac pc tm md lo al A La P Lp E D W T U C I.1 (by omega) hx hy hP _ (br_t rfl ⟨vp_in_nI hx (by omega), br_t c1 ⟨pk_in (x * 8) 128 (by omega) c2, nm_r c3 ?_⟩⟩)))), fun post hp => br_f e' (go_ps4 nn ac pc tm md lo al A La P Lp E D W T U C IA.1 (by omega) hx hy hA _ (br_f (by decide) (go_ps8 nn ac pc tm md lo al A La P Lp E D W T U C I.1 (by omega) hx hy hP _ (br_t (by decide) ⟨vp_in_nI hx (by omega), br_t c1 ⟨pk_in (x * 8) 128 (by omega) c2, ?_⟩⟩))))⟩
    · exact go_rX18 nn ac pc tm md lo al A La P Lp E D W T U C hpc.2 I hx hz h0 rfl _ (go_pyX nn ac pc tm md lo al A La (go_sh P (x * 8 + 0) (x * 8 + (Lp x - 1))) (go_up Lp x (Lp x - 1)) E D W T U C hx hy (by rw [l2]; omega) post hp)
    · rw [c3]
      exact go_rY18 nn ac pc tm md lo al A La P Lp E D W T U C hpc.2 I hx hz h0 rfl (fun j hj => absurd hj (by omega)) _ (go_pyY nn ac pc tm md lo al A La (go_sh P (x * 8 + 0) (x * 8 + (Lp x - 1))) (go_up Lp x (Lp x - 1)) E D W T U C hx hy (by rw [l2]; omega) post hp)
  · have I3 := go_ap8 hpc.2 I (by omega) hy hP
    have c1 : ¬ go_N Lp (nI x).toNatClampNeg = nI pc := by rw [go_rN Lp x rfl (by omega), nI_eq (by omega) (by omega)]; exact hf
    exact ⟨_, _, I3, fun post hp => br_f e' (go_is4 nn ac pc tm md lo al A La P Lp E D W T U C IA.1 (by omega) hx hy hA _ (br_t rfl (go_is8 nn ac pc tm md lo al A La P Lp E D W T U C I.1 (by omega) hx hy hP _ (br_t rfl ⟨vp_in_nI hx (by omega), br_f c1 (go_pyX nn ac pc tm md lo al A La P Lp E D W T U C hx hy (by omega) post hp)⟩)))), fun post hp => br_f e' (go_ps4 nn ac pc tm md lo al A La P Lp E D W T U C IA.1 (by omega) hx hy hA _ (br_f (by decide) (go_ps8 nn ac pc tm md lo al A La P Lp E D W T U C I.1 (by omega) hx hy hP _ (br_t (by decide) ⟨vp_in_nI hx (by omega), br_f c1 (go_pyY nn ac pc tm md lo al A La P Lp E D W T U C hx hy (by omega) post hp)⟩))))⟩
end
end
section
section
variable (nn ac pc tm md lo : Nat) (al : Nat → Bool) (A La P Lp : Nat → Nat) (E D W : Nat → Bool) (T : Nat → Nat) (U : Nat → Bool) (C : Nat → Nat)
theorem go_dMl {x : Nat} (hx : x < 16) (post : Int32 → Prop) (hp : post (go_M D x)) : ∀ n i, i ≤ 16 → 16 - i < n → wY_dMask_4 post (nI x) (nI nn) (nI ac) (nI pc) (nI tm) (nI lo) (nI md) (go_B al) (go_N A) (go_N La) (go_N P) (go_N Lp) (go_B E) (go_B D) (go_B W) (go_N T) (go_B U) (go_N C) n (go_m (fun p => D (x * 16 + p)) i) (nI i) := by
  intro n
  induction n with
  | zero => intro i _ hn; exact absurd hn (by omega)
  | succ n ih =>
    intro i hi hn
    refine pk_le 16 i (fun h => ?_) (fun h => ⟨pk_in (x * 16 + i) 256 (by omega) (go_ix16 x i), go_brB D (x * 16 + i) (fun z => nm_r (nI_1 i) ?_) (fun z => nm_r (e' := go_m (fun p => D (x * 16 + p)) (i + 1)) ?_ (nm_r (nI_1 i) (ih (i + 1) (by omega) (by omega)))) (go_ix16 x i)⟩)
    · have e : i = 16 := by omega
      rw [e]; exact hp
    · have e : go_m (fun p => D (x * 16 + p)) (i + 1) = go_m (fun p => D (x * 16 + p)) i := by
        show cond (D (x * 16 + i)) _ _ = _
        rw [z]; rfl
      have w := ih (i + 1) (by omega) (by omega)
      rw [e] at w
      exact w
    · show _ = cond (D (x * 16 + i)) _ _
      rw [z]; rfl
theorem go_dM {x : Nat} (hx : x < 16) (post : Int32 → Prop) (hp : post (go_M D x)) : wpY_dMask post (nI nn, nI ac, nI pc, nI tm, nI lo, nI md, go_B al, go_N A, go_N La, go_N P, go_N Lp, go_B E, go_B D, go_B W, go_N T, go_B U, go_N C) (nI x) := ⟨17, go_dMl nn ac pc tm md lo al A La P Lp E D W T U C hx post hp 17 0 (by omega) (by omega)⟩
theorem go_ih {x y : Nat} (I : go_IS U C) (hl : lo + 1 < 2 ^ 31) (hx : x < 16) (hy : y < 16) : ∃ (U' : Nat → Bool) (C' : Nat → Nat) (lo' : Nat), go_IS U' C' ∧ lo' ≤ lo + 1 ∧ (∀ post : SX → Prop, post (nI nn, nI ac, nI pc, nI tm, nI md, nI lo', go_B al, go_N A, go_N La, go_N P, go_N Lp, go_M E, go_M D, go_M W, go_N T, go_S U' C') → wX_addActive_127 post (nI x) (nI y) (nI nn) (nI ac) (nI pc) (nI tm) (nI md) (nI lo) (go_B al) (go_N A) (go_N La) (go_N P) (go_N Lp) (go_M E) (go_M D) (go_M W) (go_N T) (go_S U C)) ∧ (∀ post : SY → Prop, post (nI nn, nI ac, nI pc, nI tm, nI lo', nI md, go_B al, go_N A, go_N La, go_N P, go_N Lp, go_B E, go_B D, go_B W, go_N T, go_B U', go_N C') → wY_addA_126 post (nI x) (nI y) (nI nn) (nI ac) (nI pc) (nI tm) (nI lo) (nI md) (go_B al) (go_N A) (go_N La) (go_N P) (go_N Lp) (go_B E) (go_B D) (go_B W) (go_N T) (go_B U) (go_N C)) := by
  have r := go_rM (e := nI x) D x rfl (by omega)
  by_cases h : go_M D x = 0
  · refine ⟨U, C, lo, I, by omega, fun post hp => ⟨vp_in_nI hx (by omega), br_t (r.trans h) hp⟩, fun post hp => ?_⟩
    unfold wY_addA_126
    exact go_dM nn ac pc tm md lo al A La P Lp E D W T U C hx _ (br_t h hp)
  · obtain ⟨m, hm, em⟩ := go_Mn D x
    obtain ⟨U', C', lo', I', hl', hX, hY⟩ := go_send nn ac pc tm md lo al A La P Lp E D W T U C (k := 10) I hl hx hy (by omega) (by omega) hm
    refine ⟨U', C', lo', I', hl', fun post hp => ⟨vp_in_nI hx (by omega), br_f (by rw [r]; exact h) ⟨vp_in_nI hx (by omega), ?_⟩⟩, fun post hp => ?_⟩
    · rw [r, em]
      exact hX _ hp
    · unfold wY_addA_126
      refine go_dM nn ac pc tm md lo al A La P Lp E D W T U C hx _ (br_f h ?_)
      rw [em]
      exact hY _ hp
theorem go_ta {x y : Nat} (lk : Bool) (I : go_IS U C) (hl : lo + 2 < 2 ^ 31) (hx : x < 16) (hy : y < 16) (hn : La x < 4) : ∃ (U' : Nat → Bool) (C' : Nat → Nat) (lo' : Nat), go_IS U' C' ∧ lo' ≤ lo + 2 ∧ (∀ post : SX → Prop, post (nI nn, nI ac, nI pc, nI tm, nI md, nI lo', go_B al, go_N (go_up A (x * 4 + La x) y), go_N (go_up La x (La x + 1)), go_N P, go_N Lp, go_M (go_up E (x * 16 + y) true), go_M D, go_M W, go_N T, go_S U' C') → wX_addActive_77 post (nI x) (nI y) (go_c lk) (nI nn) (nI ac) (nI pc) (nI tm) (nI md) (nI lo) (go_B al) (go_N A) (go_N La) (go_N P) (go_N Lp) (go_M E) (go_M D) (go_M W) (go_N T) (go_S U C)) ∧ (∀ post : SY → Prop, post (nI nn, nI ac, nI pc, nI tm, nI lo', nI md, go_B al, go_N (go_up A (x * 4 + La x) y), go_N (go_up La x (La x + 1)), go_N P, go_N Lp, go_B (go_up E (x * 16 + y) true), go_B D, go_B W, go_N T, go_B U', go_N C') → wY_addA_76 post (nI x) (nI y) (go_c lk) (nI nn) (nI ac) (nI pc) (nI tm) (nI lo) (nI md) (go_B al) (go_N A) (go_N La) (go_N P) (go_N Lp) (go_B E) (go_B D) (go_B W) (go_N T) (go_B U) (go_N C)) := by
  have e1 : nI x * 4 + go_N La (nI x).toNatClampNeg = nI (x * 4 + La x) := by rw [go_rN La x rfl (by omega)]; exact go_ix4 x (La x)
  have e2 : go_N La (nI x).toNatClampNeg + 1 = nI (La x + 1) := by rw [go_rN La x rfl (by omega)]; exact nI_1 _
  cases lk with
  | false =>
    obtain ⟨U', C', lo', I', hl', hX, hY⟩ := go_ih nn ac pc tm md lo al (go_up A (x * 4 + La x) y) (go_up La x (La x + 1)) P Lp (go_up E (x * 16 + y) true) D W T U C I (by omega) hx hy
    exact ⟨U', C', lo', I', by omega, fun post hp => ⟨vp_in_nI hx (by omega), pk_in (x * 4 + La x) 64 (by omega) e1, nm_r (go_uN A (x * 4 + La x) y rfl e1) ⟨vp_in_nI hx (by omega), vp_in_nI hx (by omega), nm_r (go_uN La x (La x + 1) e2) ⟨vp_in_nI hx (by omega), vp_in_nI hx (by omega), nm_r (go_uMs E x y hy) (br_t rfl (hX post hp))⟩⟩⟩, fun post hp => ⟨vp_in_nI hx (by omega), pk_in (x * 4 + La x) 64 (by omega) e1, nm_r (go_uN A (x * 4 + La x) y rfl e1) ⟨vp_in_nI hx (by omega), vp_in_nI hx (by omega), nm_r (go_uN La x (La x + 1) e2) ⟨pk_in (x * 16 + y) 256 (by omega) (go_ix16 x y), nm_r (go_uB E (x * 16 + y) true go_vt (go_ix16 x y)) (br_t rfl (hY post hp))⟩⟩⟩⟩
  | true =>
    obtain ⟨U1, C1, lo1, I1, hl1, hX1, hY1⟩ := go_send nn ac pc tm md lo al (go_up A (x * 4 + La x) y) (go_up La x (La x + 1)) P Lp (go_up E (x * 16 + y) true) D W T U C (k := 3) (a := 0) I (by omega) hx hy (by omega) (by omega) (by omega)
    obtain ⟨U', C', lo', I', hl', hX, hY⟩ := go_ih nn ac pc tm md lo1 al (go_up A (x * 4 + La x) y) (go_up La x (La x + 1)) P Lp (go_up E (x * 16 + y) true) D W T U1 C1 I1 (by omega) hx hy
    exact ⟨U', C', lo', I', by omega, fun post hp => ⟨vp_in_nI hx (by omega), pk_in (x * 4 + La x) 64 (by omega) e1, nm_r (go_uN A (x * 4 + La x) y rfl e1) ⟨vp_in_nI hx (by omega), vp_in_nI hx (by omega), nm_r (go_uN La x (La x + 1) e2) ⟨vp_in_nI hx (by omega), vp_in_nI hx (by omega), nm_r (go_uMs E x y hy) (br_f (by decide) (hX1 _ (hX post hp)))⟩⟩⟩, fun post hp => ⟨vp_in_nI hx (by omega), pk_in (x * 4 + La x) 64 (by omega) e1, nm_r (go_uN A (x * 4 + La x) y rfl e1) ⟨vp_in_nI hx (by omega), vp_in_nI hx (by omega), nm_r (go_uN La x (La x + 1) e2) ⟨pk_in (x * 16 + y) 256 (by omega) (go_ix16 x y), nm_r (go_uB E (x * 16 + y) true go_vt (go_ix16 x y)) (br_f (by decide) (hY1 _ (hY post hp)))⟩⟩⟩⟩
end
end
section
section
variable (nn ac pc tm md lo : Nat) (al : Nat → Bool) (A La P Lp : Nat → Nat) (E D W : Nat → Bool) (T : Nat → Nat) (U : Nat → Bool) (C : Nat → Nat)
theorem go_remP {x y : Nat} (hpc : 1 ≤ pc ∧ pc ≤ 8) (I : go_IV8 pc P Lp) (hx : x < 16) (hy : y < 16) : ∃ (P' Lp' : Nat → Nat), go_IV8 pc P' Lp' ∧ (∀ post : SX → Prop, post (nI nn, nI ac, nI pc, nI tm, nI md, nI lo, go_B al, go_N A, go_N La, go_N P', go_N Lp', go_M E, go_M D, go_M W, go_N T, go_S U C) → wpX_removePassive post (nI nn, nI ac, nI pc, nI tm, nI md, nI lo, go_B al, go_N A, go_N La, go_N P, go_N Lp, go_M E, go_M D, go_M W, go_N T, go_S U C) (nI x) (nI y)) ∧ (∀ post : SY → Prop, post (nI nn, nI ac, nI pc, nI tm, nI lo, nI md, go_B al, go_N A, go_N La, go_N P', go_N Lp', go_B E, go_B D, go_B W, go_N T, go_B U, go_N C) → wpY_removeP post (nI nn, nI ac, nI pc, nI tm, nI lo, nI md, go_B al, go_N A, go_N La, go_N P, go_N Lp, go_B E, go_B D, go_B W, go_N T, go_B U, go_N C) (nI x) (nI y)) := by
  rcases go_first (fun i => P (x * 8 + i) = y) (Lp x) with hP | ⟨i, hi, hPi, hPb⟩
  · exact ⟨P, Lp, I, fun post hp => go_rX08 nn ac pc tm md lo al A La P Lp E D W T U C hpc.2 I hx hy hP post hp, fun post hp => go_rY08 nn ac pc tm md lo al A La P Lp E D W T U C hpc.2 I hx hy hP post hp⟩
  · exact ⟨_, _, go_rm8 hpc.2 I hi, fun post hp => go_rX18 nn ac pc tm md lo al A La P Lp E D W T U C hpc.2 I hx hy hi hPi post hp, fun post hp => go_rY18 nn ac pc tm md lo al A La P Lp E D W T U C hpc.2 I hx hy hi hPi hPb post hp⟩
theorem go_addA {x y : Nat} (lk : Bool) (hac : 2 ≤ ac ∧ ac ≤ 4) (IA : go_IV4 ac A La) (JE : go_IE A La E) (hpc : 1 ≤ pc ∧ pc ≤ 8) (I : go_IV8 pc P Lp) (S : go_IS U C) (hl : lo + 3 < 2 ^ 31) (hx : x < 16) (hy : y < 16) : ∃ (A' La' : Nat → Nat) (E' : Nat → Bool) (P' Lp' : Nat → Nat) (U' : Nat → Bool) (C' : Nat → Nat) (lo' : Nat), go_IV4 ac A' La' ∧ go_IE A' La' E' ∧ go_IV8 pc P' Lp' ∧ go_IS U' C' ∧ lo' ≤ lo + 3 ∧ (∀ post : SX → Prop, post (nI nn, nI ac, nI pc, nI tm, nI md, nI lo', go_B al, go_N A', go_N La', go_N P', go_N Lp', go_M E', go_M D, go_M W, go_N T, go_S U' C') → wpX_addActive post (nI nn, nI ac, nI pc, nI tm, nI md, nI lo, go_B al, go_N A, go_N La, go_N P, go_N Lp, go_M E, go_M D, go_M W, go_N T, go_S U C) (nI x) (nI y) (go_c lk)) ∧ (∀ post : SY → Prop, post (nI nn, nI ac, nI pc, nI tm, nI lo', nI md, go_B al, go_N A', go_N La', go_N P', go_N Lp', go_B E', go_B D, go_B W, go_N T, go_B U', go_N C') → wpY_addA post (nI nn, nI ac, nI pc, nI tm, nI lo, nI md, go_B al, go_N A, go_N La, go_N P, go_N Lp, go_B E, go_B D, go_B W, go_N T, go_B U, go_N C) (nI x) (nI y) (go_c lk)) := by
  have hla := IA.2.1 x
  by_cases e : y = x
  · exact ⟨A, La, E, P, Lp, U, C, lo, IA, JE, I, S, by omega, fun post hp => br_t (by rw [e]) hp, fun post hp => br_t (by rw [e]) hp⟩
  have e' : ¬ nI y = nI x := by rw [nI_eq (by omega) (by omega)]; exact e
  cases hal : al y with
  | false => exact ⟨A, La, E, P, Lp, U, C, lo, IA, JE, I, S, by omega, fun post hp => br_f e' ⟨vp_in_nI hy (by omega), br_t (go_bz al y hal) hp⟩, fun post hp => br_f e' ⟨vp_in_nI hy (by omega), br_t (go_bz al y hal) hp⟩⟩
  | true =>
    rcases go_first (fun i => A (x * 4 + i) = y) (La x) with hA | ⟨i, hi, hAi, hAb⟩
    rotate_left
    · exact ⟨A, La, E, P, Lp, U, C, lo, IA, JE, I, S, by omega, fun post hp => br_f e' ⟨vp_in_nI hy (by omega), br_f (go_bn al y hal) (go_isy4 nn ac pc tm md lo al A La P Lp E D W T U C IA.1 (by omega) hx hy hi hAi _ (br_f (by decide) hp))⟩, fun post hp => br_f e' ⟨vp_in_nI hy (by omega), br_f (go_bn al y hal) (go_psy4 nn ac pc tm md lo al A La P Lp E D W T U C IA.1 (by omega) hx hy hi hAi hAb _ (br_f (nI_pos (by omega)) hp))⟩⟩
    obtain ⟨P1, Lp1, I1, hX1, hY1⟩ := go_remP nn ac pc tm md lo al A La P Lp E D W T U C hpc I hx hy
    by_cases hf : La x = ac
    · have h0 : 0 < La x := by omega
      have hz : A (x * 4 + 0) < 16 := IA.1 _
      have I2 := go_rm4 hac.2 IA h0
      have J2 := go_rmE hac.2 IA JE h0 rfl
      have l2 : go_up La x (La x - 1) x = La x - 1 := go_us
      have n2 : ∀ i, i < go_up La x (La x - 1) x → go_sh A (x * 4 + 0) (x * 4 + (La x - 1)) (x * 4 + i) ≠ y := by
        intro i hi
        rw [l2] at hi
        rw [go_rm4_at h0 hi, if_neg (by omega)]
        exact hA (i + 1) (by omega)
      obtain ⟨P3, Lp3, I3, hX3, hY3⟩ := go_addP nn ac pc tm md lo al (go_sh A (x * 4 + 0) (x * 4 + (La x - 1))) (go_up La x (La x - 1)) P1 Lp1 (go_up E (x * 16 + A (x * 4 + 0)) false) D W T U C hac.2 I2 hpc I1 hx hz
      obtain ⟨U4, C4, lo4, S4, hl4, hX4, hY4⟩ := go_send nn ac pc tm md lo al (go_sh A (x * 4 + 0) (x * 4 + (La x - 1))) (go_up La x (La x - 1)) P3 Lp3 (go_up E (x * 16 + A (x * 4 + 0)) false) D W T U C (k := 4) (a := 0) S (by omega) hx hz (by omega) (by omega) (by omega)
      obtain ⟨U5, C5, lo5, S5, hl5, hX5, hY5⟩ := go_ta nn ac pc tm md lo4 al (go_sh A (x * 4 + 0) (x * 4 + (La x - 1))) (go_up La x (La x - 1)) P3 Lp3 (go_up E (x * 16 + A (x * 4 + 0)) false) D W T U4 C4 lk S4 (by omega) hx hy (by rw [l2]; omega)
      have I6 := go_ap4 hac.2 I2 (by rw [l2]; omega) hy n2
      have J6 := go_apE (x := x) hac.2 I2 J2 (by rw [l2]; omega) hy
      have c1 : go_N La (nI x).toNatClampNeg = nI ac := by rw [go_rN La x rfl (by omega), hf]
      have c2 : nI x * 4 = nI (x * 4) := pk_mul x 4
      have c3 : go_N A (nI x * 4).toNatClampNeg = nI (A (x * 4 + 0)) := go_rN A (x * 4) c2 (by omega)
      exact ⟨_, _, _, P3, Lp3, U5, C5, lo5, I6, J6, I3, S5, by omega, fun post hp => br_f e' ⟨vp_in_nI hy (by omega), br_f (go_bn al y hal) (go_is4 nn ac pc tm md lo al A La P Lp E D W T U C IA.1 (by omega) hx hy hA _ (br_t rfl (hX1 _ ⟨vp_in_nI hx (by omega), br_t c1 ⟨pk_in (x * 4) 64 (by omega) c2, nm_r c3 (go_rX14 nn ac pc tm md lo al A La P1 Lp1 E D W T U C hac.2 IA hx hz h0 rfl _ (hX3 _ (hX4 _ (hX5 post hp))))⟩⟩)))⟩, fun post hp => br_f e' ⟨vp_in_nI hy (by omega), br_f (go_bn al y hal) (go_ps4 nn ac pc tm md lo al A La P Lp E D W T U C IA.1 (by omega) hx hy hA _ (br_t (by decide) (hY1 _ ⟨vp_in_nI hx (by omega), br_t c1 ⟨pk_in (x * 4) 64 (by omega) c2, nm_r c3 (go_rY14 nn ac pc tm md lo al A La P1 Lp1 E D W T U C hac.2 IA hx hz h0 rfl (fun j hj => absurd hj (by omega)) _ (hY3 _ (hY4 _ (hY5 post hp))))⟩⟩)))⟩⟩
    · obtain ⟨U5, C5, lo5, S5, hl5, hX5, hY5⟩ := go_ta nn ac pc tm md lo al A La P1 Lp1 E D W T U C lk S (by omega) hx hy (by omega)
      have I6 := go_ap4 hac.2 IA (by omega) hy hA
      have J6 := go_apE (x := x) hac.2 IA JE (by omega) hy
      have c1 : ¬ go_N La (nI x).toNatClampNeg = nI ac := by rw [go_rN La x rfl (by omega), nI_eq (by omega) (by omega)]; exact hf
      exact ⟨_, _, _, P1, Lp1, U5, C5, lo5, I6, J6, I1, S5, by omega, fun post hp => br_f e' ⟨vp_in_nI hy (by omega), br_f (go_bn al y hal) (go_is4 nn ac pc tm md lo al A La P Lp E D W T U C IA.1 (by omega) hx hy hA _ (br_t rfl (hX1 _ ⟨vp_in_nI hx (by omega), br_f c1 (hX5 post hp)⟩)))⟩, fun post hp => br_f e' ⟨vp_in_nI hy (by omega), br_f (go_bn al y hal) (go_ps4 nn ac pc tm md lo al A La P Lp E D W T U C IA.1 (by omega) hx hy hA _ (br_t (by decide) (hY1 _ ⟨vp_in_nI hx (by omega), br_f c1 (hY5 post hp)⟩)))⟩⟩
end
section
variable (nn ac pc tm md lo : Nat) (al : Nat → Bool) (A La : Nat → Nat) (E D W : Nat → Bool) (T : Nat → Nat) (U : Nat → Bool) (C : Nat → Nat)
theorem go_rep {x : Nat} (hpc : 1 ≤ pc ∧ pc ≤ 8) (hac : 2 ≤ ac ∧ ac ≤ 4) (hla : La x ≤ ac) (hne : La x ≠ ac) (S : go_IS U C) (hl : lo + 1 < 2 ^ 31) (hx : x < 16) : ∀ d i (P Lp : Nat → Nat), i + d = 8 → go_IV8 pc P Lp → Lp x ≤ d → ∃ (P' Lp' : Nat → Nat) (U' : Nat → Bool) (C' : Nat → Nat) (lo' : Nat), go_IV8 pc P' Lp' ∧ go_IS U' C' ∧ lo' ≤ lo + 1 ∧ (∀ post : SX → Prop, post (nI nn, nI ac, nI pc, nI tm, nI md, nI lo', go_B al, go_N A, go_N La, go_N P', go_N Lp', go_M E, go_M D, go_M W, go_N T, go_S U' C') → wX_repair_16 post (nI x) (d + 1) (nI i) (nI nn) (nI ac) (nI pc) (nI tm) (nI md) (nI lo) (go_B al) (go_N A) (go_N La) (go_N P) (go_N Lp) (go_M E) (go_M D) (go_M W) (go_N T) (go_S U C)) ∧ (∀ post : SY → Prop, post (nI nn, nI ac, nI pc, nI tm, nI lo', nI md, go_B al, go_N A, go_N La, go_N P', go_N Lp', go_B E, go_B D, go_B W, go_N T, go_B U', go_N C') → wY_repair_2 post (nI x) (d + 1) (nI i) (nI nn) (nI ac) (nI pc) (nI tm) (nI lo) (nI md) (go_B al) (go_N A) (go_N La) (go_N P) (go_N Lp) (go_B E) (go_B D) (go_B W) (go_N T) (go_B U) (go_N C)) := by
  have c1 : ¬ go_N La (nI x).toNatClampNeg = nI ac := by rw [go_rN La x rfl (by omega), nI_eq (by omega) (by omega)]; exact hne
  have c2 : nI x * 8 = nI (x * 8) := pk_mul x 8
  intro d
  induction d with
  | zero =>
    intro i P Lp hi I hL
    have e : i = 8 := by omega
    have z : go_N Lp (nI x).toNatClampNeg = 0 := by rw [go_rN Lp x rfl (by omega), show Lp x = 0 by omega]; exact nI_0
    exact ⟨P, Lp, U, C, lo, I, S, by omega, fun post hp => br_t (nI_le (a := 8) (by omega) (by omega)) hp, fun post hp => br_f (nI_ge (b := 16) (by omega) (by omega)) ⟨vp_in_nI hx (by omega), br_f c1 ⟨vp_in_nI hx (by omega), br_t z hp⟩⟩⟩
  | succ d ih =>
    intro i P Lp hi I hL
    have hlp := I.2.1 x
    by_cases h0 : Lp x = 0
    · have z : go_N Lp (nI x).toNatClampNeg = 0 := by rw [go_rN Lp x rfl (by omega), h0]; exact nI_0
      exact ⟨P, Lp, U, C, lo, I, S, by omega, fun post hp => br_f (nI_ge (b := 8) (by omega) (by omega)) ⟨vp_in_nI hx (by omega), br_t z hp⟩, fun post hp => br_f (nI_ge (b := 16) (by omega) (by omega)) ⟨vp_in_nI hx (by omega), br_f c1 ⟨vp_in_nI hx (by omega), br_t z hp⟩⟩⟩
    · have z : ¬ go_N Lp (nI x).toNatClampNeg = 0 := by rw [go_rN Lp x rfl (by omega)]; exact nI_ne0 (by omega) (by omega)
      have h1 : 0 < Lp x := by omega
      have hz : P (x * 8 + 0) < 16 := I.1 _
      have c3 : go_N P (nI x * 8).toNatClampNeg = nI (P (x * 8 + 0)) := go_rN P (x * 8) c2 (by omega)
      have I2 := go_rm8 hpc.2 I h1
      have l2 : go_up Lp x (Lp x - 1) x = Lp x - 1 := go_us
      cases hal : al (P (x * 8 + 0)) with
      | false =>
        obtain ⟨P', Lp', U', C', lo', I', S', hl', hX, hY⟩ := ih (i + 1) (go_sh P (x * 8 + 0) (x * 8 + (Lp x - 1))) (go_up Lp x (Lp x - 1)) (by omega) I2 (by rw [l2]; omega)
        exact ⟨P', Lp', U', C', lo', I', S', hl', fun post hp => br_f (nI_ge (b := 8) (by omega) (by omega)) ⟨vp_in_nI hx (by omega), br_f z ⟨pk_in (x * 8) 128 (by omega) c2, nm_r c3 (go_rX18 nn ac pc tm md lo al A La P Lp E D W T U C hpc.2 I hx hz h1 rfl _ ⟨vp_in_nI hz (by omega), br_t (go_bz al _ hal) (nm_r (nI_1 i) (hX post hp))⟩)⟩⟩, fun post hp => br_f (nI_ge (b := 16) (by omega) (by omega)) ⟨vp_in_nI hx (by omega), br_f c1 ⟨vp_in_nI hx (by omega), br_f z ⟨pk_in (x * 8) 128 (by omega) c2, nm_r c3 (go_rY18 nn ac pc tm md lo al A La P Lp E D W T U C hpc.2 I hx hz h1 rfl (fun j hj => absurd hj (by omega)) _ ⟨vp_in_nI hz (by omega), br_t (go_bz al _ hal) (nm_r (nI_1 i) (hY post hp))⟩)⟩⟩⟩⟩
      | true =>
        by_cases hq : La x = 0
        · have q : go_N La (nI x).toNatClampNeg = 0 := by rw [go_rN La x rfl (by omega), hq]; exact nI_0
          obtain ⟨U', C', lo', S', hl', hX, hY⟩ := go_send nn ac pc tm md lo al A La (go_sh P (x * 8 + 0) (x * 8 + (Lp x - 1))) (go_up Lp x (Lp x - 1)) E D W T U C (k := 5) (a := 1) S hl hx hz (by omega) (by omega) (by omega)
          exact ⟨_, _, U', C', lo', I2, S', hl', fun post hp => br_f (nI_ge (b := 8) (by omega) (by omega)) ⟨vp_in_nI hx (by omega), br_f z ⟨pk_in (x * 8) 128 (by omega) c2, nm_r c3 (go_rX18 nn ac pc tm md lo al A La P Lp E D W T U C hpc.2 I hx hz h1 rfl _ ⟨vp_in_nI hz (by omega), br_f (go_bn al _ hal) ⟨vp_in_nI hx (by omega), br_t q (by unfold wX_repair_75; exact hX _ hp)⟩⟩)⟩⟩, fun post hp => br_f (nI_ge (b := 16) (by omega) (by omega)) ⟨vp_in_nI hx (by omega), br_f c1 ⟨vp_in_nI hx (by omega), br_f z ⟨pk_in (x * 8) 128 (by omega) c2, nm_r c3 (go_rY18 nn ac pc tm md lo al A La P Lp E D W T U C hpc.2 I hx hz h1 rfl (fun j hj => absurd hj (by omega)) _ ⟨vp_in_nI hz (by omega), br_f (go_bn al _ hal) ⟨vp_in_nI hx (by omega), br_t q (by unfold wY_repair_70; exact hY _ hp)⟩⟩)⟩⟩⟩⟩
        · have q : ¬ go_N La (nI x).toNatClampNeg = 0 := by rw [go_rN La x rfl (by omega)]; exact nI_ne0 (by omega) (by omega)
          obtain ⟨U', C', lo', S', hl', hX, hY⟩ := go_send nn ac pc tm md lo al A La (go_sh P (x * 8 + 0) (x * 8 + (Lp x - 1))) (go_up Lp x (Lp x - 1)) E D W T U C (k := 5) (a := 0) S hl hx hz (by omega) (by omega) (by omega)
          exact ⟨_, _, U', C', lo', I2, S', hl', fun post hp => br_f (nI_ge (b := 8) (by omega) (by omega)) ⟨vp_in_nI hx (by omega), br_f z ⟨pk_in (x * 8) 128 (by omega) c2, nm_r c3 (go_rX18 nn ac pc tm md lo al A La P Lp E D W T U C hpc.2 I hx hz h1 rfl _ ⟨vp_in_nI hz (by omega), br_f (go_bn al _ hal) ⟨vp_in_nI hx (by omega), br_f q (by unfold wX_repair_75; exact hX _ hp)⟩⟩)⟩⟩, fun post hp => br_f (nI_ge (b := 16) (by omega) (by omega)) ⟨vp_in_nI hx (by omega), br_f c1 ⟨vp_in_nI hx (by omega), br_f z ⟨pk_in (x * 8) 128 (by omega) c2, nm_r c3 (go_rY18 nn ac pc tm md lo al A La P Lp E D W T U C hpc.2 I hx hz h1 rfl (fun j hj => absurd hj (by omega)) _ ⟨vp_in_nI hz (by omega), br_f (go_bn al _ hal) ⟨vp_in_nI hx (by omega), br_f q (by unfold wY_repair_70; exact hY _ hp)⟩⟩)⟩⟩⟩⟩
end
section
variable (nn ac pc tm md lo : Nat) (al : Nat → Bool) (A La P Lp : Nat → Nat) (E D W : Nat → Bool) (T : Nat → Nat) (U : Nat → Bool) (C : Nat → Nat)
theorem go_repair {x : Nat} (hac : 2 ≤ ac ∧ ac ≤ 4) (hla : La x ≤ ac) (hpc : 1 ≤ pc ∧ pc ≤ 8) (I : go_IV8 pc P Lp) (S : go_IS U C) (hl : lo + 1 < 2 ^ 31) (hx : x < 16) : ∃ (P' Lp' : Nat → Nat) (U' : Nat → Bool) (C' : Nat → Nat) (lo' : Nat), go_IV8 pc P' Lp' ∧ go_IS U' C' ∧ lo' ≤ lo + 1 ∧ (∀ post : SX → Prop, post (nI nn, nI ac, nI pc, nI tm, nI md, nI lo', go_B al, go_N A, go_N La, go_N P', go_N Lp', go_M E, go_M D, go_M W, go_N T, go_S U' C') → wpX_repair post (nI nn, nI ac, nI pc, nI tm, nI md, nI lo, go_B al, go_N A, go_N La, go_N P, go_N Lp, go_M E, go_M D, go_M W, go_N T, go_S U C) (nI x)) ∧ (∀ post : SY → Prop, post (nI nn, nI ac, nI pc, nI tm, nI lo', nI md, go_B al, go_N A, go_N La, go_N P', go_N Lp', go_B E, go_B D, go_B W, go_N T, go_B U', go_N C') → wpY_repair post (nI nn, nI ac, nI pc, nI tm, nI lo, nI md, go_B al, go_N A, go_N La, go_N P, go_N Lp, go_B E, go_B D, go_B W, go_N T, go_B U, go_N C) (nI x)) := by
  have hlp := I.2.1 x
  by_cases hf : La x = ac
  · have c1 : go_N La (nI x).toNatClampNeg = nI ac := by rw [go_rN La x rfl (by omega), hf]
    exact ⟨P, Lp, U, C, lo, I, S, by omega, fun post hp => ⟨vp_in_nI hx (by omega), br_t c1 hp⟩, fun post hp => ⟨1, br_f (nI_ge (a := 0) (b := 16) (by omega) (by omega)) ⟨vp_in_nI hx (by omega), br_t c1 hp⟩⟩⟩
  · have c1 : ¬ go_N La (nI x).toNatClampNeg = nI ac := by rw [go_rN La x rfl (by omega), nI_eq (by omega) (by omega)]; exact hf
    obtain ⟨P', Lp', U', C', lo', I', S', hl', hX, hY⟩ := go_rep nn ac pc tm md lo al A La E D W T U C hpc hac hla hf S hl hx 8 0 P Lp (by omega) I (by omega)
    exact ⟨P', Lp', U', C', lo', I', S', hl', fun post hp => ⟨vp_in_nI hx (by omega), br_f c1 ⟨_, hX post hp⟩⟩, fun post hp => ⟨_, hY post hp⟩⟩
theorem go_me1 {x y i : Nat} (hA : ∀ j, A j < 16) (hL : La x ≤ 4) (hx : x < 16) (hy : y < 16) (hi : i < La x) (he : A (x * 4 + i) = y) (post : SX → Prop) (hp : post (nI nn, nI ac, nI pc, nI tm, nI md, nI lo, go_B al, go_N A, go_N La, go_N P, go_N Lp, go_M (go_up E (x * 16 + y) true), go_M D, go_M W, go_N T, go_S U C)) : wpX_makeEager post (nI nn, nI ac, nI pc, nI tm, nI md, nI lo, go_B al, go_N A, go_N La, go_N P, go_N Lp, go_M E, go_M D, go_M W, go_N T, go_S U C) (nI x) (nI y) := by
  unfold wpX_makeEager
  exact go_isy4 nn ac pc tm md lo al A La P Lp E D W T U C hA hL hx hy hi he _ (br_f (by decide) ⟨vp_in_nI hx (by omega), vp_in_nI hx (by omega), nm_r (go_uMs E x y hy) hp⟩)
theorem go_me0 {x y : Nat} (hA : ∀ j, A j < 16) (hL : La x ≤ 4) (hx : x < 16) (hy : y < 16) (h : ∀ i, i < La x → A (x * 4 + i) ≠ y) (post : SX → Prop) (hp : post (nI nn, nI ac, nI pc, nI tm, nI md, nI lo, go_B al, go_N A, go_N La, go_N P, go_N Lp, go_M E, go_M D, go_M W, go_N T, go_S U C)) : wpX_makeEager post (nI nn, nI ac, nI pc, nI tm, nI md, nI lo, go_B al, go_N A, go_N La, go_N P, go_N Lp, go_M E, go_M D, go_M W, go_N T, go_S U C) (nI x) (nI y) := by
  unfold wpX_makeEager
  exact go_is4 nn ac pc tm md lo al A La P Lp E D W T U C hA hL hx hy h _ (br_t rfl hp)
theorem go_stl {x g : Nat} (hx : x < 16) (post : SX → Prop) (hp : post (nI nn, nI ac, nI pc, nI tm, nI md, nI lo, go_B al, go_N A, go_N La, go_N P, go_N Lp, go_M E, go_M D, go_M (go_oW W x (nI g) 16), go_N (go_ov T 0 x (nI g) 16), go_S U C)) : ∀ n b, b ≤ 16 → 16 - b < n → wX_stopWaitingFor_2 post (nI x) (nI g) (nI nn) (nI ac) (nI pc) (nI tm) (nI md) (nI lo) n (nI b) (go_B al) (go_N A) (go_N La) (go_N P) (go_N Lp) (go_M E) (go_M D) (go_M (go_oW W x (nI g) b)) (go_N (go_ov T 0 x (nI g) b)) (go_S U C) := by
  intro n
  induction n with
  | zero => intro i _ hn; exact absurd hn (by omega)
  | succ n ih =>
    intro b hb hn
    refine pk_le 16 b (fun h => ?_) (fun h => go_brb g b h (fun z => nm_r (nI_1 b) ?_) (fun z => ⟨pk_in (x * 16 + b) 256 (by omega) (go_ix16 x b), nm_r ((go_uMz _ (x * 16 + b) (go_ix16 x b)).trans (congrArg go_M (go_oWt W x z))) ⟨pk_in (x * 16 + b) 256 (by omega) (go_ix16 x b), nm_r ((go_uN _ (x * 16 + b) 0 rfl (go_ix16 x b)).trans (congrArg go_N (go_ovt T 0 x z))) (nm_r (nI_1 b) (ih (b + 1) (by omega) (by omega)))⟩⟩))
    · have e : b = 16 := by omega
      rw [e]; exact hp
    · have w := ih (b + 1) (by omega) (by omega)
      rw [← go_oWf W x z, ← go_ovf T 0 x z] at w
      exact w
theorem go_stop {x g : Nat} (hx : x < 16) (post : SX → Prop) (hp : post (nI nn, nI ac, nI pc, nI tm, nI md, nI lo, go_B al, go_N A, go_N La, go_N P, go_N Lp, go_M E, go_M D, go_M (go_oW W x (nI g) 16), go_N (go_ov T 0 x (nI g) 16), go_S U C)) : wpX_stopWaitingFor post (nI nn, nI ac, nI pc, nI tm, nI md, nI lo, go_B al, go_N A, go_N La, go_N P, go_N Lp, go_M E, go_M D, go_M W, go_N T, go_S U C) (nI x) (nI g) := by
  have w := go_stl nn ac pc tm md lo al A La P Lp E D W T U C hx post hp 17 0 (by omega) (by omega)
  rw [go_oW0, go_ov0] at w
  exact ⟨17, w⟩
end
section
variable (nn ac pc tm md : Nat) (al : Nat → Bool) (A La P Lp : Nat → Nat) (E D W : Nat → Bool) (T : Nat → Nat)
theorem go_fwl {x m : Nat} {sv : Int32} (hA : ∀ j, A j < 16) (hL : La x ≤ 4) (hx : x < 16) (hm : m < 65536) : ∀ d i (lo : Nat) (U : Nat → Bool) (C : Nat → Nat), i + d = La x → go_IS U C → lo + d < 2 ^ 31 → ∃ (U' : Nat → Bool) (C' : Nat → Nat) (lo' : Nat), go_IS U' C' ∧ lo' ≤ lo + d ∧ (∀ post : SX → Prop, post (nI nn, nI ac, nI pc, nI tm, nI md, nI lo', go_B al, go_N A, go_N La, go_N P, go_N Lp, go_M E, go_M D, go_M W, go_N T, go_S U' C') → wX_forward_11 post (nI x) sv (nI m) (nI (La x)) (d + 1) (nI i) (nI nn) (nI ac) (nI pc) (nI tm) (nI md) (nI lo) (go_B al) (go_N A) (go_N La) (go_N P) (go_N Lp) (go_M E) (go_M D) (go_M W) (go_N T) (go_S U C)) ∧ (∀ post : SY → Prop, post (nI nn, nI ac, nI pc, nI tm, nI lo', nI md, go_B al, go_N A, go_N La, go_N P, go_N Lp, go_B E, go_B D, go_B W, go_N T, go_B U', go_N C') → wY_forward_3 post (nI x) sv (nI m) (d + 1) (nI i) (nI nn) (nI ac) (nI pc) (nI tm) (nI lo) (nI md) (go_B al) (go_N A) (go_N La) (go_N P) (go_N Lp) (go_B E) (go_B D) (go_B W) (go_N T) (go_B U) (go_N C)) := by
  intro d
  have rl := go_rN (e := nI x) La x rfl (by omega)
  induction d with
  | zero =>
    intro i lo U C hi S hl
    exact ⟨U, C, lo, S, by omega, fun post hp => br_t (nI_le (by omega) (by omega)) hp, fun post hp => ⟨vp_in_nI hx (by omega), br_t (by rw [rl]; exact nI_le (by omega) (by omega)) hp⟩⟩
  | succ d ih =>
    intro i lo U C hi S hl
    have hz : A (x * 4 + i) < 16 := hA _
    have ra := go_rN (e := nI x * 4 + nI i) A (x * 4 + i) (go_ix4 x i) (by omega)
    by_cases hs : nI (A (x * 4 + i)) = sv
    · obtain ⟨U', C', lo', S', hl', hX, hY⟩ := ih (i + 1) lo U C (by omega) S (by omega)
      exact ⟨U', C', lo', S', by omega, fun post hp => br_f (nI_ge (by omega) (by omega)) ⟨pk_in (x * 4 + i) 64 (by omega) (go_ix4 x i), nm_r ra (br_t hs (nm_r (nI_1 i) (hX post hp)))⟩, fun post hp => ⟨vp_in_nI hx (by omega), br_f (by rw [rl]; exact nI_ge (by omega) (by omega)) ⟨pk_in (x * 4 + i) 64 (by omega) (go_ix4 x i), nm_r ra (br_t hs (nm_r (nI_1 i) (hY post hp)))⟩⟩⟩
    · have ie := go_ix16 x (A (x * 4 + i))
      cases hE : E (x * 16 + A (x * 4 + i)) with
      | false =>
        obtain ⟨U1, C1, lo1, S1, hl1, hX1, hY1⟩ := go_send nn ac pc tm md lo al A La P Lp E D W T U C (k := 10) S (by omega) hx hz (by omega) (by omega) hm
        obtain ⟨U', C', lo', S', hl', hX, hY⟩ := ih (i + 1) lo1 U1 C1 (by omega) S1 (by omega)
        exact ⟨U', C', lo', S', by omega, fun post hp => br_f (nI_ge (by omega) (by omega)) ⟨pk_in (x * 4 + i) 64 (by omega) (go_ix4 x i), nm_r ra (br_f hs ⟨vp_in_nI hx (by omega), br_t (go_mz E x _ hz hE) (br_t rfl (by unfold wX_forward_74; exact hX1 _ (nm_r (nI_1 i) (hX post hp))))⟩)⟩, fun post hp => ⟨vp_in_nI hx (by omega), br_f (by rw [rl]; exact nI_ge (by omega) (by omega)) ⟨pk_in (x * 4 + i) 64 (by omega) (go_ix4 x i), nm_r ra (br_f hs ⟨pk_in (x * 16 + A (x * 4 + i)) 256 (by omega) ie, br_t (go_bz E _ hE ie) (hY1 _ (nm_r (nI_1 i) (hY post hp)))⟩)⟩⟩⟩
      | true =>
        obtain ⟨U1, C1, lo1, S1, hl1, hX1, hY1⟩ := go_send nn ac pc tm md lo al A La P Lp E D W T U C (k := 9) S (by omega) hx hz (by omega) (by omega) hm
        obtain ⟨U', C', lo', S', hl', hX, hY⟩ := ih (i + 1) lo1 U1 C1 (by omega) S1 (by omega)
        exact ⟨U', C', lo', S', by omega, fun post hp => br_f (nI_ge (by omega) (by omega)) ⟨pk_in (x * 4 + i) 64 (by omega) (go_ix4 x i), nm_r ra (br_f hs ⟨vp_in_nI hx (by omega), br_f (go_mn E x _ hz hE) (br_f (by decide) (by unfold wX_forward_74; exact hX1 _ (nm_r (nI_1 i) (hX post hp))))⟩)⟩, fun post hp => ⟨vp_in_nI hx (by omega), br_f (by rw [rl]; exact nI_ge (by omega) (by omega)) ⟨pk_in (x * 4 + i) 64 (by omega) (go_ix4 x i), nm_r ra (br_f hs ⟨pk_in (x * 16 + A (x * 4 + i)) 256 (by omega) ie, br_f (go_bn E _ hE ie) (hY1 _ (nm_r (nI_1 i) (hY post hp)))⟩)⟩⟩⟩
end
section
variable (nn ac pc tm md lo : Nat) (al : Nat → Bool) (A La P Lp : Nat → Nat) (E D W : Nat → Bool) (T : Nat → Nat) (U : Nat → Bool) (C : Nat → Nat)
theorem go_fwd {x m : Nat} (sv : Int32) (hA : ∀ j, A j < 16) (hL : La x ≤ 4) (S : go_IS U C) (hl : lo + 4 < 2 ^ 31) (hx : x < 16) (hm : m < 65536) : ∃ (U' : Nat → Bool) (C' : Nat → Nat) (lo' : Nat), go_IS U' C' ∧ lo' ≤ lo + 4 ∧ (∀ post : SX → Prop, post (nI nn, nI ac, nI pc, nI tm, nI md, nI lo', go_B al, go_N A, go_N La, go_N P, go_N Lp, go_M E, go_M D, go_M W, go_N T, go_S U' C') → wpX_forward post (nI nn, nI ac, nI pc, nI tm, nI md, nI lo, go_B al, go_N A, go_N La, go_N P, go_N Lp, go_M E, go_M D, go_M W, go_N T, go_S U C) (nI x) sv (nI m)) ∧ (∀ post : SY → Prop, post (nI nn, nI ac, nI pc, nI tm, nI lo', nI md, go_B al, go_N A, go_N La, go_N P, go_N Lp, go_B E, go_B D, go_B W, go_N T, go_B U', go_N C') → wpY_forward post (nI nn, nI ac, nI pc, nI tm, nI lo, nI md, go_B al, go_N A, go_N La, go_N P, go_N Lp, go_B E, go_B D, go_B W, go_N T, go_B U, go_N C) (nI x) sv (nI m)) := by
  obtain ⟨U', C', lo', S', hl', hX, hY⟩ := go_fwl nn ac pc tm md al A La P Lp E D W T (sv := sv) hA hL hx hm (La x) 0 lo U C (by omega) S (by omega)
  exact ⟨U', C', lo', S', by omega, fun post hp => ⟨vp_in_nI hx (by omega), nm_r (go_rN La x rfl (by omega)) ⟨_, hX post hp⟩⟩, fun post hp => ⟨_, hY post hp⟩⟩
end
end
section
def go_Z (ac pc : Nat) (A La P Lp : Nat → Nat) (E : Nat → Bool) (T : Nat → Nat) (U : Nat → Bool) (C : Nat → Nat) : Prop := go_IV4 ac A La ∧ go_IE A La E ∧ go_IV8 pc P Lp ∧ (∀ j, T j ≤ 8) ∧ go_IS U C
section
variable (nn ac pc tm md : Nat) (al : Nat → Bool) (A La P Lp : Nat → Nat) (E D W : Nat → Bool) (T : Nat → Nat)
theorem go_jl {x y : Nat} (hA : ∀ j, A j < 16) (hL : La y ≤ 4) (hx : x < 16) (hy : y < 16) : ∀ d i (lo : Nat) (U : Nat → Bool) (C : Nat → Nat), i + d = La y → go_IS U C → lo + d < 2 ^ 31 → ∃ (U' : Nat → Bool) (C' : Nat → Nat) (lo' : Nat), go_IS U' C' ∧ lo' ≤ lo + d ∧ (∀ post : SX → Prop, post (nI nn, nI ac, nI pc, nI tm, nI md, nI lo', go_B al, go_N A, go_N La, go_N P, go_N Lp, go_M E, go_M D, go_M W, go_N T, go_S U' C') → wX_onJoin_17 post (nI y) (nI x) (nI (La y)) (d + 1) (nI i) (nI nn) (nI ac) (nI pc) (nI tm) (nI md) (nI lo) (go_B al) (go_N A) (go_N La) (go_N P) (go_N Lp) (go_M E) (go_M D) (go_M W) (go_N T) (go_S U C)) ∧ (∀ post : SY → Prop, post (nI nn, nI ac, nI pc, nI tm, nI lo', nI md, go_B al, go_N A, go_N La, go_N P, go_N Lp, go_B E, go_B D, go_B W, go_N T, go_B U', go_N C') → wY_handle_15 post (nI x) (nI y) (d + 1) (nI i) (nI nn) (nI ac) (nI pc) (nI tm) (nI lo) (nI md) (go_B al) (go_N A) (go_N La) (go_N P) (go_N Lp) (go_B E) (go_B D) (go_B W) (go_N T) (go_B U) (go_N C)) := by
  intro d
  have rl := go_rN (e := nI y) La y rfl (by omega)
  obtain ⟨a, ha, ea⟩ := go_j48 x hx
  induction d with
  | zero =>
    intro i lo U C hi S hl
    exact ⟨U, C, lo, S, by omega, fun post hp => br_t (nI_le (by omega) (by omega)) hp, fun post hp => ⟨vp_in_nI hy (by omega), br_t (by rw [rl]; exact nI_le (by omega) (by omega)) hp⟩⟩
  | succ d ih =>
    intro i lo U C hi S hl
    have hz : A (y * 4 + i) < 16 := hA _
    have ra := go_rN (e := nI y * 4 + nI i) A (y * 4 + i) (go_ix4 y i) (by omega)
    by_cases hs : A (y * 4 + i) = x
    · obtain ⟨U', C', lo', S', hl', hX, hY⟩ := ih (i + 1) lo U C (by omega) S (by omega)
      exact ⟨U', C', lo', S', by omega, fun post hp => br_f (nI_ge (by omega) (by omega)) ⟨pk_in (y * 4 + i) 64 (by omega) (go_ix4 y i), nm_r ra (br_t (by rw [hs]) (nm_r (nI_1 i) (hX post hp)))⟩, fun post hp => ⟨vp_in_nI hy (by omega), br_f (by rw [rl]; exact nI_ge (by omega) (by omega)) ⟨pk_in (y * 4 + i) 64 (by omega) (go_ix4 y i), nm_r ra (br_t (by rw [hs]) (nm_r (nI_1 i) (hY post hp)))⟩⟩⟩
    · have hs' : ¬ nI (A (y * 4 + i)) = nI x := by rw [nI_eq (by omega) (by omega)]; exact hs
      obtain ⟨U1, C1, lo1, S1, hl1, hX1, hY1⟩ := go_send nn ac pc tm md lo al A La P Lp E D W T U C (k := 2) S (by omega) hy hz (by omega) (by omega) ha
      obtain ⟨U', C', lo', S', hl', hX, hY⟩ := ih (i + 1) lo1 U1 C1 (by omega) S1 (by omega)
      exact ⟨U', C', lo', S', by omega, fun post hp => br_f (nI_ge (by omega) (by omega)) ⟨pk_in (y * 4 + i) 64 (by omega) (go_ix4 y i), nm_r ra (br_f hs' (by rw [ea]; exact hX1 _ (nm_r (nI_1 i) (hX post hp))))⟩, fun post hp => ⟨vp_in_nI hy (by omega), br_f (by rw [rl]; exact nI_ge (by omega) (by omega)) ⟨pk_in (y * 4 + i) 64 (by omega) (go_ix4 y i), nm_r ra (br_f hs' (by rw [ea]; exact hY1 _ (nm_r (nI_1 i) (hY post hp))))⟩⟩⟩
end
section
variable (nn ac pc tm md lo : Nat) (al : Nat → Bool) (A La P Lp : Nat → Nat) (E D W : Nat → Bool) (T : Nat → Nat) (U : Nat → Bool) (C : Nat → Nat)
theorem go_h1 {x y : Nat} (p3 : Int32) (hac : 2 ≤ ac ∧ ac ≤ 4) (hpc : 1 ≤ pc ∧ pc ≤ 8) (Z : go_Z ac pc A La P Lp E T U C) (hl : lo + 10 < 2 ^ 31) (hx : x < 16) (hy : y < 16) : ∃ (A' La' P' Lp' : Nat → Nat) (E' D' W' : Nat → Bool) (T' : Nat → Nat) (U' : Nat → Bool) (C' : Nat → Nat) (lo' : Nat), go_Z ac pc A' La' P' Lp' E' T' U' C' ∧ lo' ≤ lo + 10 ∧ (∀ post : SX → Prop, post (nI nn, nI ac, nI pc, nI tm, nI md, nI lo', go_B al, go_N A', go_N La', go_N P', go_N Lp', go_M E', go_M D', go_M W', go_N T', go_S U' C') → wpX_onJoin post (nI nn, nI ac, nI pc, nI tm, nI md, nI lo, go_B al, go_N A, go_N La, go_N P, go_N Lp, go_M E, go_M D, go_M W, go_N T, go_S U C) (nI y) (nI x)) ∧ (∀ post : SY → Prop, post (nI nn, nI ac, nI pc, nI tm, nI lo', nI md, go_B al, go_N A', go_N La', go_N P', go_N Lp', go_B E', go_B D', go_B W', go_N T', go_B U', go_N C') → wpY_handle post (nI nn, nI ac, nI pc, nI tm, nI lo, nI md, go_B al, go_N A, go_N La, go_N P, go_N Lp, go_B E, go_B D, go_B W, go_N T, go_B U, go_N C) 1 (nI x) (nI y) p3) := by
  obtain ⟨IA, JE, I, hT, S⟩ := Z
  obtain ⟨A1, La1, E1, P1, Lp1, U1, C1, lo1, IA1, JE1, I1, S1, hl1, hX1, hY1⟩ := go_addA nn ac pc tm md lo al A La P Lp E D W T U C true hac IA JE hpc I S (by omega) hy hx
  have hla := IA1.2.1 y
  obtain ⟨U', C', lo', S', hl', hX, hY⟩ := go_jl nn ac pc tm md al A1 La1 P1 Lp1 E1 D W T (x := x) IA1.1 (by omega) hx hy (La1 y) 0 lo1 U1 C1 (by omega) S1 (by omega)
  refine ⟨A1, La1, P1, Lp1, E1, D, W, T, U', C', lo', ⟨IA1, JE1, I1, hT, S'⟩, by omega, fun post hp => ?_, fun post hp => br_t rfl (hY1 _ ⟨_, hY post hp⟩)⟩
  unfold wpX_onJoin
  exact hX1 _ ⟨vp_in_nI hy (by omega), nm_r (go_rN La1 y rfl (by omega)) ⟨_, hX post hp⟩⟩
theorem go_fx0 {x y w : Nat} (hA : ∀ j, A j < 16) (hL : La y ≤ 4) (hx : x < 16) (hy : y < 16) (hw : w < 16) (h : ∀ i, i < La y → ¬ (A (y * 4 + i) ≠ x ∧ A (y * 4 + i) ≠ w)) (post : Int32 → Prop) (hp : post (-1)) : ∀ n i, i ≤ La y → La y - i < n → wX_firstActiveExcept_3 post (nI y) (nI x) (nI w) (nI nn) (nI ac) (nI pc) (nI tm) (nI md) (nI lo) (go_B al) (go_N A) (go_N La) (go_N P) (go_N Lp) (go_M E) (go_M D) (go_M W) (go_N T) (go_S U C) n (nI i) := by
  intro n
  induction n with
  | zero => intro i _ hn; exact absurd hn (by omega)
  | succ n ih =>
    intro i hi hn
    have hz : A (y * 4 + i) < 16 := hA _
    refine ⟨vp_in_nI hy (by omega), pk_le (La y) i (fun _ => hp) (fun h2 => ⟨pk_in (y * 4 + i) 64 (by omega) (go_ix4 y i), nm_r (go_rN A (y * 4 + i) (go_ix4 y i) (by omega)) (pk_eq (A (y * 4 + i)) x (fun _ => nm_r (nI_1 i) (ih (i + 1) (by omega) (by omega))) (fun h3 => pk_eq (A (y * 4 + i)) w (fun _ => nm_r (nI_1 i) (ih (i + 1) (by omega) (by omega))) (fun h4 => absurd ⟨h3, h4⟩ (h i h2))))⟩) (go_rN La y rfl (by omega)) rfl (by omega) (by omega)⟩
theorem go_fx1 {x y w i0 : Nat} (hA : ∀ j, A j < 16) (hL : La y ≤ 4) (hx : x < 16) (hy : y < 16) (hw : w < 16) (h0 : i0 < La y) (he : A (y * 4 + i0) ≠ x ∧ A (y * 4 + i0) ≠ w) (hb : ∀ j, j < i0 → ¬ (A (y * 4 + j) ≠ x ∧ A (y * 4 + j) ≠ w)) (post : Int32 → Prop) (hp : post (nI (A (y * 4 + i0)))) : ∀ n i, i ≤ i0 → i0 - i < n → wX_firstActiveExcept_3 post (nI y) (nI x) (nI w) (nI nn) (nI ac) (nI pc) (nI tm) (nI md) (nI lo) (go_B al) (go_N A) (go_N La) (go_N P) (go_N Lp) (go_M E) (go_M D) (go_M W) (go_N T) (go_S U C) n (nI i) := by
  intro n
  induction n with
  | zero => intro i _ hn; exact absurd hn (by omega)
  | succ n ih =>
    intro i hi hn
    have hz : A (y * 4 + i) < 16 := hA _
    have k : ¬ (A (y * 4 + i) ≠ x ∧ A (y * 4 + i) ≠ w) → i < i0 := by
      intro q
      rcases Nat.lt_or_ge i i0 with r | r
      · exact r
      · rw [show i = i0 by omega] at q; exact absurd he q
    refine ⟨vp_in_nI hy (by omega), pk_le (La y) i (fun h2 => absurd h2 (by omega)) (fun h2 => ⟨pk_in (y * 4 + i) 64 (by omega) (go_ix4 y i), nm_r (go_rN A (y * 4 + i) (go_ix4 y i) (by omega)) (pk_eq (A (y * 4 + i)) x (fun h3 => nm_r (nI_1 i) ?_) (fun h3 => pk_eq (A (y * 4 + i)) w (fun h4 => nm_r (nI_1 i) ?_) (fun h4 => ?_)))⟩) (go_rN La y rfl (by omega)) rfl (by omega) (by omega)⟩
    · have q := k (fun z => z.1 h3)
      exact ih (i + 1) (by omega) (by omega)
    · have q := k (fun z => z.2 h4)
      exact ih (i + 1) (by omega) (by omega)
    · have e : i = i0 := by
        rcases Nat.lt_or_ge i i0 with r | r
        · exact absurd ⟨h3, h4⟩ (hb i r)
        · omega
      rw [e]; exact hp
theorem go_fy0 {x y w t : Nat} (hA : ∀ j, A j < 16) (hL : La y ≤ 4) (hx : x < 16) (hy : y < 16) (hw : w < 16) (h : ∀ i, i < La y → ¬ (A (y * 4 + i) ≠ x ∧ A (y * 4 + i) ≠ w)) (post : SY → Prop) (hp : wY_handle_182 post (nI y) (nI w) (nI t) (-1) (nI nn) (nI ac) (nI pc) (nI tm) (nI lo) (nI md) (go_B al) (go_N A) (go_N La) (go_N P) (go_N Lp) (go_B E) (go_B D) (go_B W) (go_N T) (go_B U) (go_N C)) : ∀ n i, i ≤ La y → La y - i < n → wY_handle_130 post (nI x) (nI y) (nI w) (nI t) (nI nn) (nI ac) (nI pc) (nI tm) (nI lo) (nI md) (go_B al) (go_N A) (go_N La) (go_N P) (go_N Lp) (go_B E) (go_B D) (go_B W) (go_N T) (go_B U) (go_N C) n (-1) (nI i) := by
  intro n
  induction n with
  | zero => intro i _ hn; exact absurd hn (by omega)
  | succ n ih =>
    intro i hi hn
    have hz : A (y * 4 + i) < 16 := hA _
    refine ⟨vp_in_nI hy (by omega), pk_le (La y) i (fun _ => hp) (fun h2 => br_f (by decide) ⟨pk_in (y * 4 + i) 64 (by omega) (go_ix4 y i), nm_r (go_rN A (y * 4 + i) (go_ix4 y i) (by omega)) (pk_eq (A (y * 4 + i)) x (fun _ => nm_r (nI_1 i) (ih (i + 1) (by omega) (by omega))) (fun h3 => pk_eq (A (y * 4 + i)) w (fun _ => nm_r (nI_1 i) (ih (i + 1) (by omega) (by omega))) (fun h4 => absurd ⟨h3, h4⟩ (h i h2))))⟩) (go_rN La y rfl (by omega)) rfl (by omega) (by omega)⟩
theorem go_fy1 {x y w t i0 : Nat} (hA : ∀ j, A j < 16) (hL : La y ≤ 4) (hx : x < 16) (hy : y < 16) (hw : w < 16) (h0 : i0 < La y) (he : A (y * 4 + i0) ≠ x ∧ A (y * 4 + i0) ≠ w) (hb : ∀ j, j < i0 → ¬ (A (y * 4 + j) ≠ x ∧ A (y * 4 + j) ≠ w)) (post : SY → Prop) (hp : wY_handle_182 post (nI y) (nI w) (nI t) (nI (A (y * 4 + i0))) (nI nn) (nI ac) (nI pc) (nI tm) (nI lo) (nI md) (go_B al) (go_N A) (go_N La) (go_N P) (go_N Lp) (go_B E) (go_B D) (go_B W) (go_N T) (go_B U) (go_N C)) : ∀ n i, i ≤ i0 → i0 + 1 - i < n → wY_handle_130 post (nI x) (nI y) (nI w) (nI t) (nI nn) (nI ac) (nI pc) (nI tm) (nI lo) (nI md) (go_B al) (go_N A) (go_N La) (go_N P) (go_N Lp) (go_B E) (go_B D) (go_B W) (go_N T) (go_B U) (go_N C) n (-1) (nI i) := by
  intro n
  induction n with
  | zero => intro i _ hn; exact absurd hn (by omega)
  | succ n ih =>
    intro i hi hn
    have hz : A (y * 4 + i) < 16 := hA _
    have k : ¬ (A (y * 4 + i) ≠ x ∧ A (y * 4 + i) ≠ w) → i < i0 := by
      intro q
      rcases Nat.lt_or_ge i i0 with r | r
      · exact r
      · rw [show i = i0 by omega] at q; exact absurd he q
    refine ⟨vp_in_nI hy (by omega), pk_le (La y) i (fun h2 => absurd h2 (by omega)) (fun h2 => br_f (by decide) ⟨pk_in (y * 4 + i) 64 (by omega) (go_ix4 y i), nm_r (go_rN A (y * 4 + i) (go_ix4 y i) (by omega)) (pk_eq (A (y * 4 + i)) x (fun h3 => nm_r (nI_1 i) ?_) (fun h3 => pk_eq (A (y * 4 + i)) w (fun h4 => nm_r (nI_1 i) ?_) (fun h4 => nm_r (nI_1 i) ?_)))⟩) (go_rN La y rfl (by omega)) rfl (by omega) (by omega)⟩
    · have q := k (fun z => z.1 h3)
      exact ih (i + 1) (by omega) (by omega)
    · have q := k (fun z => z.2 h4)
      exact ih (i + 1) (by omega) (by omega)
    · have e : i = i0 := by
        rcases Nat.lt_or_ge i i0 with r | r
        · exact absurd ⟨h3, h4⟩ (hb i r)
        · omega
      rw [e]
      obtain ⟨n', rfl⟩ : ∃ n', n = n' + 1 := ⟨n - 1, by omega⟩
      exact ⟨vp_in_nI hy (by omega), br_c (fun _ => hp) (fun _ => br_t (nI_pos' (by have := hA (y * 4 + i0); omega)) hp)⟩
theorem go_f51 {x y w t : Nat} (hac : 2 ≤ ac ∧ ac ≤ 4) (hpc : 1 ≤ pc ∧ pc ≤ 8) (Z : go_Z ac pc A La P Lp E T U C) (hl : lo + 10 < 2 ^ 31) (hx : x < 16) (hy : y < 16) (hw : w < 16) (ht0 : 0 < t) (ht : t < 16) : ∃ (A' La' P' Lp' : Nat → Nat) (E' D' W' : Nat → Bool) (T' : Nat → Nat) (U' : Nat → Bool) (C' : Nat → Nat) (lo' : Nat), go_Z ac pc A' La' P' Lp' E' T' U' C' ∧ lo' ≤ lo + 10 ∧ (∀ post : SX → Prop, post (nI nn, nI ac, nI pc, nI tm, nI md, nI lo', go_B al, go_N A', go_N La', go_N P', go_N Lp', go_M E', go_M D', go_M W', go_N T', go_S U' C') → wX_onForwardJoin_51 post (nI y) (nI x) (nI w) (nI t) (nI nn) (nI ac) (nI pc) (nI tm) (nI md) (nI lo) (go_B al) (go_N A) (go_N La) (go_N P) (go_N Lp) (go_M E) (go_M D) (go_M W) (go_N T) (go_S U C)) ∧ (∀ post : SY → Prop, post (nI nn, nI ac, nI pc, nI tm, nI lo', nI md, go_B al, go_N A', go_N La', go_N P', go_N Lp', go_B E', go_B D', go_B W', go_N T', go_B U', go_N C') → ∃ n130 : Nat, wY_handle_130 post (nI x) (nI y) (nI w) (nI t) (nI nn) (nI ac) (nI pc) (nI tm) (nI lo) (nI md) (go_B al) (go_N A) (go_N La) (go_N P) (go_N Lp) (go_B E) (go_B D) (go_B W) (go_N T) (go_B U) (go_N C) n130 (-1) 0) := by
  obtain ⟨IA, JE, I, hT, S⟩ := Z
  have hla := IA.2.1 y
  rcases go_first (fun i => A (y * 4 + i) ≠ x ∧ A (y * 4 + i) ≠ w) (La y) with h | ⟨i, hi, hAi, hAb⟩
  · obtain ⟨A1, La1, E1, P1, Lp1, U1, C1, lo1, IA1, JE1, I1, S1, hl1, hX1, hY1⟩ := go_addA nn ac pc tm md lo al A La P Lp E D W T U C true hac IA JE hpc I S (by omega) hy hw
    refine ⟨A1, La1, P1, Lp1, E1, D, W, T, U1, C1, lo1, ⟨IA1, JE1, I1, hT, S1⟩, by omega, fun post hp => ?_, fun post hp => ⟨La y + 1, go_fy0 nn ac pc tm md lo al A La P Lp E D W T U C IA.1 (by omega) hx hy hw h post (br_t (by decide) (hY1 _ hp)) _ 0 (by omega) (by omega)⟩⟩
    unfold wX_onForwardJoin_51
    exact ⟨La y + 1, go_fx0 nn ac pc tm md lo al A La P Lp E D W T U C IA.1 (by omega) hx hy hw h _ (br_t rfl (hX1 _ hp)) _ 0 (by omega) (by omega)⟩
  · obtain ⟨a, ha, ea⟩ := go_fj w (t - 1) hw (by omega)
    have hz : A (y * 4 + i) < 16 := IA.1 _
    have e1 : nI w ||| ((nI t - 1) <<< ((4 : Int32) &&& 31)) = nI a := by
      rw [← ea]
      exact congrArg (fun z => nI w ||| (z <<< ((4 : Int32) &&& 31))) (pk_sub (a := t) (b := 1) (by omega))
    obtain ⟨U1, C1, lo1, S1, hl1, hX1, hY1⟩ := go_send nn ac pc tm md lo al A La P Lp E D W T U C (k := 2) S (by omega) hy hz (by omega) (by omega) ha
    have hne : ¬ nI (A (y * 4 + i)) = -1 := by
      intro q
      have := congrArg (fun z => decide (z < 0)) q
      simp only [decide_eq_false (nI_pos (n := A (y * 4 + i)) (by omega))] at this
      exact absurd this (by decide)
    refine ⟨A, La, P, Lp, E, D, W, T, U1, C1, lo1, ⟨IA, JE, I, hT, S1⟩, by omega, fun post hp => ?_, fun post hp => ⟨La y + 2, go_fy1 nn ac pc tm md lo al A La P Lp E D W T U C IA.1 (by omega) hx hy hw hi hAi hAb post (br_f (nI_pos (by omega)) (by rw [e1]; exact hY1 _ hp)) _ 0 (by omega) (by omega)⟩⟩
    unfold wX_onForwardJoin_51
    exact ⟨La y + 1, go_fx1 nn ac pc tm md lo al A La P Lp E D W T U C IA.1 (by omega) hx hy hw hi hAi hAb _ (br_f hne (by rw [e1]; exact hX1 _ hp)) _ 0 (by omega) (by omega)⟩
theorem go_h2 {x y a : Nat} (hac : 2 ≤ ac ∧ ac ≤ 4) (hpc : 1 ≤ pc ∧ pc ≤ 8) (Z : go_Z ac pc A La P Lp E T U C) (hl : lo + 10 < 2 ^ 31) (hx : x < 16) (hy : y < 16) (ha : a < 65536) : ∃ (A' La' P' Lp' : Nat → Nat) (E' D' W' : Nat → Bool) (T' : Nat → Nat) (U' : Nat → Bool) (C' : Nat → Nat) (lo' : Nat), go_Z ac pc A' La' P' Lp' E' T' U' C' ∧ lo' ≤ lo + 10 ∧ (∀ post : SX → Prop, post (nI nn, nI ac, nI pc, nI tm, nI md, nI lo', go_B al, go_N A', go_N La', go_N P', go_N Lp', go_M E', go_M D', go_M W', go_N T', go_S U' C') → wpX_onForwardJoin post (nI nn, nI ac, nI pc, nI tm, nI md, nI lo, go_B al, go_N A, go_N La, go_N P, go_N Lp, go_M E, go_M D, go_M W, go_N T, go_S U C) (nI y) (nI x) (nI a)) ∧ (∀ post : SY → Prop, post (nI nn, nI ac, nI pc, nI tm, nI lo', nI md, go_B al, go_N A', go_N La', go_N P', go_N Lp', go_B E', go_B D', go_B W', go_N T', go_B U', go_N C') → wpY_handle post (nI nn, nI ac, nI pc, nI tm, nI lo, nI md, go_B al, go_N A, go_N La, go_N P, go_N Lp, go_B E, go_B D, go_B W, go_N T, go_B U, go_N C) 2 (nI x) (nI y) (nI a)) := by
  have Z0 := Z
  obtain ⟨IA, JE, I, hT, S⟩ := Z
  have hla := IA.2.1 y
  have d1 := go_dw (c := a) (by omega)
  have d2 := go_d4 (c := a) (by omega)
  have hw : a % 2 ^ 4 < 16 := by omega
  have ht : a / 2 ^ 4 % 2 ^ 4 < 16 := by omega
  have rl := go_rN (e := nI y) La y rfl (by omega)
  generalize a % 2 ^ 4 = w at d1 hw
  generalize a / 2 ^ 4 % 2 ^ 4 = t at d2 ht
  have n2 : ¬ (2 : Int32) = 1 := by decide
  by_cases ht0 : t = 0 ∨ La y ≤ 1
  · obtain ⟨A1, La1, E1, P1, Lp1, U1, C1, lo1, IA1, JE1, I1, S1, hl1, hX1, hY1⟩ := go_addA nn ac pc tm md lo al A La P Lp E D W T U C true hac IA JE hpc I S (by omega) hy hw
    have fX : ∀ post : SX → Prop, post (nI nn, nI ac, nI pc, nI tm, nI md, nI lo1, go_B al, go_N A1, go_N La1, go_N P1, go_N Lp1, go_M E1, go_M D, go_M W, go_N T, go_S U1 C1) → wX_onForwardJoin_29 post (nI y) (nI w) (nI nn) (nI ac) (nI pc) (nI tm) (nI md) (nI lo) (go_B al) (go_N A) (go_N La) (go_N P) (go_N Lp) (go_M E) (go_M D) (go_M W) (go_N T) (go_S U C) := by
      intro post hp
      unfold wX_onForwardJoin_29
      exact hX1 _ hp
    have fY : ∀ post : SY → Prop, post (nI nn, nI ac, nI pc, nI tm, nI lo1, nI md, go_B al, go_N A1, go_N La1, go_N P1, go_N Lp1, go_B E1, go_B D, go_B W, go_N T, go_B U1, go_N C1) → wY_handle_102 post (nI y) (nI w) (nI nn) (nI ac) (nI pc) (nI tm) (nI lo) (nI md) (go_B al) (go_N A) (go_N La) (go_N P) (go_N Lp) (go_B E) (go_B D) (go_B W) (go_N T) (go_B U) (go_N C) := by
      intro post hp
      unfold wY_handle_102
      exact hY1 _ hp
    refine ⟨A1, La1, P1, Lp1, E1, D, W, T, U1, C1, lo1, ⟨IA1, JE1, I1, hT, S1⟩, by omega, fun post hp => nm_r d1 (nm_r d2 (br_c (fun _ => fX post hp) (fun q => ⟨vp_in_nI hy (by omega), br_f ?_ (fX post hp)⟩))), fun post hp => br_f n2 (br_t rfl (nm_r d1 (nm_r d2 (br_c (fun _ => fY post hp) (fun q => ⟨vp_in_nI hy (by omega), br_f ?_ (fY post hp)⟩)))))⟩
    · rw [rl]
      rcases ht0 with z | z
      · exact absurd (by rw [z]; exact nI_0) q
      · have := nI_leI (a := La y) (b := 1) (by omega) (by omega)
        exact Int32.not_lt.mpr (this.mpr z)
    · rw [rl]
      rcases ht0 with z | z
      · exact absurd (by rw [z]; exact nI_0) q
      · have := nI_leI (a := La y) (b := 1) (by omega) (by omega)
        exact Int32.not_lt.mpr (this.mpr z)
  · have h1 : 0 < t := by omega
    have h2 : 1 < La y := by omega
    have q1 : ¬ nI t = 0 := nI_ne0 h1 (by omega)
    have q2 : 1 < go_N La (nI y).toNatClampNeg := by rw [rl]; exact nI_lt (a := 1) h2 (by omega)
    by_cases ht1 : t = 1
    · obtain ⟨P1, Lp1, I1, hX1, hY1⟩ := go_addP nn ac pc tm md lo al A La P Lp E D W T U C hac.2 IA hpc I hy hw
      obtain ⟨A', La', P', Lp', E', D', W', T', U', C', lo', Z', hl', hX, hY⟩ := go_f51 nn ac pc tm md lo al A La P1 Lp1 E D W T U C (x := x) hac hpc ⟨IA, JE, I1, hT, S⟩ hl hx hy hw h1 ht
      exact ⟨A', La', P', Lp', E', D', W', T', U', C', lo', Z', hl', fun post hp => nm_r d1 (nm_r d2 (br_f q1 ⟨vp_in_nI hy (by omega), br_t q2 (br_t (by rw [ht1]; rfl) (hX1 _ (hX post hp)))⟩)), fun post hp => br_f n2 (br_t rfl (nm_r d1 (nm_r d2 (br_f q1 ⟨vp_in_nI hy (by omega), br_t q2 (br_t (by rw [ht1]; rfl) (hY1 _ (hY post hp)))⟩))))⟩
    · have q3 : ¬ nI t = 1 := fun q => ht1 ((nI_eq (a := t) (b := 1) (by omega) (by omega)).mp q)
      obtain ⟨A', La', P', Lp', E', D', W', T', U', C', lo', Z', hl', hX, hY⟩ := go_f51 nn ac pc tm md lo al A La P Lp E D W T U C (x := x) hac hpc Z0 hl hx hy hw h1 ht
      exact ⟨A', La', P', Lp', E', D', W', T', U', C', lo', Z', hl', fun post hp => nm_r d1 (nm_r d2 (br_f q1 ⟨vp_in_nI hy (by omega), br_t q2 (br_f q3 (hX post hp))⟩)), fun post hp => br_f n2 (br_t rfl (nm_r d1 (nm_r d2 (br_f q1 ⟨vp_in_nI hy (by omega), br_t q2 (br_f q3 (hY post hp))⟩))))⟩
end
end
section
section
variable (nn ac pc tm md lo : Nat) (al : Nat → Bool) (A La P Lp : Nat → Nat) (E D W : Nat → Bool) (T : Nat → Nat) (U : Nat → Bool) (C : Nat → Nat)
theorem go_h4 {x y : Nat} (p3 : Int32) (hac : 2 ≤ ac ∧ ac ≤ 4) (hpc : 1 ≤ pc ∧ pc ≤ 8) (Z : go_Z ac pc A La P Lp E T U C) (hx : x < 16) (hy : y < 16) : ∃ (A' La' P' Lp' : Nat → Nat) (E' D' W' : Nat → Bool) (T' : Nat → Nat) (U' : Nat → Bool) (C' : Nat → Nat) (lo' : Nat), go_Z ac pc A' La' P' Lp' E' T' U' C' ∧ lo' ≤ lo + 10 ∧ (∀ post : SX → Prop, post (nI nn, nI ac, nI pc, nI tm, nI md, nI lo', go_B al, go_N A', go_N La', go_N P', go_N Lp', go_M E', go_M D', go_M W', go_N T', go_S U' C') → wpX_onDisconnect post (nI nn, nI ac, nI pc, nI tm, nI md, nI lo, go_B al, go_N A, go_N La, go_N P, go_N Lp, go_M E, go_M D, go_M W, go_N T, go_S U C) (nI y) (nI x)) ∧ (∀ post : SY → Prop, post (nI nn, nI ac, nI pc, nI tm, nI lo', nI md, go_B al, go_N A', go_N La', go_N P', go_N Lp', go_B E', go_B D', go_B W', go_N T', go_B U', go_N C') → wpY_handle post (nI nn, nI ac, nI pc, nI tm, nI lo, nI md, go_B al, go_N A, go_N La, go_N P, go_N Lp, go_B E, go_B D, go_B W, go_N T, go_B U, go_N C) 4 (nI x) (nI y) p3) := by
  obtain ⟨IA, JE, I, hT, S⟩ := Z
  have hla := IA.2.1 y
  rcases go_first (fun i => A (y * 4 + i) = x) (La y) with hA | ⟨i, hi, hAi, hAb⟩
  · refine ⟨A, La, P, Lp, E, D, W, T, U, C, lo, ⟨IA, JE, I, hT, S⟩, by omega, fun post hp => ?_, fun post hp => br_f (by decide) (br_f (by decide) (br_f (by decide) (br_t rfl (go_ps4 nn ac pc tm md lo al A La P Lp E D W T U C IA.1 (by omega) hy hx hA _ (br_t (by decide) hp)))))⟩
    unfold wpX_onDisconnect
    exact go_rX04 nn ac pc tm md lo al A La P Lp E D W T U C hac.2 IA JE hy hx hA _ (br_t rfl hp)
  · obtain ⟨P1, Lp1, I1, hX1, hY1⟩ := go_addP nn ac pc tm md lo al (go_sh A (y * 4 + i) (y * 4 + (La y - 1))) (go_up La y (La y - 1)) P Lp (go_up E (y * 16 + x) false) D W T U C hac.2 (go_rm4 hac.2 IA hi) hpc I hy hx
    refine ⟨_, _, P1, Lp1, _, D, W, T, U, C, lo, ⟨go_rm4 hac.2 IA hi, go_rmE hac.2 IA JE hi hAi, I1, hT, S⟩, by omega, fun post hp => ?_, fun post hp => br_f (by decide) (br_f (by decide) (br_f (by decide) (br_t rfl (go_psy4 nn ac pc tm md lo al A La P Lp E D W T U C IA.1 (by omega) hy hx hi hAi hAb _ (br_f (nI_pos (by omega)) (go_rY14 nn ac pc tm md lo al A La P Lp E D W T U C hac.2 IA hy hx hi hAi hAb _ (hY1 _ hp)))))))⟩
    unfold wpX_onDisconnect
    exact go_rX14 nn ac pc tm md lo al A La P Lp E D W T U C hac.2 IA hy hx hi hAi _ (br_f (by decide) (hX1 _ hp))
theorem go_h5 {x y a : Nat} (hac : 2 ≤ ac ∧ ac ≤ 4) (hpc : 1 ≤ pc ∧ pc ≤ 8) (Z : go_Z ac pc A La P Lp E T U C) (hl : lo + 10 < 2 ^ 31) (hx : x < 16) (hy : y < 16) (ha : a < 65536) : ∃ (A' La' P' Lp' : Nat → Nat) (E' D' W' : Nat → Bool) (T' : Nat → Nat) (U' : Nat → Bool) (C' : Nat → Nat) (lo' : Nat), go_Z ac pc A' La' P' Lp' E' T' U' C' ∧ lo' ≤ lo + 10 ∧ (∀ post : SX → Prop, post (nI nn, nI ac, nI pc, nI tm, nI md, nI lo', go_B al, go_N A', go_N La', go_N P', go_N Lp', go_M E', go_M D', go_M W', go_N T', go_S U' C') → wpX_onNeighbor post (nI nn, nI ac, nI pc, nI tm, nI md, nI lo, go_B al, go_N A, go_N La, go_N P, go_N Lp, go_M E, go_M D, go_M W, go_N T, go_S U C) (nI y) (nI x) (nI a)) ∧ (∀ post : SY → Prop, post (nI nn, nI ac, nI pc, nI tm, nI lo', nI md, go_B al, go_N A', go_N La', go_N P', go_N Lp', go_B E', go_B D', go_B W', go_N T', go_B U', go_N C') → wpY_handle post (nI nn, nI ac, nI pc, nI tm, nI lo, nI md, go_B al, go_N A, go_N La, go_N P, go_N Lp, go_B E, go_B D, go_B W, go_N T, go_B U, go_N C) 5 (nI x) (nI y) (nI a)) := by
  obtain ⟨IA, JE, I, hT, S⟩ := Z
  have hla := IA.2.1 y
  have rl := go_rN (e := nI y) La y rfl (by omega)
  by_cases h : a = 1 ∨ La y < ac
  · obtain ⟨A1, La1, E1, P1, Lp1, U1, C1, lo1, IA1, JE1, I1, S1, hl1, hX1, hY1⟩ := go_addA nn ac pc tm md lo al A La P Lp E D W T U C true hac IA JE hpc I S (by omega) hy hx
    have q : ¬ nI a = 1 → ¬ nI ac ≤ go_N La (nI y).toNatClampNeg := by
      intro q
      rw [rl]
      rcases h with z | z
      · exact absurd (by rw [z]; rfl) q
      · exact nI_ge z (by omega)
    have fX : ∀ post : SX → Prop, post (nI nn, nI ac, nI pc, nI tm, nI md, nI lo1, go_B al, go_N A1, go_N La1, go_N P1, go_N Lp1, go_M E1, go_M D, go_M W, go_N T, go_S U1 C1) → wX_onNeighbor_18 post (nI y) (nI x) (nI nn) (nI ac) (nI pc) (nI tm) (nI md) (nI lo) (go_B al) (go_N A) (go_N La) (go_N P) (go_N Lp) (go_M E) (go_M D) (go_M W) (go_N T) (go_S U C) := by
      intro post hp
      unfold wX_onNeighbor_18
      exact hX1 _ hp
    have fY : ∀ post : SY → Prop, post (nI nn, nI ac, nI pc, nI tm, nI lo1, nI md, go_B al, go_N A1, go_N La1, go_N P1, go_N Lp1, go_B E1, go_B D, go_B W, go_N T, go_B U1, go_N C1) → wY_handle_286 post (nI x) (nI y) (nI nn) (nI ac) (nI pc) (nI tm) (nI lo) (nI md) (go_B al) (go_N A) (go_N La) (go_N P) (go_N Lp) (go_B E) (go_B D) (go_B W) (go_N T) (go_B U) (go_N C) := by
      intro post hp
      unfold wY_handle_286
      exact hY1 _ hp
    exact ⟨A1, La1, P1, Lp1, E1, D, W, T, U1, C1, lo1, ⟨IA1, JE1, I1, hT, S1⟩, by omega, fun post hp => br_c (fun _ => fX post hp) (fun z => ⟨vp_in_nI hy (by omega), br_f (q z) (fX post hp)⟩), fun post hp => br_f (by decide) (br_f (by decide) (br_f (by decide) (br_f (by decide) (br_t rfl (br_c (fun _ => fY post hp) (fun z => ⟨vp_in_nI hy (by omega), br_f (q z) (fY post hp)⟩))))))⟩
  · have q1 : ¬ nI a = 1 := fun q => h (Or.inl ((nI_eq (a := a) (b := 1) (by omega) (by omega)).mp q))
    have q2 : nI ac ≤ go_N La (nI y).toNatClampNeg := by rw [rl]; exact nI_le (by omega) (by omega)
    obtain ⟨U1, C1, lo1, S1, hl1, hX1, hY1⟩ := go_send nn ac pc tm md lo al A La P Lp E D W T U C (k := 6) (a := 0) S (by omega) hy hx (by omega) (by omega) (by omega)
    exact ⟨A, La, P, Lp, E, D, W, T, U1, C1, lo1, ⟨IA, JE, I, hT, S1⟩, by omega, fun post hp => br_f q1 ⟨vp_in_nI hy (by omega), br_t q2 (hX1 _ hp)⟩, fun post hp => br_f (by decide) (br_f (by decide) (br_f (by decide) (br_f (by decide) (br_t rfl (br_f q1 ⟨vp_in_nI hy (by omega), br_t q2 (hY1 _ hp)⟩)))))⟩
theorem go_pmX {x : Nat} (hP : ∀ j, P j < 16) (hL : Lp x ≤ 8) (hx : x < 16) (post : Int32 → Prop) (hp : post (go_w P (x * 8) (Lp x))) : ∀ n i, i ≤ Lp x → Lp x - i < n → wX_passiveMask_4 post (nI x) (nI nn) (nI ac) (nI pc) (nI tm) (nI md) (nI lo) (go_B al) (go_N A) (go_N La) (go_N P) (go_N Lp) (go_M E) (go_M D) (go_M W) (go_N T) (go_S U C) n (go_w P (x * 8) i) (nI i) := by
  intro n
  induction n with
  | zero => intro i _ hn; exact absurd hn (by omega)
  | succ n ih =>
    intro i hi hn
    refine ⟨vp_in_nI hx (by omega), pk_le (Lp x) i (fun h => ?_) (fun h => ⟨pk_in (x * 8 + i) 128 (by omega) (go_ix8 x i), nm_r (e' := go_w P (x * 8) (i + 1)) (by rw [go_rN P (x * 8 + i) (go_ix8 x i) (by omega)]; rfl) (nm_r (nI_1 i) (ih (i + 1) (by omega) (by omega)))⟩) (go_rN Lp x rfl (by omega)) rfl (by omega) (by omega)⟩
    have e : i = Lp x := by omega
    rw [e]; exact hp
theorem go_amX {x : Nat} (hA : ∀ j, A j < 16) (hL : La x ≤ 4) (hx : x < 16) (post : Int32 → Prop) (hp : post (go_w A (x * 4) (La x))) : ∀ n i, i ≤ La x → La x - i < n → wX_activeMask_4 post (nI x) (nI nn) (nI ac) (nI pc) (nI tm) (nI md) (nI lo) (go_B al) (go_N A) (go_N La) (go_N P) (go_N Lp) (go_M E) (go_M D) (go_M W) (go_N T) (go_S U C) n (go_w A (x * 4) i) (nI i) := by
  intro n
  induction n with
  | zero => intro i _ hn; exact absurd hn (by omega)
  | succ n ih =>
    intro i hi hn
    refine ⟨vp_in_nI hx (by omega), pk_le (La x) i (fun h => ?_) (fun h => ⟨pk_in (x * 4 + i) 64 (by omega) (go_ix4 x i), nm_r (e' := go_w A (x * 4) (i + 1)) (by rw [go_rN A (x * 4 + i) (go_ix4 x i) (by omega)]; rfl) (nm_r (nI_1 i) (ih (i + 1) (by omega) (by omega)))⟩) (go_rN La x rfl (by omega)) rfl (by omega) (by omega)⟩
    have e : i = La x := by omega
    rw [e]; exact hp
theorem go_pmY {x y a : Nat} (hP : ∀ j, P j < 16) (hL : Lp y ≤ 8) (hy : y < 16) (post : SY → Prop) (hp : ∃ n379 : Nat, wY_handle_379 post (nI x) (nI y) (nI a) (go_w P (y * 8) (Lp y)) n379 0 (nI nn) (nI ac) (nI pc) (nI tm) (nI lo) (nI md) (go_B al) (go_N A) (go_N La) (go_N P) (go_N Lp) (go_B E) (go_B D) (go_B W) (go_N T) (go_B U) (go_N C)) : ∀ n i, i ≤ Lp y → Lp y - i < n → wY_handle_340 post (nI x) (nI y) (nI a) (nI nn) (nI ac) (nI pc) (nI tm) (nI lo) (nI md) (go_B al) (go_N A) (go_N La) (go_N P) (go_N Lp) (go_B E) (go_B D) (go_B W) (go_N T) (go_B U) (go_N C) n (go_w P (y * 8) i) (nI i) := by
  intro n
  induction n with
  | zero => intro i _ hn; exact absurd hn (by omega)
  | succ n ih =>
    intro i hi hn
    refine ⟨vp_in_nI hy (by omega), pk_le (Lp y) i (fun h => ?_) (fun h => ⟨pk_in (y * 8 + i) 128 (by omega) (go_ix8 y i), nm_r (e' := go_w P (y * 8) (i + 1)) (by rw [go_rN P (y * 8 + i) (go_ix8 y i) (by omega)]; rfl) (nm_r (nI_1 i) (ih (i + 1) (by omega) (by omega)))⟩) (go_rN Lp y rfl (by omega)) rfl (by omega) (by omega)⟩
    have e : i = Lp y := by omega
    rw [e]; exact hp
end
section
variable (nn ac pc tm md lo : Nat) (al : Nat → Bool) (A La : Nat → Nat) (E D W : Nat → Bool) (T : Nat → Nat) (U : Nat → Bool) (C : Nat → Nat)
theorem go_all {x y a : Nat} {rv : Int32} (hn : nn ≤ 16) (hac : ac ≤ 4) (IA : go_IV4 ac A La) (hpc : 1 ≤ pc ∧ pc ≤ 8) (hy : y < 16) : ∀ d i (P Lp : Nat → Nat), i + d = nn → go_IV8 pc P Lp → ∃ (P' Lp' : Nat → Nat), go_IV8 pc P' Lp' ∧ (∀ post : SX → Prop, post (nI nn, nI ac, nI pc, nI tm, nI md, nI lo, go_B al, go_N A, go_N La, go_N P', go_N Lp', go_M E, go_M D, go_M W, go_N T, go_S U C) → wX_addAllPassive_2 post (nI y) (nI a) (d + 1) (nI i) (nI nn) (nI ac) (nI pc) (nI tm) (nI md) (nI lo) (go_B al) (go_N A) (go_N La) (go_N P) (go_N Lp) (go_M E) (go_M D) (go_M W) (go_N T) (go_S U C)) ∧ (∀ post : SY → Prop, post (nI nn, nI ac, nI pc, nI tm, nI lo, nI md, go_B al, go_N A, go_N La, go_N P', go_N Lp', go_B E, go_B D, go_B W, go_N T, go_B U, go_N C) → wY_handle_433 post (nI y) (nI a) (d + 1) (nI i) (nI nn) (nI ac) (nI pc) (nI tm) (nI lo) (nI md) (go_B al) (go_N A) (go_N La) (go_N P) (go_N Lp) (go_B E) (go_B D) (go_B W) (go_N T) (go_B U) (go_N C)) ∧ (∀ (U' : Nat → Bool) (C' : Nat → Nat) (lo' : Nat) (post : SY → Prop), (∀ Q : SY → Prop, Q (nI nn, nI ac, nI pc, nI tm, nI lo', nI md, go_B al, go_N A, go_N La, go_N P', go_N Lp', go_B E, go_B D, go_B W, go_N T, go_B U', go_N C') → wpY_send Q (nI nn, nI ac, nI pc, nI tm, nI lo, nI md, go_B al, go_N A, go_N La, go_N P', go_N Lp', go_B E, go_B D, go_B W, go_N T, go_B U, go_N C) (nI y) (nI x) 8 rv) → post (nI nn, nI ac, nI pc, nI tm, nI lo', nI md, go_B al, go_N A, go_N La, go_N P', go_N Lp', go_B E, go_B D, go_B W, go_N T, go_B U', go_N C') → wY_handle_379 post (nI x) (nI y) (nI a) rv (d + 1) (nI i) (nI nn) (nI ac) (nI pc) (nI tm) (nI lo) (nI md) (go_B al) (go_N A) (go_N La) (go_N P) (go_N Lp) (go_B E) (go_B D) (go_B W) (go_N T) (go_B U) (go_N C)) := by
  intro d
  induction d with
  | zero =>
    intro i P Lp hi I
    exact ⟨P, Lp, I, fun post hp => br_t (nI_le (by omega) (by omega)) hp, fun post hp => br_t (nI_le (by omega) (by omega)) hp, fun U' C' lo' post hs hp => br_t (nI_le (by omega) (by omega)) (hs _ hp)⟩
  | succ d ih =>
    intro i P Lp hi I
    have hi16 : i < 16 := by omega
    have hne : ¬ nI nn ≤ nI i := nI_ge (by omega) (by omega)
    cases z : bt (nI a) i with
    | false =>
      have hb := (go_bm a i hi16).mpr z
      obtain ⟨P', Lp', I', hX, hY, hZ⟩ := ih (i + 1) P Lp (by omega) I
      exact ⟨P', Lp', I', fun post hp => br_f hne (br_t hb (nm_r (nI_1 i) (hX post hp))), fun post hp => br_f hne (br_t hb (nm_r (nI_1 i) (hY post hp))), fun U' C' lo' post hs hp => br_f hne (br_t hb (nm_r (nI_1 i) (hZ U' C' lo' post hs hp)))⟩
    | true =>
      have hb : ¬ (nI a &&& ((1 : Int32) <<< (nI i &&& 31))) = 0 := fun q => by rw [(go_bm a i hi16).mp q] at z; exact absurd z (by decide)
      obtain ⟨P1, Lp1, I1, hX1, hY1⟩ := go_addP nn ac pc tm md lo al A La P Lp E D W T U C hac IA hpc I hy hi16
      obtain ⟨P', Lp', I', hX, hY, hZ⟩ := ih (i + 1) P1 Lp1 (by omega) I1
      exact ⟨P', Lp', I', fun post hp => br_f hne (br_f hb (hX1 _ (nm_r (nI_1 i) (hX post hp)))), fun post hp => br_f hne (br_f hb (hY1 _ (nm_r (nI_1 i) (hY post hp)))), fun U' C' lo' post hs hp => br_f hne (br_f hb (hY1 _ (nm_r (nI_1 i) (hZ U' C' lo' post hs hp))))⟩
end
section
variable (nn ac pc tm md lo : Nat) (al : Nat → Bool) (A La P Lp : Nat → Nat) (E D W : Nat → Bool) (T : Nat → Nat) (U : Nat → Bool) (C : Nat → Nat)
theorem go_h7 {x y a : Nat} (hn : 2 ≤ nn ∧ nn ≤ 16) (hac : 2 ≤ ac ∧ ac ≤ 4) (hpc : 1 ≤ pc ∧ pc ≤ 8) (Z : go_Z ac pc A La P Lp E T U C) (hl : lo + 10 < 2 ^ 31) (hx : x < 16) (hy : y < 16) : ∃ (A' La' P' Lp' : Nat → Nat) (E' D' W' : Nat → Bool) (T' : Nat → Nat) (U' : Nat → Bool) (C' : Nat → Nat) (lo' : Nat), go_Z ac pc A' La' P' Lp' E' T' U' C' ∧ lo' ≤ lo + 10 ∧ (∀ post : SX → Prop, post (nI nn, nI ac, nI pc, nI tm, nI md, nI lo', go_B al, go_N A', go_N La', go_N P', go_N Lp', go_M E', go_M D', go_M W', go_N T', go_S U' C') → wpX_onShuffle post (nI nn, nI ac, nI pc, nI tm, nI md, nI lo, go_B al, go_N A, go_N La, go_N P, go_N Lp, go_M E, go_M D, go_M W, go_N T, go_S U C) (nI y) (nI x) (nI a)) ∧ (∀ post : SY → Prop, post (nI nn, nI ac, nI pc, nI tm, nI lo', nI md, go_B al, go_N A', go_N La', go_N P', go_N Lp', go_B E', go_B D', go_B W', go_N T', go_B U', go_N C') → wpY_handle post (nI nn, nI ac, nI pc, nI tm, nI lo, nI md, go_B al, go_N A, go_N La, go_N P, go_N Lp, go_B E, go_B D, go_B W, go_N T, go_B U, go_N C) 7 (nI x) (nI y) (nI a)) := by
  obtain ⟨IA, JE, I, hT, S⟩ := Z
  have hlp := I.2.1 y
  obtain ⟨r, hr, er⟩ := go_16 (go_w16 I.1 (y * 8) (Lp y))
  obtain ⟨P1, Lp1, I1, hX1, _, hZ1⟩ := go_all nn ac pc tm md lo al A La E D W T U C (x := x) (a := a) (rv := go_w P (y * 8) (Lp y)) hn.2 hac.2 IA hpc hy nn 0 P Lp (by omega) I
  obtain ⟨U2, C2, lo2, S2, hl2, hX2, hY2⟩ := go_send nn ac pc tm md lo al A La P1 Lp1 E D W T U C (k := 8) S (by omega) hy hx (by omega) (by omega) hr
  refine ⟨A, La, P1, Lp1, E, D, W, T, U2, C2, lo2, ⟨IA, JE, I1, hT, S2⟩, by omega, fun post hp => ?_, fun post hp => br_f (by decide) (br_f (by decide) (br_f (by decide) (br_f (by decide) (br_f (by decide) (br_f (by decide) (br_t rfl ⟨Lp y + 1, go_pmY nn ac pc tm md lo al A La P Lp E D W T U C I.1 (by omega) hy post ⟨_, hZ1 U2 C2 lo2 post (by rw [er]; exact hY2) hp⟩ _ 0 (by omega) (by omega)⟩))))))⟩
  unfold wpX_onShuffle
  refine ⟨Lp y + 1, go_pmX nn ac pc tm md lo al A La P Lp E D W T U C I.1 (by omega) hy _ ⟨_, hX1 _ ?_⟩ _ 0 (by omega) (by omega)⟩
  rw [er]
  exact hX2 _ hp
theorem go_h8 {x y a : Nat} (hn : 2 ≤ nn ∧ nn ≤ 16) (hac : 2 ≤ ac ∧ ac ≤ 4) (hpc : 1 ≤ pc ∧ pc ≤ 8) (Z : go_Z ac pc A La P Lp E T U C) (hx : x < 16) (hy : y < 16) : ∃ (A' La' P' Lp' : Nat → Nat) (E' D' W' : Nat → Bool) (T' : Nat → Nat) (U' : Nat → Bool) (C' : Nat → Nat) (lo' : Nat), go_Z ac pc A' La' P' Lp' E' T' U' C' ∧ lo' ≤ lo + 10 ∧ (∀ post : SX → Prop, post (nI nn, nI ac, nI pc, nI tm, nI md, nI lo', go_B al, go_N A', go_N La', go_N P', go_N Lp', go_M E', go_M D', go_M W', go_N T', go_S U' C') → wpX_addAllPassive post (nI nn, nI ac, nI pc, nI tm, nI md, nI lo, go_B al, go_N A, go_N La, go_N P, go_N Lp, go_M E, go_M D, go_M W, go_N T, go_S U C) (nI y) (nI a)) ∧ (∀ post : SY → Prop, post (nI nn, nI ac, nI pc, nI tm, nI lo', nI md, go_B al, go_N A', go_N La', go_N P', go_N Lp', go_B E', go_B D', go_B W', go_N T', go_B U', go_N C') → wpY_handle post (nI nn, nI ac, nI pc, nI tm, nI lo, nI md, go_B al, go_N A, go_N La, go_N P, go_N Lp, go_B E, go_B D, go_B W, go_N T, go_B U, go_N C) 8 (nI x) (nI y) (nI a)) := by
  obtain ⟨IA, JE, I, hT, S⟩ := Z
  obtain ⟨P1, Lp1, I1, hX1, hY1, _⟩ := go_all nn ac pc tm md lo al A La E D W T U C (x := x) (a := a) (rv := 0) hn.2 hac.2 IA hpc hy nn 0 P Lp (by omega) I
  exact ⟨A, La, P1, Lp1, E, D, W, T, U, C, lo, ⟨IA, JE, I1, hT, S⟩, by omega, fun post hp => ⟨_, hX1 post hp⟩, fun post hp => br_f (by decide) (br_f (by decide) (br_f (by decide) (br_f (by decide) (br_f (by decide) (br_f (by decide) (br_f (by decide) (br_t rfl ⟨_, hY1 post hp⟩)))))))⟩
end
end
section
theorem go_ix256 (y b p : Nat) : nI y * 256 + nI b * 16 + nI p = nI ((y * 16 + b) * 16 + p) := by
  show nI y * nI 256 + nI b * nI 16 + nI p = _
  rw [pk_mul, pk_mul, nI_add, nI_add]
  exact congrArg nI (by omega)
section
variable (nn ac pc tm md lo : Nat) (al : Nat → Bool) (A La P Lp : Nat → Nat) (E D W : Nat → Bool) (T : Nat → Nat) (U : Nat → Bool) (C : Nat → Nat)
theorem go_zY {x y b : Nat} {g : Int32} (hy : y < 16) (hb : b < 16) (post : SY → Prop) (J : Int32 → (Nat → Int32) → (Nat → Int32) → (Nat → Int32) → (Nat → Int32) → (Nat → Int32) → (Nat → Int32) → (Nat → Int32) → (Nat → Int32) → (Nat → Int32) → (Nat → Int32) → (Nat → Int32) → Prop) (hJ : J (nI (b + 1)) (go_B al) (go_N A) (go_N La) (go_N P) (go_N Lp) (go_B E) (go_B D) (go_B (go_z W false ((y * 16 + b) * 16) ((y * 16 + b) * 16 + 16))) (go_N T) (go_B U) (go_N C)) : ∀ n p, p ≤ 16 → 16 - p < n → wY_handle_568 post J (nI x) (nI y) g (nI b) (nI nn) (nI ac) (nI pc) (nI tm) (nI lo) (nI md) n (nI p) (go_B al) (go_N A) (go_N La) (go_N P) (go_N Lp) (go_B E) (go_B D) (go_B (go_z W false ((y * 16 + b) * 16) ((y * 16 + b) * 16 + p))) (go_N T) (go_B U) (go_N C) := by
  intro n
  induction n with
  | zero => intro i _ hn; exact absurd hn (by omega)
  | succ n ih =>
    intro p hp hn
    refine pk_le 16 p (fun h => nm_r (nI_1 b) ?_) (fun h => ⟨pk_in ((y * 16 + b) * 16 + p) 4096 (by omega) (go_ix256 y b p), nm_r ((go_uB _ ((y * 16 + b) * 16 + p) false go_vf (go_ix256 y b p)).trans (congrArg go_B (go_zs W false (by omega)))) (nm_r (nI_1 p) (ih (p + 1) (by omega) (by omega)))⟩)
    have e : p = 16 := by omega
    rw [e]; exact hJ
theorem go_gY {x y g : Nat} (E' : Nat → Bool) (hA : ∀ j, A j < 16) (hL : La y ≤ 4) (hx : x < 16) (hy : y < 16) (hE : ((∀ i, i < La y → A (y * 4 + i) ≠ x) ∧ E' = E) ∨ (∃ i, i < La y ∧ A (y * 4 + i) = x ∧ (∀ j, j < i → A (y * 4 + j) ≠ x) ∧ E' = go_up E (y * 16 + x) true)) (post : SY → Prop) (hp : wY_handle_628 post (nI x) (nI y) (nI g) (nI nn) (nI ac) (nI pc) (nI tm) (nI lo) (nI md) (go_B al) (go_N A) (go_N La) (go_N P) (go_N Lp) (go_B E') (go_B (go_ov D true y (nI g) 16)) (go_B (go_oW W y (nI g) 16)) (go_N (go_ov T 0 y (nI g) 16)) (go_B U) (go_N C)) : ∀ n b, b ≤ 16 → 16 - b < n → wY_handle_519 post (nI x) (nI y) (nI g) (nI nn) (nI ac) (nI pc) (nI tm) (nI lo) (nI md) n (nI b) (go_B al) (go_N A) (go_N La) (go_N P) (go_N Lp) (go_B E) (go_B (go_ov D true y (nI g) b)) (go_B (go_oW W y (nI g) b)) (go_N (go_ov T 0 y (nI g) b)) (go_B U) (go_N C) := by
  intro n
  induction n with
  | zero => intro i _ hn; exact absurd hn (by omega)
  | succ n ih =>
    intro b hb hn
    refine pk_le 16 b (fun h => ?_) (fun h => go_brb g b h (fun z => nm_r (nI_1 b) ?_) (fun z => ⟨pk_in (y * 16 + b) 256 (by omega) (go_ix16 y b), nm_r ((go_uB _ (y * 16 + b) true go_vt (go_ix16 y b)).trans (congrArg go_B (go_ovt D true y z))) ⟨pk_in (y * 16 + b) 256 (by omega) (go_ix16 y b), nm_r ((go_uN _ (y * 16 + b) 0 rfl (go_ix16 y b)).trans (congrArg go_N (go_ovt T 0 y z))) ⟨17, ?_⟩⟩⟩))
    · have e : b = 16 := by omega
      rw [e]
      rcases hE with ⟨h1, h2⟩ | ⟨i, hi, hAi, hAb, h2⟩
      · rw [h2] at hp
        exact go_ps4 nn ac pc tm md lo al A La P Lp E (go_ov D true y (nI g) 16) (go_oW W y (nI g) 16) (go_ov T 0 y (nI g) 16) U C hA hL hy hx h1 _ (br_t (by decide) hp)
      · rw [h2] at hp
        exact go_psy4 nn ac pc tm md lo al A La P Lp E (go_ov D true y (nI g) 16) (go_oW W y (nI g) 16) (go_ov T 0 y (nI g) 16) U C hA hL hy hx hi hAi hAb _ (br_f (nI_pos (by omega)) ⟨pk_in (y * 16 + x) 256 (by omega) (go_ix16 y x), nm_r (go_uB E (y * 16 + x) true go_vt (go_ix16 y x)) hp⟩)
    · have w := ih (b + 1) (by omega) (by omega)
      rw [← go_oWf W y z, ← go_ovf T 0 y z, ← go_ovf D true y z] at w
      exact w
    · have w := ih (b + 1) (by omega) (by omega)
      rw [← go_oWt W y z] at w
      have q := go_zY nn ac pc tm md lo al A La P Lp E (go_ov D true y (nI g) (b + 1)) (go_oW W y (nI g) b) (go_ov T 0 y (nI g) (b + 1)) U C (x := x) (g := nI g) hy h post _ w 17 0 (by omega) (by omega)
      rw [show (y * 16 + b) * 16 + 0 = (y * 16 + b) * 16 from rfl, go_z0] at q
      exact q
theorem go_h9 {x y a : Nat} (hac : 2 ≤ ac ∧ ac ≤ 4) (Z : go_Z ac pc A La P Lp E T U C) (hl : lo + 10 < 2 ^ 31) (hx : x < 16) (hy : y < 16) (ha : a < 65536) : ∃ (A' La' P' Lp' : Nat → Nat) (E' D' W' : Nat → Bool) (T' : Nat → Nat) (U' : Nat → Bool) (C' : Nat → Nat) (lo' : Nat), go_Z ac pc A' La' P' Lp' E' T' U' C' ∧ lo' ≤ lo + 10 ∧ (∀ post : SX → Prop, post (nI nn, nI ac, nI pc, nI tm, nI md, nI lo', go_B al, go_N A', go_N La', go_N P', go_N Lp', go_M E', go_M D', go_M W', go_N T', go_S U' C') → wpX_onGossip post (nI nn, nI ac, nI pc, nI tm, nI md, nI lo, go_B al, go_N A, go_N La, go_N P, go_N Lp, go_M E, go_M D, go_M W, go_N T, go_S U C) (nI y) (nI x) (nI a)) ∧ (∀ post : SY → Prop, post (nI nn, nI ac, nI pc, nI tm, nI lo', nI md, go_B al, go_N A', go_N La', go_N P', go_N Lp', go_B E', go_B D', go_B W', go_N T', go_B U', go_N C') → wpY_handle post (nI nn, nI ac, nI pc, nI tm, nI lo, nI md, go_B al, go_N A, go_N La, go_N P, go_N Lp, go_B E, go_B D, go_B W, go_N T, go_B U, go_N C) 9 (nI x) (nI y) (nI a)) := by
  obtain ⟨IA, JE, I, hT, S⟩ := Z
  have hla := IA.2.1 y
  obtain ⟨g, hg, eg⟩ := go_and16n ha (go_M D y ^^^ (-1))
  have eX : nI a &&& (go_M D (nI y).toNatClampNeg ^^^ (-1)) = nI g := by rw [go_rM D y]; exact eg
  have eY : (nI a &&& (go_M D y ^^^ (-1))) &&& 65535 = nI g := by rw [go_and16 ha]; exact eg
  have k1 : ¬ (9 : Int32) = 1 := by decide
  have k2 : ¬ (9 : Int32) = 2 := by decide
  have k3 : ¬ (9 : Int32) = 3 := by decide
  have k4 : ¬ (9 : Int32) = 4 := by decide
  have k5 : ¬ (9 : Int32) = 5 := by decide
  have k6 : ¬ (9 : Int32) = 6 := by decide
  have k7 : ¬ (9 : Int32) = 7 := by decide
  have k8 : ¬ (9 : Int32) = 8 := by decide
  by_cases g0 : g = 0
  · have q : nI g = 0 := by rw [g0]; exact nI_0
    obtain ⟨U1, C1, lo1, S1, hl1, hX1, hY1⟩ := go_send nn ac pc tm md lo al A La P Lp (go_up E (y * 16 + x) false) D W T U C (k := 12) (a := 0) S (by omega) hy hx (by omega) (by omega) (by omega)
    exact ⟨A, La, P, Lp, go_up E (y * 16 + x) false, D, W, T, U1, C1, lo1, ⟨IA, go_Eclr JE _, I, hT, S1⟩, by omega, fun post hp => ⟨vp_in_nI hy (by omega), nm_r eX (br_t q ⟨vp_in_nI hy (by omega), vp_in_nI hy (by omega), nm_r (go_uMc E y x hx) (hX1 _ hp)⟩)⟩, fun post hp => br_f k1 (br_f k2 (br_f k3 (br_f k4 (br_f k5 (br_f k6 (br_f k7 (br_f k8 (br_t rfl (go_dM nn ac pc tm md lo al A La P Lp E D W T U C hy _ (nm_r eY (br_t q ⟨pk_in (y * 16 + x) 256 (by omega) (go_ix16 y x), nm_r (go_uB E (y * 16 + x) false go_vf (go_ix16 y x)) (hY1 _ hp)⟩)))))))))))⟩
  · have q : ¬ nI g = 0 := nI_ne0 (by omega) (by omega)
    have hD : upd (go_M D) (nI y).toNatClampNeg (go_M D (nI y).toNatClampNeg ||| nI g) = go_M (go_ov D true y (nI g) 16) := by
      rw [nI_clamp (by omega)]
      exact go_Dor D y (nI g) (fun i h1 _ => go_n16 hg h1)
    have hT' : ∀ j, go_ov T 0 y (nI g) 16 j ≤ 8 := by
      intro j
      unfold go_ov
      split
      · omega
      · exact hT j
    have key : ∀ E' : Nat → Bool, go_IE A La E' → (((∀ i, i < La y → A (y * 4 + i) ≠ x) ∧ E' = E) ∨ (∃ i, i < La y ∧ A (y * 4 + i) = x ∧ (∀ j, j < i → A (y * 4 + j) ≠ x) ∧ E' = go_up E (y * 16 + x) true)) → (∀ Q : SX → Prop, Q (nI nn, nI ac, nI pc, nI tm, nI md, nI lo, go_B al, go_N A, go_N La, go_N P, go_N Lp, go_M E', go_M (go_ov D true y (nI g) 16), go_M (go_oW W y (nI g) 16), go_N (go_ov T 0 y (nI g) 16), go_S U C) → wpX_makeEager Q (nI nn, nI ac, nI pc, nI tm, nI md, nI lo, go_B al, go_N A, go_N La, go_N P, go_N Lp, go_M E, go_M (go_ov D true y (nI g) 16), go_M (go_oW W y (nI g) 16), go_N (go_ov T 0 y (nI g) 16), go_S U C) (nI y) (nI x)) → ∃ (A' La' P' Lp' : Nat → Nat) (E' D' W' : Nat → Bool) (T' : Nat → Nat) (U' : Nat → Bool) (C' : Nat → Nat) (lo' : Nat), go_Z ac pc A' La' P' Lp' E' T' U' C' ∧ lo' ≤ lo + 10 ∧ (∀ post : SX → Prop, post (nI nn, nI ac, nI pc, nI tm, nI md, nI lo', go_B al, go_N A', go_N La', go_N P', go_N Lp', go_M E', go_M D', go_M W', go_N T', go_S U' C') → wpX_onGossip post (nI nn, nI ac, nI pc, nI tm, nI md, nI lo, go_B al, go_N A, go_N La, go_N P, go_N Lp, go_M E, go_M D, go_M W, go_N T, go_S U C) (nI y) (nI x) (nI a)) ∧ (∀ post : SY → Prop, post (nI nn, nI ac, nI pc, nI tm, nI lo', nI md, go_B al, go_N A', go_N La', go_N P', go_N Lp', go_B E', go_B D', go_B W', go_N T', go_B U', go_N C') → wpY_handle post (nI nn, nI ac, nI pc, nI tm, nI lo, nI md, go_B al, go_N A, go_N La, go_N P, go_N Lp, go_B E, go_B D, go_B W, go_N T, go_B U, go_N C) 9 (nI x) (nI y) (nI a)) := by
      intro E' JE' hE hM
      obtain ⟨U1, C1, lo1, S1, hl1, hX1, hY1⟩ := go_fwd nn ac pc tm md lo al A La P Lp E' (go_ov D true y (nI g) 16) (go_oW W y (nI g) 16) (go_ov T 0 y (nI g) 16) U C (nI x) IA.1 (by omega) S (by omega) hy hg
      refine ⟨A, La, P, Lp, E', go_ov D true y (nI g) 16, go_oW W y (nI g) 16, go_ov T 0 y (nI g) 16, U1, C1, lo1, ⟨IA, JE', I, hT', S1⟩, by omega, fun post hp => ⟨vp_in_nI hy (by omega), nm_r eX (br_f q ⟨vp_in_nI hy (by omega), vp_in_nI hy (by omega), nm_r hD (go_stop nn ac pc tm md lo al A La P Lp E (go_ov D true y (nI g) 16) W T U C hy _ (hM _ (hX1 _ hp)))⟩)⟩, fun post hp => br_f k1 (br_f k2 (br_f k3 (br_f k4 (br_f k5 (br_f k6 (br_f k7 (br_f k8 (br_t rfl (go_dM nn ac pc tm md lo al A La P Lp E D W T U C hy _ (nm_r eY (br_f q ⟨17, ?_⟩)))))))))))⟩
      have w := go_gY nn ac pc tm md lo al A La P Lp E D W T U C E' IA.1 (by omega) hx hy hE post (by unfold wY_handle_628; exact hY1 _ hp) 17 0 (by omega) (by omega)
      rw [go_ov0, go_ov0, go_oW0] at w
      exact w
    rcases go_first (fun i => A (y * 4 + i) = x) (La y) with hA | ⟨i, hi, hAi, hAb⟩
    · exact key E JE (Or.inl ⟨hA, rfl⟩) (fun Q hQ => go_me0 nn ac pc tm md lo al A La P Lp E (go_ov D true y (nI g) 16) (go_oW W y (nI g) 16) (go_ov T 0 y (nI g) 16) U C IA.1 (by omega) hy hx hA Q hQ)
    · exact key (go_up E (y * 16 + x) true) (go_Eset JE hx hi hAi) (Or.inr ⟨i, hi, hAi, hAb, rfl⟩) (fun Q hQ => go_me1 nn ac pc tm md lo al A La P Lp E (go_ov D true y (nI g) 16) (go_oW W y (nI g) 16) (go_ov T 0 y (nI g) 16) U C IA.1 (by omega) hy hx hi hAi Q hQ)
theorem go_h11 {x y a : Nat} (hac : 2 ≤ ac ∧ ac ≤ 4) (Z : go_Z ac pc A La P Lp E T U C) (hl : lo + 10 < 2 ^ 31) (hx : x < 16) (hy : y < 16) (ha : a < 65536) : ∃ (A' La' P' Lp' : Nat → Nat) (E' D' W' : Nat → Bool) (T' : Nat → Nat) (U' : Nat → Bool) (C' : Nat → Nat) (lo' : Nat), go_Z ac pc A' La' P' Lp' E' T' U' C' ∧ lo' ≤ lo + 10 ∧ (∀ post : SX → Prop, post (nI nn, nI ac, nI pc, nI tm, nI md, nI lo', go_B al, go_N A', go_N La', go_N P', go_N Lp', go_M E', go_M D', go_M W', go_N T', go_S U' C') → wpX_onGraft post (nI nn, nI ac, nI pc, nI tm, nI md, nI lo, go_B al, go_N A, go_N La, go_N P, go_N Lp, go_M E, go_M D, go_M W, go_N T, go_S U C) (nI y) (nI x) (nI a)) ∧ (∀ post : SY → Prop, post (nI nn, nI ac, nI pc, nI tm, nI lo', nI md, go_B al, go_N A', go_N La', go_N P', go_N Lp', go_B E', go_B D', go_B W', go_N T', go_B U', go_N C') → wpY_handle post (nI nn, nI ac, nI pc, nI tm, nI lo, nI md, go_B al, go_N A, go_N La, go_N P, go_N Lp, go_B E, go_B D, go_B W, go_N T, go_B U, go_N C) 11 (nI x) (nI y) (nI a)) := by
  obtain ⟨IA, JE, I, hT, S⟩ := Z
  have hla := IA.2.1 y
  obtain ⟨g, hg, eg⟩ := go_and16n ha (go_M D y)
  have eX : nI a &&& go_M D (nI y).toNatClampNeg = nI g := by rw [go_rM D y]; exact eg
  have key : ∀ E' : Nat → Bool, go_IE A La E' → ∃ (U' : Nat → Bool) (C' : Nat → Nat) (lo' : Nat), go_IS U' C' ∧ lo' ≤ lo + 10 ∧ (∀ post : SX → Prop, post (nI nn, nI ac, nI pc, nI tm, nI md, nI lo', go_B al, go_N A, go_N La, go_N P, go_N Lp, go_M E', go_M D, go_M W, go_N T, go_S U' C') → (vp_in (nI y) 16 ∧ (∀ z : Int32, z = nI a &&& (go_M D (nI y).toNatClampNeg) → (((z = 0 → post (nI nn, nI ac, nI pc, nI tm, nI md, nI lo, go_B al, go_N A, go_N La, go_N P, go_N Lp, go_M E', go_M D, go_M W, go_N T, go_S U C)) ∧ (¬ z = 0 → wpX_send post (nI nn, nI ac, nI pc, nI tm, nI md, nI lo, go_B al, go_N A, go_N La, go_N P, go_N Lp, go_M E', go_M D, go_M W, go_N T, go_S U C) (nI y) (nI x) 9 z)))))) ∧ (∀ post : SY → Prop, post (nI nn, nI ac, nI pc, nI tm, nI lo', nI md, go_B al, go_N A, go_N La, go_N P, go_N Lp, go_B E', go_B D, go_B W, go_N T, go_B U', go_N C') → wY_handle_769 post (nI x) (nI y) (nI a) (nI nn) (nI ac) (nI pc) (nI tm) (nI lo) (nI md) (go_B al) (go_N A) (go_N La) (go_N P) (go_N Lp) (go_B E') (go_B D) (go_B W) (go_N T) (go_B U) (go_N C)) := by
    intro E' JE'
    by_cases g0 : g = 0
    · have q : nI g = 0 := by rw [g0]; exact nI_0
      refine ⟨U, C, lo, S, by omega, fun post hp => ⟨vp_in_nI hy (by omega), nm_r eX (br_t q hp)⟩, fun post hp => ?_⟩
      unfold wY_handle_769
      exact go_dM nn ac pc tm md lo al A La P Lp E' D W T U C hy _ (nm_r eg (br_t q hp))
    · have q : ¬ nI g = 0 := nI_ne0 (by omega) (by omega)
      obtain ⟨U1, C1, lo1, S1, hl1, hX1, hY1⟩ := go_send nn ac pc tm md lo al A La P Lp E' D W T U C (k := 9) S (by omega) hy hx (by omega) (by omega) hg
      refine ⟨U1, C1, lo1, S1, by omega, fun post hp => ⟨vp_in_nI hy (by omega), nm_r eX (br_f q (hX1 _ hp))⟩, fun post hp => ?_⟩
      unfold wY_handle_769
      exact go_dM nn ac pc tm md lo al A La P Lp E' D W T U C hy _ (nm_r eg (br_f q (hY1 _ hp)))
  have k1 : ¬ (11 : Int32) = 1 := by decide
  have k2 : ¬ (11 : Int32) = 2 := by decide
  have k3 : ¬ (11 : Int32) = 3 := by decide
  have k4 : ¬ (11 : Int32) = 4 := by decide
  have k5 : ¬ (11 : Int32) = 5 := by decide
  have k6 : ¬ (11 : Int32) = 6 := by decide
  have k7 : ¬ (11 : Int32) = 7 := by decide
  have k8 : ¬ (11 : Int32) = 8 := by decide
  have k9 : ¬ (11 : Int32) = 9 := by decide
  have k10 : ¬ (11 : Int32) = 10 := by decide
  rcases go_first (fun i => A (y * 4 + i) = x) (La y) with hA | ⟨i, hi, hAi, hAb⟩
  · obtain ⟨U', C', lo', S', hl', hX, hY⟩ := key E JE
    refine ⟨A, La, P, Lp, E, D, W, T, U', C', lo', ⟨IA, JE, I, hT, S'⟩, hl', fun post hp => ?_, fun post hp => br_f k1 (br_f k2 (br_f k3 (br_f k4 (br_f k5 (br_f k6 (br_f k7 (br_f k8 (br_f k9 (br_f k10 (br_t rfl (go_ps4 nn ac pc tm md lo al A La P Lp E D W T U C IA.1 (by omega) hy hx hA _ (br_t (by decide) (hY post hp)))))))))))))⟩
    unfold wpX_onGraft
    exact go_me0 nn ac pc tm md lo al A La P Lp E D W T U C IA.1 (by omega) hy hx hA _ (hX _ hp)
  · obtain ⟨U', C', lo', S', hl', hX, hY⟩ := key (go_up E (y * 16 + x) true) (go_Eset JE hx hi hAi)
    refine ⟨A, La, P, Lp, go_up E (y * 16 + x) true, D, W, T, U', C', lo', ⟨IA, go_Eset JE hx hi hAi, I, hT, S'⟩, hl', fun post hp => ?_, fun post hp => br_f k1 (br_f k2 (br_f k3 (br_f k4 (br_f k5 (br_f k6 (br_f k7 (br_f k8 (br_f k9 (br_f k10 (br_t rfl (go_psy4 nn ac pc tm md lo al A La P Lp E D W T U C IA.1 (by omega) hy hx hi hAi hAb _ (br_f (nI_pos (by omega)) ⟨pk_in (y * 16 + x) 256 (by omega) (go_ix16 y x), nm_r (go_uB E (y * 16 + x) true go_vt (go_ix16 y x)) (hY post hp)⟩))))))))))))⟩
    unfold wpX_onGraft
    exact go_me1 nn ac pc tm md lo al A La P Lp E D W T U C IA.1 (by omega) hy hx hi hAi _ (hX _ hp)
end
section
variable (nn ac pc tm md lo : Nat) (al : Nat → Bool) (A La P Lp : Nat → Nat) (E D : Nat → Bool) (U : Nat → Bool) (C : Nat → Nat)
theorem go_hil {x y a m : Nat} (htm : 1 ≤ tm ∧ tm ≤ 8) (hx : x < 16) (hy : y < 16) (hm : ∀ b, b < 16 → bt (nI m) b = (bt (nI a) b && !D (y * 16 + b))) : ∀ d b (W : Nat → Bool) (T : Nat → Nat), b + d = 16 → (∀ j, T j ≤ 8) → ∃ (W' : Nat → Bool) (T' : Nat → Nat), (∀ j, T' j ≤ 8) ∧ (∀ post : SX → Prop, post (nI nn, nI ac, nI pc, nI tm, nI md, nI lo, go_B al, go_N A, go_N La, go_N P, go_N Lp, go_M E, go_M D, go_M W', go_N T', go_S U C) → wX_onIhave_15 post (nI y) (nI x) (nI m) (nI nn) (nI ac) (nI pc) (nI tm) (nI md) (nI lo) (d + 1) (nI b) (go_B al) (go_N A) (go_N La) (go_N P) (go_N Lp) (go_M E) (go_M D) (go_M W) (go_N T) (go_S U C)) ∧ (∀ post : SY → Prop, post (nI nn, nI ac, nI pc, nI tm, nI lo, nI md, go_B al, go_N A, go_N La, go_N P, go_N Lp, go_B E, go_B D, go_B W', go_N T', go_B U, go_N C) → wY_handle_648 post (nI x) (nI y) (nI a) (nI nn) (nI ac) (nI pc) (nI tm) (nI lo) (nI md) (d + 1) (nI b) (go_B al) (go_N A) (go_N La) (go_N P) (go_N Lp) (go_B E) (go_B D) (go_B W) (go_N T) (go_B U) (go_N C)) := by
  intro d
  induction d with
  | zero =>
    intro b W T hb hT
    exact ⟨W, T, hT, fun post hp => br_t (nI_le (a := 16) (by omega) (by omega)) hp, fun post hp => br_t (nI_le (a := 16) (by omega) (by omega)) hp⟩
  | succ d ih =>
    intro b W T hb hT
    have h16 : b < 16 := by omega
    have hne : ¬ (16 : Int32) ≤ nI b := nI_ge (b := 16) h16 (by omega)
    have hmb := hm b h16
    have ix := go_ix16 y b
    cases za : bt (nI a) b with
    | false =>
      obtain ⟨W', T', hT', hX, hY⟩ := ih (b + 1) W T (by omega) hT
      rw [za, Bool.false_and] at hmb
      exact ⟨W', T', hT', fun post hp => br_f hne (br_t ((go_bm m b h16).mpr hmb) (nm_r (nI_1 b) (hX post hp))), fun post hp => br_f hne (br_t ((go_bm a b h16).mpr za) (nm_r (nI_1 b) (hY post hp)))⟩
    | true =>
      have qa : ¬ (nI a &&& ((1 : Int32) <<< (nI b &&& 31))) = 0 := fun q => by rw [(go_bm a b h16).mp q] at za; exact absurd za (by decide)
      cases zD : D (y * 16 + b) with
      | true =>
        obtain ⟨W', T', hT', hX, hY⟩ := ih (b + 1) W T (by omega) hT
        rw [za, zD] at hmb
        exact ⟨W', T', hT', fun post hp => br_f hne (br_t ((go_bm m b h16).mpr hmb) (nm_r (nI_1 b) (hX post hp))), fun post hp => br_f hne (br_f qa ⟨pk_in (y * 16 + b) 256 (by omega) ix, br_f (go_bn D (y * 16 + b) zD ix) (nm_r (nI_1 b) (hY post hp))⟩)⟩
      | false =>
        rw [za, zD] at hmb
        have qm : ¬ (nI m &&& ((1 : Int32) <<< (nI b &&& 31))) = 0 := fun q => by rw [(go_bm m b h16).mp q] at hmb; exact absurd hmb (by decide)
        have rT := go_rN (e := nI (y * 16 + b)) T (y * 16 + b) rfl (by omega)
        have rT2 := go_rN (e := nI y * 16 + nI b) T (y * 16 + b) ix (by omega)
        have hTb := hT (y * 16 + b)
        have hv : vp_in (nI (y * 16 + b)) 256 := vp_in_nI (by omega) (by omega)
        by_cases t0 : T (y * 16 + b) = 0
        · have hT2 : ∀ j, go_up T (y * 16 + b) tm j ≤ 8 := by
            intro j
            by_cases e : j = y * 16 + b
            · rw [e, go_us]; omega
            · rw [go_un e]; exact hT j
          obtain ⟨W', T', hT', hX, hY⟩ := ih (b + 1) (go_up W ((y * 16 + b) * 16 + x) true) (go_up T (y * 16 + b) tm) (by omega) hT2
          exact ⟨W', T', hT', fun post hp => br_f hne (br_f qm (nm_r ix ⟨hv, hv, nm_r (go_uMs W (y * 16 + b) x hx) ⟨hv, br_t (by rw [rT, t0]; exact nI_0) ⟨hv, nm_r (go_uN T (y * 16 + b) tm rfl) (nm_r (nI_1 b) (hX post hp))⟩⟩⟩)), fun post hp => br_f hne (br_f qa ⟨pk_in (y * 16 + b) 256 (by omega) ix, br_t (go_bz D (y * 16 + b) zD ix) ⟨pk_in ((y * 16 + b) * 16 + x) 4096 (by omega) (go_ix256 y b x), nm_r (go_uB W ((y * 16 + b) * 16 + x) true go_vt (go_ix256 y b x)) ⟨pk_in (y * 16 + b) 256 (by omega) ix, br_t (by rw [rT2, t0]; exact nI_0) ⟨pk_in (y * 16 + b) 256 (by omega) ix, nm_r (go_uN T (y * 16 + b) tm rfl ix) (nm_r (nI_1 b) (hY post hp))⟩⟩⟩⟩)⟩
        · obtain ⟨W', T', hT', hX, hY⟩ := ih (b + 1) (go_up W ((y * 16 + b) * 16 + x) true) T (by omega) hT
          exact ⟨W', T', hT', fun post hp => br_f hne (br_f qm (nm_r ix ⟨hv, hv, nm_r (go_uMs W (y * 16 + b) x hx) ⟨hv, br_f (by rw [rT]; exact nI_ne0 (by omega) (by omega)) (nm_r (nI_1 b) (hX post hp))⟩⟩)), fun post hp => br_f hne (br_f qa ⟨pk_in (y * 16 + b) 256 (by omega) ix, br_t (go_bz D (y * 16 + b) zD ix) ⟨pk_in ((y * 16 + b) * 16 + x) 4096 (by omega) (go_ix256 y b x), nm_r (go_uB W ((y * 16 + b) * 16 + x) true go_vt (go_ix256 y b x)) ⟨pk_in (y * 16 + b) 256 (by omega) ix, br_f (by rw [rT2]; exact nI_ne0 (by omega) (by omega)) (nm_r (nI_1 b) (hY post hp))⟩⟩⟩)⟩
end
section
variable (nn ac pc tm md lo : Nat) (al : Nat → Bool) (A La P Lp : Nat → Nat) (E D W : Nat → Bool) (T : Nat → Nat) (U : Nat → Bool) (C : Nat → Nat)
theorem go_h10 {x y a : Nat} (htm : 1 ≤ tm ∧ tm ≤ 8) (Z : go_Z ac pc A La P Lp E T U C) (hx : x < 16) (hy : y < 16) (ha : a < 65536) : ∃ (A' La' P' Lp' : Nat → Nat) (E' D' W' : Nat → Bool) (T' : Nat → Nat) (U' : Nat → Bool) (C' : Nat → Nat) (lo' : Nat), go_Z ac pc A' La' P' Lp' E' T' U' C' ∧ lo' ≤ lo + 10 ∧ (∀ post : SX → Prop, post (nI nn, nI ac, nI pc, nI tm, nI md, nI lo', go_B al, go_N A', go_N La', go_N P', go_N Lp', go_M E', go_M D', go_M W', go_N T', go_S U' C') → wpX_onIhave post (nI nn, nI ac, nI pc, nI tm, nI md, nI lo, go_B al, go_N A, go_N La, go_N P, go_N Lp, go_M E, go_M D, go_M W, go_N T, go_S U C) (nI y) (nI x) (nI a)) ∧ (∀ post : SY → Prop, post (nI nn, nI ac, nI pc, nI tm, nI lo', nI md, go_B al, go_N A', go_N La', go_N P', go_N Lp', go_B E', go_B D', go_B W', go_N T', go_B U', go_N C') → wpY_handle post (nI nn, nI ac, nI pc, nI tm, nI lo, nI md, go_B al, go_N A, go_N La, go_N P, go_N Lp, go_B E, go_B D, go_B W, go_N T, go_B U, go_N C) 10 (nI x) (nI y) (nI a)) := by
  obtain ⟨IA, JE, I, hT, S⟩ := Z
  obtain ⟨m, hm, em⟩ := go_and16n ha (go_M D y ^^^ (-1))
  have eX : nI a &&& (go_M D (nI y).toNatClampNeg ^^^ (-1)) = nI m := by rw [go_rM D y]; exact em
  have hb : ∀ b, b < 16 → bt (nI m) b = (bt (nI a) b && !D (y * 16 + b)) := by
    intro b h16
    rw [← em, b_and, b_xor, b_m1 b (by omega), go_Mb D y b (by omega), decide_eq_true h16, Bool.true_and, Bool.xor_true]
  obtain ⟨W', T', hT', hX, hY⟩ := go_hil nn ac pc tm md lo al A La P Lp E D U C htm hx hy hb 16 0 W T (by omega) hT
  exact ⟨A, La, P, Lp, E, D, W', T', U, C, lo, ⟨IA, JE, I, hT', S⟩, by omega, fun post hp => ⟨vp_in_nI hy (by omega), nm_r eX ⟨_, hX post hp⟩⟩, fun post hp => br_f (by decide) (br_f (by decide) (br_f (by decide) (br_f (by decide) (br_f (by decide) (br_f (by decide) (br_f (by decide) (br_f (by decide) (br_f (by decide) (br_t rfl ⟨_, hY post hp⟩)))))))))⟩
end
end
section
def go_rU (U : Nat → Bool) (C : Nat → Nat) (x i : Nat) : Nat → Bool := fun s => if s < i ∧ (C s / 2 ^ 20 % 2 ^ 4 = x ∨ C s / 2 ^ 16 % 2 ^ 4 = x) then false else U s
theorem go_rU0 (U : Nat → Bool) (C : Nat → Nat) (x : Nat) : go_rU U C x 0 = U := funext fun s => if_neg (fun h => absurd h.1 (by omega))
theorem go_rUi (U : Nat → Bool) (C : Nat → Nat) (x i : Nat) : go_rU U C x i i = U i := if_neg (fun h => absurd h.1 (by omega))
theorem go_rUa {U : Nat → Bool} {C : Nat → Nat} {x i : Nat} (h : (C i / 2 ^ 20 % 2 ^ 4 = x ∨ C i / 2 ^ 16 % 2 ^ 4 = x) ∨ U i = false) : go_up (go_rU U C x i) i false = go_rU U C x (i + 1) := by
  funext s
  unfold go_up go_rU
  by_cases e : s = i
  · rw [if_pos e, e]
    rcases h with h | h
    · rw [if_pos ⟨by omega, h⟩]
    · rw [h]; split <;> rfl
  · rw [if_neg e]
    by_cases g : s < i ∧ (C s / 2 ^ 20 % 2 ^ 4 = x ∨ C s / 2 ^ 16 % 2 ^ 4 = x)
    · rw [if_pos g, if_pos ⟨by have := g.1; omega, g.2⟩]
    · rw [if_neg g, if_neg (fun z => g ⟨by have := z.1; omega, z.2⟩)]
theorem go_rUb {U : Nat → Bool} {C : Nat → Nat} {x i : Nat} (h : ¬ (C i / 2 ^ 20 % 2 ^ 4 = x ∨ C i / 2 ^ 16 % 2 ^ 4 = x) ∨ U i = false) : go_rU U C x i = go_rU U C x (i + 1) := by
  funext s
  unfold go_rU
  by_cases e : s = i
  · rw [if_neg (fun z => absurd z.1 (by omega)), e]
    rcases h with h | h
    · rw [if_neg (fun z => h z.2)]
    · rw [h]; split <;> rfl
  · by_cases g : s < i ∧ (C s / 2 ^ 20 % 2 ^ 4 = x ∨ C s / 2 ^ 16 % 2 ^ 4 = x)
    · rw [if_pos g, if_pos ⟨by have := g.1; omega, g.2⟩]
    · rw [if_neg g, if_neg (fun z => g ⟨by have := z.1; omega, z.2⟩)]
theorem go_rUS {U : Nat → Bool} {C : Nat → Nat} (S : go_IS U C) (x i : Nat) : go_IS (go_rU U C x i) C := by
  intro s
  refine ⟨(S s).1, fun h => ?_⟩
  unfold go_rU at h
  split at h
  · exact absurd h (by decide)
  · exact (S s).2 h
theorem go_z20 : ((0 : Int32) >>> ((20 : Int32) &&& 31)) &&& 15 = nI 0 := by decide
theorem go_z16 : ((0 : Int32) >>> ((16 : Int32) &&& 31)) &&& 15 = nI 0 := by decide
theorem go_bt1 {b : Nat} (h : b < 16) : bt (nI 65535) b = true := (b_65535 b).trans (decide_eq_true h)
section
variable (nn ac pc tm md lo : Nat) (al : Nat → Bool) (A La P Lp : Nat → Nat) (E D W : Nat → Bool) (T : Nat → Nat) (U : Nat → Bool) (C : Nat → Nat)
theorem go_fpX {x : Nat} (hx : x < 16) (post : SX → Prop) (hp : post (nI nn, nI ac, nI pc, nI tm, nI md, nI lo, go_B al, go_N A, go_N (go_up La x 0), go_N P, go_N (go_up Lp x 0), go_M (go_z E false (x * 16) (x * 16 + 16)), go_M D, go_M (go_oW W x (nI 65535) 16), go_N (go_ov T 0 x (nI 65535) 16), go_S U C)) : wpX_forgetPeers post (nI nn, nI ac, nI pc, nI tm, nI md, nI lo, go_B al, go_N A, go_N La, go_N P, go_N Lp, go_M E, go_M D, go_M W, go_N T, go_S U C) (nI x) := ⟨vp_in_nI hx (by omega), nm_r (go_uN La x 0 rfl) ⟨vp_in_nI hx (by omega), nm_r (go_uN Lp x 0 rfl) ⟨vp_in_nI hx (by omega), nm_r (go_uMz E x) (go_stop nn ac pc tm md lo al A (go_up La x 0) P (go_up Lp x 0) (go_z E false (x * 16) (x * 16 + 16)) D W T U C (g := 65535) hx _ hp)⟩⟩⟩
theorem go_rmX {x : Nat} (S : go_IS U C) (hx : x < 16) (post : SX → Prop) (hp : post (nI nn, nI ac, nI pc, nI tm, nI md, nI lo, go_B al, go_N A, go_N La, go_N P, go_N Lp, go_M E, go_M D, go_M W, go_N T, go_S (go_rU U C x 64) C)) : ∀ n i, i ≤ 64 → 64 - i < n → wX_removeMessagesOf_2 post (nI x) (nI nn) (nI ac) (nI pc) (nI tm) (nI md) (nI lo) n (nI i) (go_B al) (go_N A) (go_N La) (go_N P) (go_N Lp) (go_M E) (go_M D) (go_M W) (go_N T) (go_S (go_rU U C x i) C) := by
  intro n
  induction n with
  | zero => intro i _ hn; exact absurd hn (by omega)
  | succ n ih =>
    intro i hi hn
    refine pk_le 64 i (fun h => ?_) (fun h => ?_)
    · have e : i = 64 := by omega
      rw [e]; exact hp
    · have hv : vp_in (nI i) 64 := vp_in_nI h (by omega)
      have w := ih (i + 1) (by omega) (by omega)
      cases hU : U i with
      | false =>
        have r0 : go_S (go_rU U C x i) C (nI i).toNatClampNeg = 0 := (go_S0 (go_rUS S x i) i).mpr ((go_rUi U C x i).trans hU)
        have e1 : (go_S (go_rU U C x i) C (nI i).toNatClampNeg >>> ((20 : Int32) &&& 31)) &&& 15 = nI 0 := by rw [r0]; exact go_z20
        have e2 : (go_S (go_rU U C x i) C (nI i).toNatClampNeg >>> ((16 : Int32) &&& 31)) &&& 15 = nI 0 := by rw [r0]; exact go_z16
        have s1 : upd (go_S (go_rU U C x i) C) (nI i).toNatClampNeg 0 = go_S (go_rU U C x (i + 1)) C := by rw [go_uSf _ C i, go_rUa (Or.inr hU)]
        have w2 := w
        rw [← go_rUb (Or.inr hU)] at w2
        exact ⟨hv, nm_r e1 ⟨hv, nm_r e2 (br_c (fun _ => ⟨hv, nm_r s1 (nm_r (nI_1 i) w)⟩) (fun _ => br_c (fun _ => ⟨hv, nm_r s1 (nm_r (nI_1 i) w)⟩) (fun _ => nm_r (nI_1 i) w2)))⟩⟩
      | true =>
        have hc := (S i).1
        have r1 : go_S (go_rU U C x i) C (nI i).toNatClampNeg = nI (C i) := go_rS i ((go_rUi U C x i).trans hU)
        have e1 : (go_S (go_rU U C x i) C (nI i).toNatClampNeg >>> ((20 : Int32) &&& 31)) &&& 15 = nI (C i / 2 ^ 20 % 2 ^ 4) := by rw [r1]; exact go_d20 hc
        have e2 : (go_S (go_rU U C x i) C (nI i).toNatClampNeg >>> ((16 : Int32) &&& 31)) &&& 15 = nI (C i / 2 ^ 16 % 2 ^ 4) := by rw [r1]; exact go_d16 hc
        have s1 : ∀ (q : C i / 2 ^ 20 % 2 ^ 4 = x ∨ C i / 2 ^ 16 % 2 ^ 4 = x), upd (go_S (go_rU U C x i) C) (nI i).toNatClampNeg 0 = go_S (go_rU U C x (i + 1)) C := fun q => by rw [go_uSf _ C i, go_rUa (Or.inl q)]
        refine ⟨hv, nm_r e1 ⟨hv, nm_r e2 (pk_eq (C i / 2 ^ 20 % 2 ^ 4) x (fun q => ⟨hv, nm_r (s1 (Or.inl q)) (nm_r (nI_1 i) w)⟩) (fun q1 => pk_eq (C i / 2 ^ 16 % 2 ^ 4) x (fun q => ⟨hv, nm_r (s1 (Or.inr q)) (nm_r (nI_1 i) w)⟩) (fun q2 => nm_r (nI_1 i) ?_)))⟩⟩
        rw [← go_rUb (Or.inl (fun z => z.elim q1 q2))] at w
        exact w
theorem go_rmY {x : Nat} (S : go_IS U C) (hx : x < 16) (post : Int32 → SY → Prop) (hp : ∃ n180 : Nat, wY_crash_180 post (nI x) n180 0 (nI nn) (nI ac) (nI pc) (nI tm) (nI lo) (nI md) (go_B al) (go_N A) (go_N La) (go_N P) (go_N Lp) (go_B E) (go_B D) (go_B W) (go_N T) (go_B (go_rU U C x 64)) (go_N C)) : ∀ n i, i ≤ 64 → 64 - i < n → wY_crash_112 post (nI x) (nI nn) (nI ac) (nI pc) (nI tm) (nI lo) (nI md) n (nI i) (go_B al) (go_N A) (go_N La) (go_N P) (go_N Lp) (go_B E) (go_B D) (go_B W) (go_N T) (go_B (go_rU U C x i)) (go_N C) := by
  intro n
  induction n with
  | zero => intro i _ hn; exact absurd hn (by omega)
  | succ n ih =>
    intro i hi hn
    refine pk_le 64 i (fun h => ?_) (fun h => ?_)
    · have e : i = 64 := by omega
      rw [e]; exact hp
    · have hv : vp_in (nI i) 64 := vp_in_nI h (by omega)
      have w := ih (i + 1) (by omega) (by omega)
      have hc := (S i).1
      have r1 := go_rN (e := nI i) C i rfl (by omega)
      have e1 : (go_N C (nI i).toNatClampNeg >>> ((20 : Int32) &&& 31)) &&& 15 = nI (C i / 2 ^ 20 % 2 ^ 4) := by rw [r1]; exact go_d20 hc
      have e2 : (go_N C (nI i).toNatClampNeg >>> ((16 : Int32) &&& 31)) &&& 15 = nI (C i / 2 ^ 16 % 2 ^ 4) := by rw [r1]; exact go_d16 hc
      cases hU : U i with
      | false =>
        rw [← go_rUb (Or.inr hU)] at w
        exact ⟨hv, nm_r e1 ⟨hv, nm_r e2 ⟨hv, br_t (go_bz _ i ((go_rUi U C x i).trans hU)) (nm_r (nI_1 i) w)⟩⟩⟩
      | true =>
        have s1 : ∀ (q : C i / 2 ^ 20 % 2 ^ 4 = x ∨ C i / 2 ^ 16 % 2 ^ 4 = x), upd (go_B (go_rU U C x i)) (nI i).toNatClampNeg (vp_nar .boolean 0) = go_B (go_rU U C x (i + 1)) := fun q => by rw [go_uB _ i false go_vf, go_rUa (Or.inl q)]
        refine ⟨hv, nm_r e1 ⟨hv, nm_r e2 ⟨hv, br_f (go_bn _ i ((go_rUi U C x i).trans hU)) (pk_eq (C i / 2 ^ 20 % 2 ^ 4) x (fun q => ⟨hv, nm_r (s1 (Or.inl q)) (nm_r (nI_1 i) w)⟩) (fun q1 => pk_eq (C i / 2 ^ 16 % 2 ^ 4) x (fun q => ⟨hv, nm_r (s1 (Or.inr q)) (nm_r (nI_1 i) w)⟩) (fun q2 => nm_r (nI_1 i) ?_)))⟩⟩⟩
        rw [← go_rUb (Or.inl (fun z => z.elim q1 q2))] at w
        exact w
theorem go_zC {x b : Nat} (hx : x < 16) (hb : b < 16) (post : Int32 → SY → Prop) (J : Int32 → (Nat → Int32) → (Nat → Int32) → (Nat → Int32) → (Nat → Int32) → (Nat → Int32) → (Nat → Int32) → (Nat → Int32) → (Nat → Int32) → (Nat → Int32) → (Nat → Int32) → (Nat → Int32) → Prop) (hJ : J (nI (b + 1)) (go_B al) (go_N A) (go_N La) (go_N P) (go_N Lp) (go_B E) (go_B D) (go_B (go_z W false ((x * 16 + b) * 16) ((x * 16 + b) * 16 + 16))) (go_N T) (go_B U) (go_N C)) : ∀ n p, p ≤ 16 → 16 - p < n → wY_crash_74 post J (nI x) (nI b) (nI nn) (nI ac) (nI pc) (nI tm) (nI lo) (nI md) n (nI p) (go_B al) (go_N A) (go_N La) (go_N P) (go_N Lp) (go_B E) (go_B D) (go_B (go_z W false ((x * 16 + b) * 16) ((x * 16 + b) * 16 + p))) (go_N T) (go_B U) (go_N C) := by
  intro n
  induction n with
  | zero => intro i _ hn; exact absurd hn (by omega)
  | succ n ih =>
    intro p hp hn
    refine pk_le 16 p (fun h => nm_r (nI_1 b) ?_) (fun h => ⟨pk_in ((x * 16 + b) * 16 + p) 4096 (by omega) (go_ix256 x b p), nm_r ((go_uB _ ((x * 16 + b) * 16 + p) false go_vf (go_ix256 x b p)).trans (congrArg go_B (go_zs W false (by omega)))) (nm_r (nI_1 p) (ih (p + 1) (by omega) (by omega)))⟩)
    have e : p = 16 := by omega
    rw [e]; exact hJ
theorem go_cl42 {x : Nat} (hx : x < 16) (post : Int32 → SY → Prop) (hp : ∃ n112 : Nat, wY_crash_112 post (nI x) (nI nn) (nI ac) (nI pc) (nI tm) (nI lo) (nI md) n112 0 (go_B al) (go_N A) (go_N La) (go_N P) (go_N Lp) (go_B (go_z E false (x * 16) (x * 16 + 16))) (go_B D) (go_B (go_oW W x (nI 65535) 16)) (go_N (go_ov T 0 x (nI 65535) 16)) (go_B U) (go_N C)) : ∀ n b, b ≤ 16 → 16 - b < n → wY_crash_42 post (nI x) (nI nn) (nI ac) (nI pc) (nI tm) (nI lo) (nI md) n (nI b) (go_B al) (go_N A) (go_N La) (go_N P) (go_N Lp) (go_B (go_z E false (x * 16) (x * 16 + b))) (go_B D) (go_B (go_oW W x (nI 65535) b)) (go_N (go_ov T 0 x (nI 65535) b)) (go_B U) (go_N C) := by
  intro n
  induction n with
  | zero => intro i _ hn; exact absurd hn (by omega)
  | succ n ih =>
    intro b hb hn
    refine pk_le 16 b (fun h => ?_) (fun h => ⟨pk_in (x * 16 + b) 256 (by omega) (go_ix16 x b), nm_r ((go_uB _ (x * 16 + b) false go_vf (go_ix16 x b)).trans (congrArg go_B (go_zs E false (by omega)))) ⟨pk_in (x * 16 + b) 256 (by omega) (go_ix16 x b), nm_r ((go_uN _ (x * 16 + b) 0 rfl (go_ix16 x b)).trans (congrArg go_N (go_ovt T 0 x (go_bt1 h)))) ⟨17, ?_⟩⟩⟩)
    · have e : b = 16 := by omega
      rw [e]; exact hp
    · have w := ih (b + 1) (by omega) (by omega)
      rw [← go_oWt W x (go_bt1 h)] at w
      have q := go_zC nn ac pc tm md lo al A La P Lp (go_z E false (x * 16) (x * 16 + b + 1)) D (go_oW W x (nI 65535) b) (go_ov T 0 x (nI 65535) (b + 1)) U C hx h post _ w 17 0 (by omega) (by omega)
      rw [show (x * 16 + b) * 16 + 0 = (x * 16 + b) * 16 from rfl, go_z0] at q
      exact q
end
section
variable (nn ac pc tm md : Nat) (al : Nat → Bool) (D W : Nat → Bool) (T : Nat → Nat)
theorem go_crl {x : Nat} (hn : nn ≤ 16) (hac : 2 ≤ ac ∧ ac ≤ 4) (hpc : 1 ≤ pc ∧ pc ≤ 8) (hT : ∀ j, T j ≤ 8) (hx : x < 16) : ∀ d i (lo : Nat) (A La P Lp : Nat → Nat) (E : Nat → Bool) (U : Nat → Bool) (C : Nat → Nat), i + d = nn → go_Z ac pc A La P Lp E T U C → lo + d < 2 ^ 31 → ∃ (A' La' P' Lp' : Nat → Nat) (E' : Nat → Bool) (U' : Nat → Bool) (C' : Nat → Nat) (lo' : Nat), go_Z ac pc A' La' P' Lp' E' T U' C' ∧ lo' ≤ lo + d ∧ (∀ post : Int32 → SX → Prop, post 1 (nI nn, nI ac, nI pc, nI tm, nI md, nI lo', go_B al, go_N A', go_N La', go_N P', go_N Lp', go_M E', go_M D, go_M W, go_N T, go_S U' C') → wX_crash_29 post (nI x) (d + 1) (nI i) (nI nn) (nI ac) (nI pc) (nI tm) (nI md) (nI lo) (go_B al) (go_N A) (go_N La) (go_N P) (go_N Lp) (go_M E) (go_M D) (go_M W) (go_N T) (go_S U C)) ∧ (∀ post : Int32 → SY → Prop, post 1 (nI nn, nI ac, nI pc, nI tm, nI lo', nI md, go_B al, go_N A', go_N La', go_N P', go_N Lp', go_B E', go_B D, go_B W, go_N T, go_B U', go_N C') → wY_crash_180 post (nI x) (d + 1) (nI i) (nI nn) (nI ac) (nI pc) (nI tm) (nI lo) (nI md) (go_B al) (go_N A) (go_N La) (go_N P) (go_N Lp) (go_B E) (go_B D) (go_B W) (go_N T) (go_B U) (go_N C)) := by
  intro d
  induction d with
  | zero =>
    intro i lo A La P Lp E U C hi Z hl
    exact ⟨A, La, P, Lp, E, U, C, lo, Z, by omega, fun post hp => br_t (nI_le (by omega) (by omega)) hp, fun post hp => br_t (nI_le (by omega) (by omega)) hp⟩
  | succ d ih =>
    intro i lo A La P Lp E U C hi Z hl
    have Z0 := Z
    obtain ⟨IA, JE, I, _, S⟩ := Z
    have hi16 : i < 16 := by omega
    have hla := IA.2.1 i
    have hne : ¬ nI nn ≤ nI i := nI_ge (by omega) (by omega)
    have hv : vp_in (nI i) 16 := vp_in_nI hi16 (by omega)
    cases hal : al i with
    | false =>
      obtain ⟨A', La', P', Lp', E', U', C', lo', Z', hl', hX, hY⟩ := ih (i + 1) lo A La P Lp E U C (by omega) Z0 (by omega)
      exact ⟨A', La', P', Lp', E', U', C', lo', Z', by omega, fun post hp => br_f hne ⟨hv, br_t (go_bz al i hal) (nm_r (nI_1 i) (hX post hp))⟩, fun post hp => br_f hne ⟨hv, br_t (go_bz al i hal) (nm_r (nI_1 i) (hY post hp))⟩⟩
    | true =>
      rcases go_first (fun j => A (i * 4 + j) = x) (La i) with hA | ⟨j, hj, hAj, hAb⟩
      · obtain ⟨A', La', P', Lp', E', U', C', lo', Z', hl', hX, hY⟩ := ih (i + 1) lo A La P Lp E U C (by omega) Z0 (by omega)
        exact ⟨A', La', P', Lp', E', U', C', lo', Z', by omega, fun post hp => br_f hne ⟨hv, br_f (go_bn al i hal) (go_rX04 nn ac pc tm md lo al A La P Lp E D W T U C hac.2 IA JE hi16 hx hA _ (br_t rfl (nm_r (nI_1 i) (hX post hp))))⟩, fun post hp => br_f hne ⟨hv, br_f (go_bn al i hal) (go_ps4 nn ac pc tm md lo al A La P Lp E D W T U C IA.1 (by omega) hi16 hx hA _ (br_t (by decide) (nm_r (nI_1 i) (hY post hp))))⟩⟩
      · have I2 := go_rm4 hac.2 IA hj
        have J2 := go_rmE hac.2 IA JE hj hAj
        obtain ⟨P1, Lp1, U1, C1, lo1, I1, S1, hl1, hX1, hY1⟩ := go_repair nn ac pc tm md lo al (go_sh A (i * 4 + j) (i * 4 + (La i - 1))) (go_up La i (La i - 1)) P Lp (go_up E (i * 16 + x) false) D W T U C hac (I2.2.1 i) hpc I S (by omega) hi16
        obtain ⟨A', La', P', Lp', E', U', C', lo', Z', hl', hX, hY⟩ := ih (i + 1) lo1 _ _ P1 Lp1 _ U1 C1 (by omega) ⟨I2, J2, I1, hT, S1⟩ (by omega)
        exact ⟨A', La', P', Lp', E', U', C', lo', Z', by omega, fun post hp => br_f hne ⟨hv, br_f (go_bn al i hal) (go_rX14 nn ac pc tm md lo al A La P Lp E D W T U C hac.2 IA hi16 hx hj hAj _ (br_f (by decide) (hX1 _ (nm_r (nI_1 i) (hX post hp)))))⟩, fun post hp => br_f hne ⟨hv, br_f (go_bn al i hal) (go_psy4 nn ac pc tm md lo al A La P Lp E D W T U C IA.1 (by omega) hi16 hx hj hAj hAb _ (br_f (nI_pos (by omega)) (go_rY14 nn ac pc tm md lo al A La P Lp E D W T U C hac.2 IA hi16 hx hj hAj hAb _ (hY1 _ (nm_r (nI_1 i) (hY post hp))))))⟩⟩
end
section
variable (nn ac pc tm md lo : Nat) (al : Nat → Bool) (A La P Lp : Nat → Nat) (E D W : Nat → Bool) (T : Nat → Nat) (U : Nat → Bool) (C : Nat → Nat)
theorem go_ndX {j : Nat} (hn : nn ≤ 16) (hj : j < nn) (post : Int32 → Prop) (hp : post 1) : wpX_isNode post (nI nn, nI ac, nI pc, nI tm, nI md, nI lo, go_B al, go_N A, go_N La, go_N P, go_N Lp, go_M E, go_M D, go_M W, go_N T, go_S U C) (nI j) := br_f (nI_pos (by omega)) (br_f (nI_ge hj (by omega)) hp)
theorem go_ndX0 {v : Int32} (hv : v < 0 ∨ nI nn ≤ v) (post : Int32 → Prop) (hp : post 0) : wpX_isNode post (nI nn, nI ac, nI pc, nI tm, nI md, nI lo, go_B al, go_N A, go_N La, go_N P, go_N Lp, go_M E, go_M D, go_M W, go_N T, go_S U C) v := br_c (fun _ => hp) (fun q => br_t (hv.resolve_left q) hp)
theorem go_ndY {j : Nat} (hn : nn ≤ 16) (hj : j < nn) (post : Int32 → Prop) (hp : post 1) : wpY_valid post (nI nn, nI ac, nI pc, nI tm, nI lo, nI md, go_B al, go_N A, go_N La, go_N P, go_N Lp, go_B E, go_B D, go_B W, go_N T, go_B U, go_N C) (nI j) := br_f (nI_pos (by omega)) (br_f (nI_ge hj (by omega)) hp)
theorem go_ndY0 {v : Int32} (hv : v < 0 ∨ nI nn ≤ v) (post : Int32 → Prop) (hp : post 0) : wpY_valid post (nI nn, nI ac, nI pc, nI tm, nI lo, nI md, go_B al, go_N A, go_N La, go_N P, go_N Lp, go_B E, go_B D, go_B W, go_N T, go_B U, go_N C) v := br_c (fun _ => hp) (fun q => br_t (hv.resolve_left q) hp)
theorem go_alX {j : Nat} (hn : nn ≤ 16) (hj : j < nn) (ha : al j = true) (post : Int32 → Prop) (hp : post 1) : wpX_isAlive post (nI nn, nI ac, nI pc, nI tm, nI md, nI lo, go_B al, go_N A, go_N La, go_N P, go_N Lp, go_M E, go_M D, go_M W, go_N T, go_S U C) (nI j) := by
  unfold wpX_isAlive
  exact go_ndX nn ac pc tm md lo al A La P Lp E D W T U C hn hj _ (br_f (by decide) ⟨vp_in_nI (by omega) (by omega), br_f (go_bn al j ha) hp⟩)
theorem go_alX0 {v : Int32} (hn : nn ≤ 16) (hv : (v < 0 ∨ nI nn ≤ v) ∨ ∃ j, j < nn ∧ v = nI j ∧ al j = false) (post : Int32 → Prop) (hp : post 0) : wpX_isAlive post (nI nn, nI ac, nI pc, nI tm, nI md, nI lo, go_B al, go_N A, go_N La, go_N P, go_N Lp, go_M E, go_M D, go_M W, go_N T, go_S U C) v := by
  unfold wpX_isAlive
  rcases hv with hv | ⟨j, hj, e, ha⟩
  · exact go_ndX0 nn ac pc tm md lo al A La P Lp E D W T U C hv _ (br_t rfl hp)
  · rw [e]
    exact go_ndX nn ac pc tm md lo al A La P Lp E D W T U C hn hj _ (br_f (by decide) ⟨vp_in_nI (by omega) (by omega), br_t (go_bz al j ha) hp⟩)
theorem go_crash {x : Nat} (hn : 2 ≤ nn ∧ nn ≤ 16) (hac : 2 ≤ ac ∧ ac ≤ 4) (hpc : 1 ≤ pc ∧ pc ≤ 8) (Z : go_Z ac pc A La P Lp E T U C) (hl : lo + 20 < 2 ^ 31) (hx : x < nn) (hal : al x = true) : ∃ (A' La' P' Lp' : Nat → Nat) (E' D' W' : Nat → Bool) (T' : Nat → Nat) (U' : Nat → Bool) (C' : Nat → Nat) (lo' : Nat), go_Z ac pc A' La' P' Lp' E' T' U' C' ∧ lo' ≤ lo + 20 ∧ (∀ post : Int32 → SX → Prop, post 1 (nI nn, nI ac, nI pc, nI tm, nI md, nI lo', go_B (go_up al x false), go_N A', go_N La', go_N P', go_N Lp', go_M E', go_M D', go_M W', go_N T', go_S U' C') → wpX_crash post (nI nn, nI ac, nI pc, nI tm, nI md, nI lo, go_B al, go_N A, go_N La, go_N P, go_N Lp, go_M E, go_M D, go_M W, go_N T, go_S U C) (nI x)) ∧ (∀ post : Int32 → SY → Prop, post 1 (nI nn, nI ac, nI pc, nI tm, nI lo', nI md, go_B (go_up al x false), go_N A', go_N La', go_N P', go_N Lp', go_B E', go_B D', go_B W', go_N T', go_B U', go_N C') → wpY_crash post (nI nn, nI ac, nI pc, nI tm, nI lo, nI md, go_B al, go_N A, go_N La, go_N P, go_N Lp, go_B E, go_B D, go_B W, go_N T, go_B U, go_N C) (nI x)) := by
  obtain ⟨IA, JE, I, hT, S⟩ := Z
  have hx16 : x < 16 := by omega
  have hT' : ∀ j, go_ov T 0 x (nI 65535) 16 j ≤ 8 := by
    intro j
    unfold go_ov
    split
    · omega
    · exact hT j
  have hv : vp_in (nI x) 16 := vp_in_nI hx16 (by omega)
  obtain ⟨A', La', P', Lp', E', U', C', lo', Z', hl', hX, hY⟩ := go_crl nn ac pc tm md (go_up al x false) D (go_oW W x (nI 65535) 16) (go_ov T 0 x (nI 65535) 16) (x := x) hn.2 hac hpc hT' hx16 nn 0 lo A (go_up La x 0) P (go_up Lp x 0) (go_z E false (x * 16) (x * 16 + 16)) (go_rU U C x 64) C (by omega) ⟨go_cl4 IA x, go_Erow JE x, go_cl8 I x, hT', go_rUS S x 64⟩ (by omega)
  refine ⟨A', La', P', Lp', E', D, go_oW W x (nI 65535) 16, go_ov T 0 x (nI 65535) 16, U', C', lo', Z', by omega, fun post hp => ?_, fun post hp => ?_⟩
  · unfold wpX_crash
    refine go_alX nn ac pc tm md lo al A La P Lp E D W T U C hn.2 hx hal _ (br_f (by decide) ⟨hv, nm_r (go_uB al x false go_vf) (go_fpX nn ac pc tm md lo (go_up al x false) A La P Lp E D W T U C hx16 _ ⟨65, ?_⟩)⟩)
    have w : ∀ Q : SX → Prop, Q (nI nn, nI ac, nI pc, nI tm, nI md, nI lo, go_B (go_up al x false), go_N A, go_N (go_up La x 0), go_N P, go_N (go_up Lp x 0), go_M (go_z E false (x * 16) (x * 16 + 16)), go_M D, go_M (go_oW W x (nI 65535) 16), go_N (go_ov T 0 x (nI 65535) 16), go_S (go_rU U C x 64) C) → wX_removeMessagesOf_2 Q (nI x) (nI nn) (nI ac) (nI pc) (nI tm) (nI md) (nI lo) 65 (nI 0) (go_B (go_up al x false)) (go_N A) (go_N (go_up La x 0)) (go_N P) (go_N (go_up Lp x 0)) (go_M (go_z E false (x * 16) (x * 16 + 16))) (go_M D) (go_M (go_oW W x (nI 65535) 16)) (go_N (go_ov T 0 x (nI 65535) 16)) (go_S U C) := by
      intro Q hQ
      have w := go_rmX nn ac pc tm md lo (go_up al x false) A (go_up La x 0) P (go_up Lp x 0) (go_z E false (x * 16) (x * 16 + 16)) D (go_oW W x (nI 65535) 16) (go_ov T 0 x (nI 65535) 16) U C S hx16 Q hQ 65 0 (by omega) (by omega)
      rw [go_rU0] at w
      exact w
    exact w _ ⟨_, hX post hp⟩
  · unfold wpY_crash
    refine go_ndY nn ac pc tm md lo al A La P Lp E D W T U C hn.2 hx _ (br_f (by decide) ⟨hv, br_f (go_bn al x hal) ⟨hv, nm_r (go_uB al x false go_vf) ⟨hv, nm_r (go_uN La x 0 rfl) ⟨hv, nm_r (go_uN Lp x 0 rfl) ⟨17, ?_⟩⟩⟩⟩⟩)
    have w2 := go_rmY nn ac pc tm md lo (go_up al x false) A (go_up La x 0) P (go_up Lp x 0) (go_z E false (x * 16) (x * 16 + 16)) D (go_oW W x (nI 65535) 16) (go_ov T 0 x (nI 65535) 16) U C S hx16 post ⟨_, hY post hp⟩ 65 0 (by omega) (by omega)
    rw [go_rU0] at w2
    have w := go_cl42 nn ac pc tm md lo (go_up al x false) A (go_up La x 0) P (go_up Lp x 0) E D W T U C hx16 post ⟨_, w2⟩ 17 0 (by omega) (by omega)
    rw [show x * 16 + 0 = x * 16 from rfl, go_z0, go_ov0, go_oW0] at w
    exact w
end
end
section
theorem go_low {m : Int32} {i0 : Nat} (h0 : i0 < 16) (hz : ∀ j, j < i0 → (m &&& ((1 : Int32) <<< (nI j &&& 31))) = 0) (hn : ¬ (m &&& ((1 : Int32) <<< (nI i0 &&& 31))) = 0) (post : Int32 → Prop) (hp : post (nI i0)) : ∀ n i, i ≤ i0 → i0 - i < n → wX_lowestNode_2 post m n (nI i) := by
  intro n
  induction n with
  | zero => intro i _ hn; exact absurd hn (by omega)
  | succ n ih =>
    intro i hi hn'
    refine pk_le 16 i (fun h => absurd h (by omega)) (fun h => ?_)
    by_cases e : i = i0
    · rw [e]; exact br_f hn hp
    · exact br_t (hz i (by omega)) (nm_r (nI_1 i) (ih (i + 1) (by omega) (by omega)))
section
variable (nn ac pc tm md lo : Nat) (al : Nat → Bool) (A La P Lp : Nat → Nat) (E D W : Nat → Bool) (T : Nat → Nat) (U : Nat → Bool) (C : Nat → Nat)
theorem go_108a {x b : Nat} (hx : x < 16) (hb : b < 16) (h : ∀ p, p < 16 → W ((x * 16 + b) * 16 + p) = false) (post : Int32 → SY → Prop) (hp : post 1 (nI nn, nI ac, nI pc, nI tm, nI lo, nI md, go_B al, go_N A, go_N La, go_N P, go_N Lp, go_B E, go_B D, go_B W, go_N T, go_B U, go_N C)) : ∀ n i, i ≤ 16 → 16 - i < n → wY_graftOne_108 post (nI x) (nI b) (nI nn) (nI ac) (nI pc) (nI tm) (nI lo) (nI md) (go_B al) (go_N A) (go_N La) (go_N P) (go_N Lp) (go_B E) (go_B D) (go_B W) (go_N T) (go_B U) (go_N C) n 0 (nI i) := by
  intro n
  induction n with
  | zero => intro i _ hn; exact absurd hn (by omega)
  | succ n ih =>
    intro i hi hn
    exact pk_le 16 i (fun _ => br_t rfl hp) (fun h2 => ⟨pk_in ((x * 16 + b) * 16 + i) 4096 (by omega) (go_ix256 x b i), br_t (go_bz W _ (h i h2) (go_ix256 x b i)) (nm_r (nI_1 i) (ih (i + 1) (by omega) (by omega)))⟩)
theorem go_108b {x b : Nat} (hx : x < 16) (hb : b < 16) (post : Int32 → SY → Prop) (hp : post 1 (nI nn, nI ac, nI pc, nI tm, nI lo, nI md, go_B al, go_N A, go_N La, go_N P, go_N Lp, go_B E, go_B D, go_B W, go_N (go_up T (x * 16 + b) tm), go_B U, go_N C)) : ∀ n i, i ≤ 16 → 16 - i < n → wY_graftOne_108 post (nI x) (nI b) (nI nn) (nI ac) (nI pc) (nI tm) (nI lo) (nI md) (go_B al) (go_N A) (go_N La) (go_N P) (go_N Lp) (go_B E) (go_B D) (go_B W) (go_N T) (go_B U) (go_N C) n 1 (nI i) := by
  intro n
  induction n with
  | zero => intro i _ hn; exact absurd hn (by omega)
  | succ n ih =>
    intro i hi hn
    exact pk_le 16 i (fun _ => br_f (by decide) ⟨pk_in (x * 16 + b) 256 (by omega) (go_ix16 x b), nm_r (go_uN T (x * 16 + b) tm rfl (go_ix16 x b)) hp⟩) (fun h2 => ⟨pk_in ((x * 16 + b) * 16 + i) 4096 (by omega) (go_ix256 x b i), br_c (fun _ => nm_r (nI_1 i) (ih (i + 1) (by omega) (by omega))) (fun _ => nm_r (nI_1 i) (ih (i + 1) (by omega) (by omega)))⟩)
theorem go_108c {x b j0 : Nat} (hx : x < 16) (hb : b < 16) (h0 : j0 < 16) (hj : W ((x * 16 + b) * 16 + j0) = true) (post : Int32 → SY → Prop) (hp : post 1 (nI nn, nI ac, nI pc, nI tm, nI lo, nI md, go_B al, go_N A, go_N La, go_N P, go_N Lp, go_B E, go_B D, go_B W, go_N (go_up T (x * 16 + b) tm), go_B U, go_N C)) : ∀ n i, i ≤ j0 → 16 - i < n → wY_graftOne_108 post (nI x) (nI b) (nI nn) (nI ac) (nI pc) (nI tm) (nI lo) (nI md) (go_B al) (go_N A) (go_N La) (go_N P) (go_N Lp) (go_B E) (go_B D) (go_B W) (go_N T) (go_B U) (go_N C) n 0 (nI i) := by
  intro n
  induction n with
  | zero => intro i _ hn; exact absurd hn (by omega)
  | succ n ih =>
    intro i hi hn
    refine pk_le 16 i (fun h2 => absurd h2 (by omega)) (fun h2 => ⟨pk_in ((x * 16 + b) * 16 + i) 4096 (by omega) (go_ix256 x b i), go_brB W ((x * 16 + b) * 16 + i) (fun z => nm_r (nI_1 i) ?_) (fun z => nm_r (nI_1 i) (go_108b nn ac pc tm md lo al A La P Lp E D W T U C hx hb post hp n (i + 1) (by omega) (by omega))) (go_ix256 x b i)⟩)
    have e : i ≠ j0 := fun q => by rw [q, hj] at z; exact absurd z (by decide)
    exact ih (i + 1) (by omega) (by omega)
theorem go_g5 {x b i0 : Nat} (hx : x < 16) (hb : b < 16) (h0 : i0 < 16) (hW : W ((x * 16 + b) * 16 + i0) = true) (hWb : ∀ j, j < i0 → W ((x * 16 + b) * 16 + j) = false) (post : Int32 → SY → Prop) (hp : wY_graftOne_46 post (nI x) (nI b) (nI i0) (nI nn) (nI ac) (nI pc) (nI tm) (nI lo) (nI md) (go_B al) (go_N A) (go_N La) (go_N P) (go_N Lp) (go_B E) (go_B D) (go_B W) (go_N T) (go_B U) (go_N C)) : ∀ n i, i ≤ i0 → i0 + 1 - i < n → wY_graftOne_5 post (nI x) (nI b) (nI nn) (nI ac) (nI pc) (nI tm) (nI lo) (nI md) (go_B al) (go_N A) (go_N La) (go_N P) (go_N Lp) (go_B E) (go_B D) (go_B W) (go_N T) (go_B U) (go_N C) n (-1) (nI i) := by
  intro n
  induction n with
  | zero => intro i _ hn; exact absurd hn (by omega)
  | succ n ih =>
    intro i hi hn
    refine pk_le 16 i (fun h2 => absurd h2 (by omega)) (fun h2 => br_f (by decide) ⟨pk_in ((x * 16 + b) * 16 + i) 4096 (by omega) (go_ix256 x b i), go_brB W ((x * 16 + b) * 16 + i) (fun z => nm_r (nI_1 i) ?_) (fun z => nm_r (nI_1 i) ?_) (go_ix256 x b i)⟩)
    · have e : i ≠ i0 := fun q => by rw [q, hW] at z; exact absurd z (by decide)
      exact ih (i + 1) (by omega) (by omega)
    · have e : i = i0 := by
        rcases Nat.lt_or_ge i i0 with q | q
        · rw [hWb i q] at z; exact absurd z (by decide)
        · omega
      rw [e]
      obtain ⟨n', rfl⟩ : ∃ n', n = n' + 1 := ⟨n - 1, by omega⟩
      exact br_c (fun _ => hp) (fun _ => br_t (nI_pos' (by omega)) hp)
theorem go_g5n {x b : Nat} (hx : x < 16) (hb : b < 16) (h : ∀ p, p < 16 → W ((x * 16 + b) * 16 + p) = false) (post : Int32 → SY → Prop) (hp : wY_graftOne_46 post (nI x) (nI b) (-1) (nI nn) (nI ac) (nI pc) (nI tm) (nI lo) (nI md) (go_B al) (go_N A) (go_N La) (go_N P) (go_N Lp) (go_B E) (go_B D) (go_B W) (go_N T) (go_B U) (go_N C)) : ∀ n i, i ≤ 16 → 16 - i < n → wY_graftOne_5 post (nI x) (nI b) (nI nn) (nI ac) (nI pc) (nI tm) (nI lo) (nI md) (go_B al) (go_N A) (go_N La) (go_N P) (go_N Lp) (go_B E) (go_B D) (go_B W) (go_N T) (go_B U) (go_N C) n (-1) (nI i) := by
  intro n
  induction n with
  | zero => intro i _ hn; exact absurd hn (by omega)
  | succ n ih =>
    intro i hi hn
    exact pk_le 16 i (fun _ => hp) (fun h2 => br_f (by decide) ⟨pk_in ((x * 16 + b) * 16 + i) 4096 (by omega) (go_ix256 x b i), br_t (go_bz W _ (h i h2) (go_ix256 x b i)) (nm_r (nI_1 i) (ih (i + 1) (by omega) (by omega)))⟩)
theorem go_graft {x b i0 : Nat} (hac : 2 ≤ ac ∧ ac ≤ 4) (htm : 1 ≤ tm ∧ tm ≤ 8) (IA : go_IV4 ac A La) (JE : go_IE A La E) (hT : ∀ j, T j ≤ 8) (S : go_IS U C) (hl : lo + 1 < 2 ^ 31) (hx : x < 16) (hb : b < 16) (h0 : i0 < 16) (hW : W ((x * 16 + b) * 16 + i0) = true) (hWb : ∀ j, j < i0 → W ((x * 16 + b) * 16 + j) = false) : ∃ (E' W' : Nat → Bool) (T' : Nat → Nat) (U' : Nat → Bool) (C' : Nat → Nat) (lo' : Nat), go_IE A La E' ∧ (∀ j, T' j ≤ 8) ∧ go_IS U' C' ∧ lo' ≤ lo + 1 ∧ (∀ post : SX → Prop, post (nI nn, nI ac, nI pc, nI tm, nI md, nI lo', go_B al, go_N A, go_N La, go_N P, go_N Lp, go_M E', go_M D, go_M W', go_N T', go_S U' C') → wpX_graftNextAnnouncer post (nI nn, nI ac, nI pc, nI tm, nI md, nI lo, go_B al, go_N A, go_N La, go_N P, go_N Lp, go_M E, go_M D, go_M W, go_N T, go_S U C) (nI x) (nI b)) ∧ (∀ post : Int32 → SY → Prop, post 1 (nI nn, nI ac, nI pc, nI tm, nI lo', nI md, go_B al, go_N A, go_N La, go_N P, go_N Lp, go_B E', go_B D, go_B W', go_N T', go_B U', go_N C') → wpY_graftOne post (nI nn, nI ac, nI pc, nI tm, nI lo, nI md, go_B al, go_N A, go_N La, go_N P, go_N Lp, go_B E, go_B D, go_B W, go_N T, go_B U, go_N C) (nI x) (nI b)) := by
  have hla := IA.2.1 x
  have hv : vp_in (nI (x * 16 + b)) 256 := vp_in_nI (by omega) (by omega)
  obtain ⟨a, ha0, ha, ea⟩ := go_1n b hb
  have key : ∀ E' : Nat → Bool, go_IE A La E' → (∀ Q : SX → Prop, Q (nI nn, nI ac, nI pc, nI tm, nI md, nI lo, go_B al, go_N A, go_N La, go_N P, go_N Lp, go_M E', go_M D, go_M (go_up W ((x * 16 + b) * 16 + i0) false), go_N T, go_S U C) → wpX_makeEager Q (nI nn, nI ac, nI pc, nI tm, nI md, nI lo, go_B al, go_N A, go_N La, go_N P, go_N Lp, go_M E, go_M D, go_M (go_up W ((x * 16 + b) * 16 + i0) false), go_N T, go_S U C) (nI x) (nI i0)) → (∀ post : Int32 → SY → Prop, wY_graftOne_91 post (nI x) (nI b) (nI i0) (nI nn) (nI ac) (nI pc) (nI tm) (nI lo) (nI md) (go_B al) (go_N A) (go_N La) (go_N P) (go_N Lp) (go_B E') (go_B D) (go_B (go_up W ((x * 16 + b) * 16 + i0) false)) (go_N T) (go_B U) (go_N C) → wY_graftOne_46 post (nI x) (nI b) (nI i0) (nI nn) (nI ac) (nI pc) (nI tm) (nI lo) (nI md) (go_B al) (go_N A) (go_N La) (go_N P) (go_N Lp) (go_B E) (go_B D) (go_B W) (go_N T) (go_B U) (go_N C)) → ∃ (E' W' : Nat → Bool) (T' : Nat → Nat) (U' : Nat → Bool) (C' : Nat → Nat) (lo' : Nat), go_IE A La E' ∧ (∀ j, T' j ≤ 8) ∧ go_IS U' C' ∧ lo' ≤ lo + 1 ∧ (∀ post : SX → Prop, post (nI nn, nI ac, nI pc, nI tm, nI md, nI lo', go_B al, go_N A, go_N La, go_N P, go_N Lp, go_M E', go_M D, go_M W', go_N T', go_S U' C') → wpX_graftNextAnnouncer post (nI nn, nI ac, nI pc, nI tm, nI md, nI lo, go_B al, go_N A, go_N La, go_N P, go_N Lp, go_M E, go_M D, go_M W, go_N T, go_S U C) (nI x) (nI b)) ∧ (∀ post : Int32 → SY → Prop, post 1 (nI nn, nI ac, nI pc, nI tm, nI lo', nI md, go_B al, go_N A, go_N La, go_N P, go_N Lp, go_B E', go_B D, go_B W', go_N T', go_B U', go_N C') → wpY_graftOne post (nI nn, nI ac, nI pc, nI tm, nI lo, nI md, go_B al, go_N A, go_N La, go_N P, go_N Lp, go_B E, go_B D, go_B W, go_N T, go_B U, go_N C) (nI x) (nI b)) := by
    intro E' JE' hM hN
    obtain ⟨U1, C1, lo1, S1, hl1, hX1, hY1⟩ := go_send nn ac pc tm md lo al A La P Lp E' D (go_up W ((x * 16 + b) * 16 + i0) false) T U C (k := 11) S hl hx h0 (by omega) (by omega) ha
    rw [← ea] at hX1 hY1
    have rW := go_rM (e := nI (x * 16 + b)) (go_up W ((x * 16 + b) * 16 + i0) false) (x * 16 + b) rfl (by omega)
    rcases go_first (fun p => go_up W ((x * 16 + b) * 16 + i0) false ((x * 16 + b) * 16 + p) = true) 16 with hf | ⟨j0, hj0, hjt, _⟩
    · have hf' : ∀ p, p < 16 → go_up W ((x * 16 + b) * 16 + i0) false ((x * 16 + b) * 16 + p) = false := fun p hp => by have := hf p hp; simpa using this
      have z : go_M (go_up W ((x * 16 + b) * 16 + i0) false) (nI (x * 16 + b)).toNatClampNeg = 0 := by rw [rW]; exact (go_M0 _ _).mpr hf'
      refine ⟨E', go_up W ((x * 16 + b) * 16 + i0) false, T, U1, C1, lo1, JE', hT, S1, hl1, fun post hp => nm_r (go_ix16 x b) ⟨hv, ⟨17, go_low h0 (fun j hj => go_mz W (x * 16 + b) j (by omega) (hWb j hj)) (go_mn W (x * 16 + b) i0 h0 hW) _ ⟨hv, hv, nm_r (go_uMc W (x * 16 + b) i0 h0) (hM _ (hX1 _ ⟨hv, br_t z hp⟩))⟩ 17 0 (by omega) (by omega)⟩⟩, fun post hp => ⟨18, go_g5 nn ac pc tm md lo al A La P Lp E D W T U C hx hb h0 hW hWb post (hN post ?_) 18 0 (by omega) (by omega)⟩⟩
      unfold wY_graftOne_91
      exact hY1 _ ⟨17, go_108a nn ac pc tm md lo1 al A La P Lp E' D (go_up W ((x * 16 + b) * 16 + i0) false) T U1 C1 hx hb hf' post hp 17 0 (by omega) (by omega)⟩
    · have z : ¬ go_M (go_up W ((x * 16 + b) * 16 + i0) false) (nI (x * 16 + b)).toNatClampNeg = 0 := by
        rw [rW, go_M0]
        intro q
        rw [q j0 hj0] at hjt
        exact absurd hjt (by decide)
      have hT2 : ∀ j, go_up T (x * 16 + b) tm j ≤ 8 := by
        intro j
        by_cases e : j = x * 16 + b
        · rw [e, go_us]; omega
        · rw [go_un e]; exact hT j
      refine ⟨E', go_up W ((x * 16 + b) * 16 + i0) false, go_up T (x * 16 + b) tm, U1, C1, lo1, JE', hT2, S1, hl1, fun post hp => nm_r (go_ix16 x b) ⟨hv, ⟨17, go_low h0 (fun j hj => go_mz W (x * 16 + b) j (by omega) (hWb j hj)) (go_mn W (x * 16 + b) i0 h0 hW) _ ⟨hv, hv, nm_r (go_uMc W (x * 16 + b) i0 h0) (hM _ (hX1 _ ⟨hv, br_f z ⟨hv, nm_r (go_uN T (x * 16 + b) tm rfl) hp⟩⟩))⟩ 17 0 (by omega) (by omega)⟩⟩, fun post hp => ⟨18, go_g5 nn ac pc tm md lo al A La P Lp E D W T U C hx hb h0 hW hWb post (hN post ?_) 18 0 (by omega) (by omega)⟩⟩
      unfold wY_graftOne_91
      exact hY1 _ ⟨17, go_108c nn ac pc tm md lo1 al A La P Lp E' D (go_up W ((x * 16 + b) * 16 + i0) false) T U1 C1 hx hb hj0 hjt post hp 17 0 (by omega) (by omega)⟩
  rcases go_first (fun i => A (x * 4 + i) = i0) (La x) with hA | ⟨i, hi, hAi, hAb⟩
  · exact key E JE (fun Q hQ => go_me0 nn ac pc tm md lo al A La P Lp E D (go_up W ((x * 16 + b) * 16 + i0) false) T U C IA.1 (by omega) hx h0 hA Q hQ) (fun post hp => br_t (nI_pos' (by omega)) ⟨pk_in ((x * 16 + b) * 16 + i0) 4096 (by omega) (go_ix256 x b i0), nm_r (go_uB W _ false go_vf (go_ix256 x b i0)) (go_ps4 nn ac pc tm md lo al A La P Lp E D (go_up W ((x * 16 + b) * 16 + i0) false) T U C IA.1 (by omega) hx h0 hA _ (br_t (by decide) hp))⟩)
  · exact key (go_up E (x * 16 + i0) true) (go_Eset JE h0 hi hAi) (fun Q hQ => go_me1 nn ac pc tm md lo al A La P Lp E D (go_up W ((x * 16 + b) * 16 + i0) false) T U C IA.1 (by omega) hx h0 hi hAi Q hQ) (fun post hp => br_t (nI_pos' (by omega)) ⟨pk_in ((x * 16 + b) * 16 + i0) 4096 (by omega) (go_ix256 x b i0), nm_r (go_uB W _ false go_vf (go_ix256 x b i0)) (go_psy4 nn ac pc tm md lo al A La P Lp E D (go_up W ((x * 16 + b) * 16 + i0) false) T U C IA.1 (by omega) hx h0 hi hAi hAb _ (br_f (nI_pos (by omega)) ⟨pk_in (x * 16 + i0) 256 (by omega) (go_ix16 x i0), nm_r (go_uB E (x * 16 + i0) true go_vt (go_ix16 x i0)) hp⟩))⟩)
theorem go_cd0 {x b : Nat} (hx : x < 16) (hb : b < 16) (h : T (x * 16 + b) = 0) (post : Int32 → SX → Prop) (hp : post 0 (nI nn, nI ac, nI pc, nI tm, nI md, nI lo, go_B al, go_N A, go_N La, go_N P, go_N Lp, go_M E, go_M D, go_M W, go_N T, go_S U C)) : wpX_countDownEnds post (nI nn, nI ac, nI pc, nI tm, nI md, nI lo, go_B al, go_N A, go_N La, go_N P, go_N Lp, go_M E, go_M D, go_M W, go_N T, go_S U C) (nI x) (nI b) := nm_r (go_ix16 x b) ⟨vp_in_nI (by omega) (by omega), br_t (by rw [go_rN T (x * 16 + b) rfl (by omega), h]; exact nI_0) hp⟩
theorem go_cd1 {x b : Nat} (hT : ∀ j, T j ≤ 8) (hx : x < 16) (hb : b < 16) (h : 1 < T (x * 16 + b)) (post : Int32 → SX → Prop) (hp : post 0 (nI nn, nI ac, nI pc, nI tm, nI md, nI lo, go_B al, go_N A, go_N La, go_N P, go_N Lp, go_M E, go_M D, go_M W, go_N (go_up T (x * 16 + b) (T (x * 16 + b) - 1)), go_S U C)) : wpX_countDownEnds post (nI nn, nI ac, nI pc, nI tm, nI md, nI lo, go_B al, go_N A, go_N La, go_N P, go_N Lp, go_M E, go_M D, go_M W, go_N T, go_S U C) (nI x) (nI b) := by
  have hv : vp_in (nI (x * 16 + b)) 256 := vp_in_nI (by omega) (by omega)
  have r := go_rN (e := nI (x * 16 + b)) T (x * 16 + b) rfl (by omega)
  have h8 := hT (x * 16 + b)
  have s : go_N T (nI (x * 16 + b)).toNatClampNeg - 1 = nI (T (x * 16 + b) - 1) := by rw [r]; exact pk_sub (b := 1) (by omega)
  have r2 : go_N (go_up T (x * 16 + b) (T (x * 16 + b) - 1)) (nI (x * 16 + b)).toNatClampNeg = nI (T (x * 16 + b) - 1) := by rw [go_rN _ (x * 16 + b) rfl (by omega), go_us]
  exact nm_r (go_ix16 x b) ⟨hv, br_f (by rw [r]; exact nI_ne0 (by omega) (by omega)) ⟨hv, hv, nm_r (go_uN T (x * 16 + b) (T (x * 16 + b) - 1) s) ⟨hv, br_f (by rw [r2]; exact nI_ne0 (by omega) (by omega)) hp⟩⟩⟩
theorem go_cd2 {x b : Nat} (hx : x < 16) (hb : b < 16) (h : T (x * 16 + b) = 1) (hW : go_M W (x * 16 + b) = 0) (post : Int32 → SX → Prop) (hp : post 0 (nI nn, nI ac, nI pc, nI tm, nI md, nI lo, go_B al, go_N A, go_N La, go_N P, go_N Lp, go_M E, go_M D, go_M W, go_N (go_up T (x * 16 + b) 0), go_S U C)) : wpX_countDownEnds post (nI nn, nI ac, nI pc, nI tm, nI md, nI lo, go_B al, go_N A, go_N La, go_N P, go_N Lp, go_M E, go_M D, go_M W, go_N T, go_S U C) (nI x) (nI b) := by
  have hv : vp_in (nI (x * 16 + b)) 256 := vp_in_nI (by omega) (by omega)
  have r := go_rN (e := nI (x * 16 + b)) T (x * 16 + b) rfl (by omega)
  have s : go_N T (nI (x * 16 + b)).toNatClampNeg - 1 = nI 0 := by rw [r, h]; decide
  have r2 : go_N (go_up T (x * 16 + b) 0) (nI (x * 16 + b)).toNatClampNeg = 0 := by rw [go_rN _ (x * 16 + b) rfl (by omega), go_us]; exact nI_0
  exact nm_r (go_ix16 x b) ⟨hv, br_f (by rw [r, h]; decide) ⟨hv, hv, nm_r (go_uN T (x * 16 + b) 0 s) ⟨hv, br_t r2 ⟨hv, br_t (by rw [go_rM W (x * 16 + b)]; exact hW) hp⟩⟩⟩⟩
theorem go_cd3 {x b : Nat} (hx : x < 16) (hb : b < 16) (h : T (x * 16 + b) = 1) (hW : ¬ go_M W (x * 16 + b) = 0) (post : Int32 → SX → Prop) (hp : post 1 (nI nn, nI ac, nI pc, nI tm, nI md, nI lo, go_B al, go_N A, go_N La, go_N P, go_N Lp, go_M E, go_M D, go_M W, go_N (go_up T (x * 16 + b) 0), go_S U C)) : wpX_countDownEnds post (nI nn, nI ac, nI pc, nI tm, nI md, nI lo, go_B al, go_N A, go_N La, go_N P, go_N Lp, go_M E, go_M D, go_M W, go_N T, go_S U C) (nI x) (nI b) := by
  have hv : vp_in (nI (x * 16 + b)) 256 := vp_in_nI (by omega) (by omega)
  have r := go_rN (e := nI (x * 16 + b)) T (x * 16 + b) rfl (by omega)
  have s : go_N T (nI (x * 16 + b)).toNatClampNeg - 1 = nI 0 := by rw [r, h]; decide
  have r2 : go_N (go_up T (x * 16 + b) 0) (nI (x * 16 + b)).toNatClampNeg = 0 := by rw [go_rN _ (x * 16 + b) rfl (by omega), go_us]; exact nI_0
  exact nm_r (go_ix16 x b) ⟨hv, br_f (by rw [r, h]; decide) ⟨hv, hv, nm_r (go_uN T (x * 16 + b) 0 s) ⟨hv, br_t r2 ⟨hv, br_f (by rw [go_rM W (x * 16 + b)]; exact hW) hp⟩⟩⟩⟩
theorem go_tkD {x cnt : Nat} (hx : x < 16) (hal : al x = false) (post : Int32 → SX → Prop) (J : Int32 → Int32 → Int32 → Int32 → Int32 → Int32 → Int32 → Int32 → (Nat → Int32) → (Nat → Int32) → (Nat → Int32) → (Nat → Int32) → (Nat → Int32) → (Nat → Int32) → (Nat → Int32) → (Nat → Int32) → (Nat → Int32) → (Nat → Int32) → Prop) (hJ : J (nI cnt) (nI (x + 1)) (nI nn) (nI ac) (nI pc) (nI tm) (nI md) (nI lo) (go_B al) (go_N A) (go_N La) (go_N P) (go_N Lp) (go_M E) (go_M D) (go_M W) (go_N T) (go_S U C)) : ∀ n b, b ≤ 16 → 16 - b < n → wX_tick_14 post J (nI x) n (nI cnt) (nI b) (nI nn) (nI ac) (nI pc) (nI tm) (nI md) (nI lo) (go_B al) (go_N A) (go_N La) (go_N P) (go_N Lp) (go_M E) (go_M D) (go_M W) (go_N T) (go_S U C) := by
  intro n
  induction n with
  | zero => intro i _ hn; exact absurd hn (by omega)
  | succ n ih =>
    intro b hb hn
    exact pk_le 16 b (fun _ => nm_r (nI_1 x) hJ) (fun h2 => ⟨vp_in_nI hx (by omega), br_t (go_bz al x hal) (nm_r (nI_1 b) (ih (b + 1) (by omega) (by omega)))⟩)
end
section
variable (nn ac pc tm md : Nat) (al : Nat → Bool) (A La P Lp : Nat → Nat) (D : Nat → Bool)
theorem go_tkl {x : Nat} (hac : 2 ≤ ac ∧ ac ≤ 4) (htm : 1 ≤ tm ∧ tm ≤ 8) (IA : go_IV4 ac A La) (hx : x < 16) (hal : al x = true) : ∀ d b (cnt lo : Nat) (E W : Nat → Bool) (T : Nat → Nat) (U : Nat → Bool) (C : Nat → Nat), b + d = 16 → go_IE A La E → (∀ j, T j ≤ 8) → go_IS U C → lo + d < 2 ^ 31 → ∃ (cnt' lo' : Nat) (E' W' : Nat → Bool) (T' : Nat → Nat) (U' : Nat → Bool) (C' : Nat → Nat), go_IE A La E' ∧ (∀ j, T' j ≤ 8) ∧ go_IS U' C' ∧ lo' ≤ lo + d ∧ (∀ (post : Int32 → SX → Prop) (J : Int32 → Int32 → Int32 → Int32 → Int32 → Int32 → Int32 → Int32 → (Nat → Int32) → (Nat → Int32) → (Nat → Int32) → (Nat → Int32) → (Nat → Int32) → (Nat → Int32) → (Nat → Int32) → (Nat → Int32) → (Nat → Int32) → (Nat → Int32) → Prop), J (nI cnt') (nI (x + 1)) (nI nn) (nI ac) (nI pc) (nI tm) (nI md) (nI lo') (go_B al) (go_N A) (go_N La) (go_N P) (go_N Lp) (go_M E') (go_M D) (go_M W') (go_N T') (go_S U' C') → wX_tick_14 post J (nI x) (d + 1) (nI cnt) (nI b) (nI nn) (nI ac) (nI pc) (nI tm) (nI md) (nI lo) (go_B al) (go_N A) (go_N La) (go_N P) (go_N Lp) (go_M E) (go_M D) (go_M W) (go_N T) (go_S U C)) ∧ (∀ (post : Int32 → SY → Prop) (J : Int32 → Int32 → Int32 → Int32 → Int32 → Int32 → Int32 → Int32 → (Nat → Int32) → (Nat → Int32) → (Nat → Int32) → (Nat → Int32) → (Nat → Int32) → (Nat → Int32) → (Nat → Int32) → (Nat → Int32) → (Nat → Int32) → (Nat → Int32) → (Nat → Int32) → Prop), J (nI cnt') (nI (x + 1)) (nI nn) (nI ac) (nI pc) (nI tm) (nI lo') (nI md) (go_B al) (go_N A) (go_N La) (go_N P) (go_N Lp) (go_B E') (go_B D) (go_B W') (go_N T') (go_B U') (go_N C') → wY_tick_26 post J (nI x) (d + 1) (nI cnt) (nI b) (nI nn) (nI ac) (nI pc) (nI tm) (nI lo) (nI md) (go_B al) (go_N A) (go_N La) (go_N P) (go_N Lp) (go_B E) (go_B D) (go_B W) (go_N T) (go_B U) (go_N C)) := by
  intro d
  induction d with
  | zero =>
    intro b cnt lo E W T U C hb JE hT S hl
    exact ⟨cnt, lo, E, W, T, U, C, JE, hT, S, by omega, fun post J hJ => br_t (nI_le (a := 16) (by omega) (by omega)) (nm_r (nI_1 x) hJ), fun post J hJ => br_t (nI_le (a := 16) (by omega) (by omega)) (nm_r (nI_1 x) hJ)⟩
  | succ d ih =>
    intro b cnt lo E W T U C hb JE hT S hl
    have hb16 : b < 16 := by omega
    have hne : ¬ (16 : Int32) ≤ nI b := nI_ge (b := 16) hb16 (by omega)
    have hv : vp_in (nI x) 16 := vp_in_nI hx (by omega)
    have ix := go_ix16 x b
    have hvc : vp_in (nI x * 16 + nI b) 256 := pk_in (x * 16 + b) 256 (by omega) ix
    have rT := go_rN (e := nI x * 16 + nI b) T (x * 16 + b) ix (by omega)
    have h8 := hT (x * 16 + b)
    by_cases t0 : T (x * 16 + b) = 0
    · obtain ⟨cnt', lo', E', W', T', U', C', JE', hT', S', hl', hX, hY⟩ := ih (b + 1) cnt lo E W T U C (by omega) JE hT S (by omega)
      exact ⟨cnt', lo', E', W', T', U', C', JE', hT', S', by omega, fun post J hJ => br_f hne ⟨hv, br_f (go_bn al x hal) (go_cd0 nn ac pc tm md lo al A La P Lp E D W T U C hx hb16 t0 _ (br_t rfl (nm_r (nI_1 b) (hX post J hJ))))⟩, fun post J hJ => br_f hne ⟨hvc, br_t (by rw [rT, t0]; decide) (nm_r (nI_1 b) (hY post J hJ))⟩⟩
    · have s : go_N T (nI x * 16 + nI b).toNatClampNeg - 1 = nI (T (x * 16 + b) - 1) := by rw [rT]; exact pk_sub (b := 1) (by omega)
      have hnl : ¬ go_N T (nI x * 16 + nI b).toNatClampNeg ≤ 0 := by rw [rT]; exact nI_nle (by omega) (by omega)
      have r2 : go_N (go_up T (x * 16 + b) (T (x * 16 + b) - 1)) (nI x * 16 + nI b).toNatClampNeg = nI (T (x * 16 + b) - 1) := by rw [go_rN _ (x * 16 + b) ix (by omega), go_us]
      have hT1 : ∀ j, go_up T (x * 16 + b) (T (x * 16 + b) - 1) j ≤ 8 := by
        intro j
        by_cases e : j = x * 16 + b
        · rw [e, go_us]; omega
        · rw [go_un e]; exact hT j
      have sT := go_uN T (x * 16 + b) (T (x * 16 + b) - 1) s ix
      by_cases t1 : T (x * 16 + b) = 1
      · have e0 : T (x * 16 + b) - 1 = 0 := by omega
        rw [e0] at s r2 hT1 sT
        have r3 : go_N (go_up T (x * 16 + b) 0) (nI x * 16 + nI b).toNatClampNeg = 0 := r2.trans nI_0
        rcases go_first (fun p => W ((x * 16 + b) * 16 + p) = true) 16 with hf | ⟨i0, h0, hW, hWb⟩
        · have hf' : ∀ p, p < 16 → W ((x * 16 + b) * 16 + p) = false := fun p hp => by have := hf p hp; simpa using this
          obtain ⟨cnt', lo', E', W', T', U', C', JE', hT', S', hl', hX, hY⟩ := ih (b + 1) cnt lo E W (go_up T (x * 16 + b) 0) U C (by omega) JE hT1 S (by omega)
          exact ⟨cnt', lo', E', W', T', U', C', JE', hT', S', by omega, fun post J hJ => br_f hne ⟨hv, br_f (go_bn al x hal) (go_cd2 nn ac pc tm md lo al A La P Lp E D W T U C hx hb16 t1 ((go_M0 W _).mpr hf') _ (br_t rfl (nm_r (nI_1 b) (hX post J hJ))))⟩, fun post J hJ => br_f hne ⟨hvc, br_f hnl ⟨hvc, hvc, nm_r sT ⟨hvc, br_t r3 ⟨17, go_g5n nn ac pc tm md lo al A La P Lp E D W (go_up T (x * 16 + b) 0) U C hx hb16 hf' _ (br_f (by decide) (nm_r (Int32.add_zero _) (nm_r (nI_1 b) (hY post J hJ)))) 17 0 (by omega) (by omega)⟩⟩⟩⟩⟩
        · have hWb' : ∀ j, j < i0 → W ((x * 16 + b) * 16 + j) = false := fun j hj => by have := hWb j hj; simpa using this
          have hM : ¬ go_M W (x * 16 + b) = 0 := by
            rw [go_M0]
            intro q
            rw [q i0 h0] at hW
            exact absurd hW (by decide)
          obtain ⟨E1, W1, T1, U1, C1, lo1, JE1, hT1', S1, hl1, hX1, hY1⟩ := go_graft nn ac pc tm md lo al A La P Lp E D W (go_up T (x * 16 + b) 0) U C hac htm IA JE hT1 S (by omega) hx hb16 h0 hW hWb'
          obtain ⟨cnt', lo', E', W', T', U', C', JE', hT', S', hl', hX, hY⟩ := ih (b + 1) (cnt + 1) lo1 E1 W1 T1 U1 C1 (by omega) JE1 hT1' S1 (by omega)
          exact ⟨cnt', lo', E', W', T', U', C', JE', hT', S', by omega, fun post J hJ => br_f hne ⟨hv, br_f (go_bn al x hal) (go_cd3 nn ac pc tm md lo al A La P Lp E D W T U C hx hb16 t1 hM _ (br_f (by decide) (hX1 _ (nm_r (nI_1 cnt) (nm_r (nI_1 b) (hX post J hJ))))))⟩, fun post J hJ => br_f hne ⟨hvc, br_f hnl ⟨hvc, hvc, nm_r sT ⟨hvc, br_t r3 (hY1 _ (nm_r (nI_1 cnt) (nm_r (nI_1 b) (hY post J hJ))))⟩⟩⟩⟩
      · obtain ⟨cnt', lo', E', W', T', U', C', JE', hT', S', hl', hX, hY⟩ := ih (b + 1) cnt lo E W (go_up T (x * 16 + b) (T (x * 16 + b) - 1)) U C (by omega) JE hT1 S (by omega)
        exact ⟨cnt', lo', E', W', T', U', C', JE', hT', S', by omega, fun post J hJ => br_f hne ⟨hv, br_f (go_bn al x hal) (go_cd1 nn ac pc tm md lo al A La P Lp E D W T U C hT hx hb16 (by omega) _ (br_t rfl (nm_r (nI_1 b) (hX post J hJ))))⟩, fun post J hJ => br_f hne ⟨hvc, br_f hnl ⟨hvc, hvc, nm_r sT ⟨hvc, br_f (by rw [r2]; exact nI_ne0 (by omega) (by omega)) (nm_r (nI_1 b) (hY post J hJ))⟩⟩⟩⟩
theorem go_tko (hn : nn ≤ 16) (hac : 2 ≤ ac ∧ ac ≤ 4) (htm : 1 ≤ tm ∧ tm ≤ 8) (IA : go_IV4 ac A La) : ∀ d i (cnt lo : Nat) (E W : Nat → Bool) (T : Nat → Nat) (U : Nat → Bool) (C : Nat → Nat), i + d = nn → go_IE A La E → (∀ j, T j ≤ 8) → go_IS U C → lo + 16 * d < 2 ^ 31 → ∃ (cnt' lo' : Nat) (E' W' : Nat → Bool) (T' : Nat → Nat) (U' : Nat → Bool) (C' : Nat → Nat), go_IE A La E' ∧ (∀ j, T' j ≤ 8) ∧ go_IS U' C' ∧ lo' ≤ lo + 16 * d ∧ (∀ (post : Int32 → SX → Prop), post (nI cnt') (nI nn, nI ac, nI pc, nI tm, nI md, nI lo', go_B al, go_N A, go_N La, go_N P, go_N Lp, go_M E', go_M D, go_M W', go_N T', go_S U' C') → wX_tick_4 post (d + 1) (nI cnt) (nI i) (nI nn) (nI ac) (nI pc) (nI tm) (nI md) (nI lo) (go_B al) (go_N A) (go_N La) (go_N P) (go_N Lp) (go_M E) (go_M D) (go_M W) (go_N T) (go_S U C)) ∧ (∀ (post : Int32 → SY → Prop), post (nI cnt') (nI nn, nI ac, nI pc, nI tm, nI lo', nI md, go_B al, go_N A, go_N La, go_N P, go_N Lp, go_B E', go_B D, go_B W', go_N T', go_B U', go_N C') → wY_tick_4 post (d + 1) (nI cnt) (nI i) (nI nn) (nI ac) (nI pc) (nI tm) (nI lo) (nI md) (go_B al) (go_N A) (go_N La) (go_N P) (go_N Lp) (go_B E) (go_B D) (go_B W) (go_N T) (go_B U) (go_N C)) := by
  intro d
  induction d with
  | zero =>
    intro i cnt lo E W T U C hi JE hT S hl
    exact ⟨cnt, lo, E, W, T, U, C, JE, hT, S, by omega, fun post hp => br_t (nI_le (by omega) (by omega)) hp, fun post hp => br_t (nI_le (by omega) (by omega)) hp⟩
  | succ d ih =>
    intro i cnt lo E W T U C hi JE hT S hl
    have hi16 : i < 16 := by omega
    have hne : ¬ nI nn ≤ nI i := nI_ge (by omega) (by omega)
    have hv : vp_in (nI i) 16 := vp_in_nI hi16 (by omega)
    cases hal : al i with
    | false =>
      obtain ⟨cnt', lo', E', W', T', U', C', JE', hT', S', hl', hX, hY⟩ := ih (i + 1) cnt lo E W T U C (by omega) JE hT S (by omega)
      exact ⟨cnt', lo', E', W', T', U', C', JE', hT', S', by omega, fun post hp => br_f hne ⟨17, go_tkD nn ac pc tm md lo al A La P Lp E D W T U C hi16 hal post _ (hX post hp) 17 0 (by omega) (by omega)⟩, fun post hp => br_f hne ⟨hv, br_t (go_bz al i hal) (nm_r (nI_1 i) (hY post hp))⟩⟩
    | true =>
      obtain ⟨cnt1, lo1, E1, W1, T1, U1, C1, JE1, hT1, S1, hl1, hX1, hY1⟩ := go_tkl nn ac pc tm md al A La P Lp D (x := i) hac htm IA hi16 hal 16 0 cnt lo E W T U C (by omega) JE hT S (by omega)
      obtain ⟨cnt', lo', E', W', T', U', C', JE', hT', S', hl', hX, hY⟩ := ih (i + 1) cnt1 lo1 E1 W1 T1 U1 C1 (by omega) JE1 hT1 S1 (by omega)
      exact ⟨cnt', lo', E', W', T', U', C', JE', hT', S', by omega, fun post hp => br_f hne ⟨_, hX1 post _ (hX post hp)⟩, fun post hp => br_f hne ⟨hv, br_f (go_bn al i hal) ⟨_, hY1 post _ (hY post hp)⟩⟩⟩
end
end
section
section
variable (nn ac pc tm md lo : Nat) (al : Nat → Bool) (A La P Lp : Nat → Nat) (E D W : Nat → Bool) (T : Nat → Nat) (U : Nat → Bool) (C : Nat → Nat)
theorem go_usX {s : Nat} (S : go_IS U C) (hs : s < 64) (hU : U s = true) (post : Int32 → Prop) (hp : post 1) : wpX_isUsed post (nI nn, nI ac, nI pc, nI tm, nI md, nI lo, go_B al, go_N A, go_N La, go_N P, go_N Lp, go_M E, go_M D, go_M W, go_N T, go_S U C) (nI s) := br_f (nI_pos (by omega)) (br_f (nI_ge (b := 64) hs (by omega)) ⟨vp_in_nI hs (by omega), br_f (fun q => by rw [(go_S0 S s).mp q] at hU; exact absurd hU (by decide)) hp⟩)
theorem go_usX0 {v : Int32} (S : go_IS U C) (hv : (v < 0 ∨ nI 64 ≤ v) ∨ ∃ s, s < 64 ∧ v = nI s ∧ U s = false) (post : Int32 → Prop) (hp : post 0) : wpX_isUsed post (nI nn, nI ac, nI pc, nI tm, nI md, nI lo, go_B al, go_N A, go_N La, go_N P, go_N Lp, go_M E, go_M D, go_M W, go_N T, go_S U C) v := by
  rcases hv with hv | ⟨s, hs, e, hU⟩
  · exact br_c (fun _ => hp) (fun q => br_t (hv.resolve_left q) hp)
  · rw [e]
    exact br_f (nI_pos (by omega)) (br_f (nI_ge (b := 64) hs (by omega)) ⟨vp_in_nI hs (by omega), br_t ((go_S0 S s).mpr hU) hp⟩)
theorem go_deliver {s : Nat} (hn : 2 ≤ nn ∧ nn ≤ 16) (hac : 2 ≤ ac ∧ ac ≤ 4) (hpc : 1 ≤ pc ∧ pc ≤ 8) (htm : 1 ≤ tm ∧ tm ≤ 8) (Z : go_Z ac pc A La P Lp E T U C) (hl : lo + 10 < 2 ^ 31) (hs : s < 64) (hU : U s = true) : ∃ (A' La' P' Lp' : Nat → Nat) (E' D' W' : Nat → Bool) (T' : Nat → Nat) (U' : Nat → Bool) (C' : Nat → Nat) (lo' : Nat), go_Z ac pc A' La' P' Lp' E' T' U' C' ∧ lo' ≤ lo + 10 ∧ (∀ post : Int32 → SX → Prop, post 1 (nI nn, nI ac, nI pc, nI tm, nI md, nI lo', go_B al, go_N A', go_N La', go_N P', go_N Lp', go_M E', go_M D', go_M W', go_N T', go_S U' C') → wpX_deliver post (nI nn, nI ac, nI pc, nI tm, nI md, nI lo, go_B al, go_N A, go_N La, go_N P, go_N Lp, go_M E, go_M D, go_M W, go_N T, go_S U C) (nI s)) ∧ (∀ post : Int32 → SY → Prop, post 1 (nI nn, nI ac, nI pc, nI tm, nI lo', nI md, go_B al, go_N A', go_N La', go_N P', go_N Lp', go_B E', go_B D', go_B W', go_N T', go_B U', go_N C') → wpY_deliver post (nI nn, nI ac, nI pc, nI tm, nI lo, nI md, go_B al, go_N A, go_N La, go_N P, go_N Lp, go_B E, go_B D, go_B W, go_N T, go_B U, go_N C) (nI s)) := by
  have S0 := Z.2.2.2.2
  have Z1 : go_Z ac pc A La P Lp E T (go_up U s false) C := ⟨Z.1, Z.2.1, Z.2.2.1, Z.2.2.2.1, go_ISf S0 s⟩
  have hc := (S0 s).1
  have hv : vp_in (nI s) 64 := vp_in_nI hs (by omega)
  have rS : go_S U C (nI s).toNatClampNeg = nI (C s) := go_rS s hU
  have rC := go_rN (e := nI s) C s rfl (by omega)
  have n63 : ¬ (63 : Int32) < nI s := Int32.not_lt.mpr (nI_le (b := 63) (by omega) (by omega))
  have d24 := go_d24 hc
  have d255 := go_d255 hc
  have d20 := go_d20 hc
  have d16 := go_d16 hc
  have d0 := go_d0 hc
  have hx : C s / 2 ^ 20 % 2 ^ 4 < 16 := by omega
  have hy : C s / 2 ^ 16 % 2 ^ 4 < 16 := by omega
  have ha : C s % 2 ^ 16 < 65536 := by omega
  have hk : C s / 2 ^ 24 < 128 := by omega
  generalize C s / 2 ^ 20 % 2 ^ 4 = x at d20 hx
  generalize C s / 2 ^ 16 % 2 ^ 4 = y at d16 hy
  generalize C s % 2 ^ 16 = a at d0 ha
  generalize C s / 2 ^ 24 = k at d24 d255 hk
  by_cases k1 : k = 1
  · have dx : nI (C s) >>> ((24 : Int32) &&& 31) = 1 := by rw [d24, k1]; rfl
    have dy : (nI (C s) >>> ((24 : Int32) &&& 31)) &&& 255 = 1 := by rw [d255, k1]; rfl
    obtain ⟨A', La', P', Lp', E', D', W', T', U', C', lo', Z', hl', hX, hY⟩ := go_h1 nn ac pc tm md lo al A La P Lp E D W T (go_up U s false) C (nI a) hac hpc Z1 hl hx hy
    refine ⟨A', La', P', Lp', E', D', W', T', U', C', lo', Z', hl', fun post hp => ?_, fun post hp => ?_⟩
    · unfold wpX_deliver
      exact go_usX nn ac pc tm md lo al A La P Lp E D W T U C S0 hs hU _ (br_f (by decide) ⟨hv, nm_r rS ⟨hv, nm_r (go_uSf U C s) (nm_r d20 (nm_r d16 (nm_r d0 (nm_r dx (br_f (by decide) (br_f (by decide) (br_t rfl (hX _ hp))))))))⟩⟩)
    · exact br_f (nI_pos (by omega)) (br_f n63 ⟨hv, br_f (go_bn U s hU) ⟨hv, nm_r rC ⟨hv, nm_r (go_uB U s false go_vf) (by rw [dy, d20, d16, d0]; exact hY _ hp)⟩⟩⟩)
  by_cases k2 : k = 2
  · have dx : nI (C s) >>> ((24 : Int32) &&& 31) = 2 := by rw [d24, k2]; rfl
    have dy : (nI (C s) >>> ((24 : Int32) &&& 31)) &&& 255 = 2 := by rw [d255, k2]; rfl
    obtain ⟨A', La', P', Lp', E', D', W', T', U', C', lo', Z', hl', hX, hY⟩ := go_h2 nn ac pc tm md lo al A La P Lp E D W T (go_up U s false) C hac hpc Z1 hl hx hy ha
    refine ⟨A', La', P', Lp', E', D', W', T', U', C', lo', Z', hl', fun post hp => ?_, fun post hp => ?_⟩
    · unfold wpX_deliver
      exact go_usX nn ac pc tm md lo al A La P Lp E D W T U C S0 hs hU _ (br_f (by decide) ⟨hv, nm_r rS ⟨hv, nm_r (go_uSf U C s) (nm_r d20 (nm_r d16 (nm_r d0 (nm_r dx (br_f (by decide) (br_f (by decide) (br_f (by decide) (br_t rfl (hX _ hp)))))))))⟩⟩)
    · exact br_f (nI_pos (by omega)) (br_f n63 ⟨hv, br_f (go_bn U s hU) ⟨hv, nm_r rC ⟨hv, nm_r (go_uB U s false go_vf) (by rw [dy, d20, d16, d0]; exact hY _ hp)⟩⟩⟩)
  by_cases k3 : k = 3
  · have dx : nI (C s) >>> ((24 : Int32) &&& 31) = 3 := by rw [d24, k3]; rfl
    have dy : (nI (C s) >>> ((24 : Int32) &&& 31)) &&& 255 = 3 := by rw [d255, k3]; rfl
    obtain ⟨A', La', E', P', Lp', U', C', lo', IA', JE', I', S', hl', hX, hY⟩ := go_addA nn ac pc tm md lo al A La P Lp E D W T (go_up U s false) C false hac Z1.1 Z1.2.1 hpc Z1.2.2.1 Z1.2.2.2.2 (by omega) hy hx
    refine ⟨A', La', P', Lp', E', D, W, T, U', C', lo', ⟨IA', JE', I', Z1.2.2.2.1, S'⟩, by omega, fun post hp => ?_, fun post hp => ?_⟩
    · unfold wpX_deliver
      exact go_usX nn ac pc tm md lo al A La P Lp E D W T U C S0 hs hU _ (br_f (by decide) ⟨hv, nm_r rS ⟨hv, nm_r (go_uSf U C s) (nm_r d20 (nm_r d16 (nm_r d0 (nm_r dx (br_f (by decide) (br_f (by decide) (br_f (by decide) (br_f (by decide) (br_t rfl (hX _ hp))))))))))⟩⟩)
    · exact br_f (nI_pos (by omega)) (br_f n63 ⟨hv, br_f (go_bn U s hU) ⟨hv, nm_r rC ⟨hv, nm_r (go_uB U s false go_vf) (by rw [dy, d20, d16, d0]; exact br_f (by decide) (br_f (by decide) (br_t rfl (hY _ hp))))⟩⟩⟩)
  by_cases k4 : k = 4
  · have dx : nI (C s) >>> ((24 : Int32) &&& 31) = 4 := by rw [d24, k4]; rfl
    have dy : (nI (C s) >>> ((24 : Int32) &&& 31)) &&& 255 = 4 := by rw [d255, k4]; rfl
    obtain ⟨A', La', P', Lp', E', D', W', T', U', C', lo', Z', hl', hX, hY⟩ := go_h4 nn ac pc tm md lo al A La P Lp E D W T (go_up U s false) C (nI a) hac hpc Z1 hx hy
    refine ⟨A', La', P', Lp', E', D', W', T', U', C', lo', Z', hl', fun post hp => ?_, fun post hp => ?_⟩
    · unfold wpX_deliver
      exact go_usX nn ac pc tm md lo al A La P Lp E D W T U C S0 hs hU _ (br_f (by decide) ⟨hv, nm_r rS ⟨hv, nm_r (go_uSf U C s) (nm_r d20 (nm_r d16 (nm_r d0 (nm_r dx (br_f (by decide) (br_f (by decide) (br_f (by decide) (br_f (by decide) (br_f (by decide) (br_t rfl (hX _ hp)))))))))))⟩⟩)
    · exact br_f (nI_pos (by omega)) (br_f n63 ⟨hv, br_f (go_bn U s hU) ⟨hv, nm_r rC ⟨hv, nm_r (go_uB U s false go_vf) (by rw [dy, d20, d16, d0]; exact hY _ hp)⟩⟩⟩)
  by_cases k5 : k = 5
  · have dx : nI (C s) >>> ((24 : Int32) &&& 31) = 5 := by rw [d24, k5]; rfl
    have dy : (nI (C s) >>> ((24 : Int32) &&& 31)) &&& 255 = 5 := by rw [d255, k5]; rfl
    obtain ⟨A', La', P', Lp', E', D', W', T', U', C', lo', Z', hl', hX, hY⟩ := go_h5 nn ac pc tm md lo al A La P Lp E D W T (go_up U s false) C hac hpc Z1 hl hx hy ha
    refine ⟨A', La', P', Lp', E', D', W', T', U', C', lo', Z', hl', fun post hp => ?_, fun post hp => ?_⟩
    · unfold wpX_deliver
      exact go_usX nn ac pc tm md lo al A La P Lp E D W T U C S0 hs hU _ (br_f (by decide) ⟨hv, nm_r rS ⟨hv, nm_r (go_uSf U C s) (nm_r d20 (nm_r d16 (nm_r d0 (nm_r dx (br_f (by decide) (br_f (by decide) (br_f (by decide) (br_f (by decide) (br_f (by decide) (br_f (by decide) (br_t rfl (hX _ hp))))))))))))⟩⟩)
    · exact br_f (nI_pos (by omega)) (br_f n63 ⟨hv, br_f (go_bn U s hU) ⟨hv, nm_r rC ⟨hv, nm_r (go_uB U s false go_vf) (by rw [dy, d20, d16, d0]; exact hY _ hp)⟩⟩⟩)
  by_cases k6 : k = 6
  · have dx : nI (C s) >>> ((24 : Int32) &&& 31) = 6 := by rw [d24, k6]; rfl
    have dy : (nI (C s) >>> ((24 : Int32) &&& 31)) &&& 255 = 6 := by rw [d255, k6]; rfl
    obtain ⟨P1, Lp1, I1, hX1, hY1⟩ := go_addP nn ac pc tm md lo al A La P Lp E D W T (go_up U s false) C hac.2 Z1.1 hpc Z1.2.2.1 hy hx
    obtain ⟨P', Lp', U', C', lo', I', S', hl', hX, hY⟩ := go_repair nn ac pc tm md lo al A La P1 Lp1 E D W T (go_up U s false) C hac (Z1.1.2.1 y) hpc I1 Z1.2.2.2.2 (by omega) hy
    refine ⟨A, La, P', Lp', E, D, W, T, U', C', lo', ⟨Z1.1, Z1.2.1, I', Z1.2.2.2.1, S'⟩, by omega, fun post hp => ?_, fun post hp => ?_⟩
    · unfold wpX_deliver
      exact go_usX nn ac pc tm md lo al A La P Lp E D W T U C S0 hs hU _ (br_f (by decide) ⟨hv, nm_r rS ⟨hv, nm_r (go_uSf U C s) (nm_r d20 (nm_r d16 (nm_r d0 (nm_r dx (br_f (by decide) (br_f (by decide) (br_f (by decide) (br_f (by decide) (br_f (by decide) (br_f (by decide) (br_f (by decide) (br_t rfl (hX1 _ (hX _ hp))))))))))))))⟩⟩)
    · exact br_f (nI_pos (by omega)) (br_f n63 ⟨hv, br_f (go_bn U s hU) ⟨hv, nm_r rC ⟨hv, nm_r (go_uB U s false go_vf) (by rw [dy, d20, d16, d0]; exact br_f (by decide) (br_f (by decide) (br_f (by decide) (br_f (by decide) (br_f (by decide) (br_t rfl (hY1 _ (hY _ hp))))))))⟩⟩⟩)
  by_cases k7 : k = 7
  · have dx : nI (C s) >>> ((24 : Int32) &&& 31) = 7 := by rw [d24, k7]; rfl
    have dy : (nI (C s) >>> ((24 : Int32) &&& 31)) &&& 255 = 7 := by rw [d255, k7]; rfl
    obtain ⟨A', La', P', Lp', E', D', W', T', U', C', lo', Z', hl', hX, hY⟩ := go_h7 nn ac pc tm md lo al A La P Lp E D W T (go_up U s false) C (a := a) hn hac hpc Z1 hl hx hy
    refine ⟨A', La', P', Lp', E', D', W', T', U', C', lo', Z', hl', fun post hp => ?_, fun post hp => ?_⟩
    · unfold wpX_deliver
      exact go_usX nn ac pc tm md lo al A La P Lp E D W T U C S0 hs hU _ (br_f (by decide) ⟨hv, nm_r rS ⟨hv, nm_r (go_uSf U C s) (nm_r d20 (nm_r d16 (nm_r d0 (nm_r dx (br_f (by decide) (br_f (by decide) (br_f (by decide) (br_f (by decide) (br_f (by decide) (br_f (by decide) (br_f (by decide) (br_f (by decide) (br_t rfl (hX _ hp))))))))))))))⟩⟩)
    · exact br_f (nI_pos (by omega)) (br_f n63 ⟨hv, br_f (go_bn U s hU) ⟨hv, nm_r rC ⟨hv, nm_r (go_uB U s false go_vf) (by rw [dy, d20, d16, d0]; exact hY _ hp)⟩⟩⟩)
  by_cases k8 : k = 8
  · have dx : nI (C s) >>> ((24 : Int32) &&& 31) = 8 := by rw [d24, k8]; rfl
    have dy : (nI (C s) >>> ((24 : Int32) &&& 31)) &&& 255 = 8 := by rw [d255, k8]; rfl
    obtain ⟨A', La', P', Lp', E', D', W', T', U', C', lo', Z', hl', hX, hY⟩ := go_h8 nn ac pc tm md lo al A La P Lp E D W T (go_up U s false) C (a := a) hn hac hpc Z1 hx hy
    refine ⟨A', La', P', Lp', E', D', W', T', U', C', lo', Z', hl', fun post hp => ?_, fun post hp => ?_⟩
    · unfold wpX_deliver
      exact go_usX nn ac pc tm md lo al A La P Lp E D W T U C S0 hs hU _ (br_f (by decide) ⟨hv, nm_r rS ⟨hv, nm_r (go_uSf U C s) (nm_r d20 (nm_r d16 (nm_r d0 (nm_r dx (br_f (by decide) (br_f (by decide) (br_f (by decide) (br_f (by decide) (br_f (by decide) (br_f (by decide) (br_f (by decide) (br_f (by decide) (br_f (by decide) (br_t rfl (hX _ hp)))))))))))))))⟩⟩)
    · exact br_f (nI_pos (by omega)) (br_f n63 ⟨hv, br_f (go_bn U s hU) ⟨hv, nm_r rC ⟨hv, nm_r (go_uB U s false go_vf) (by rw [dy, d20, d16, d0]; exact hY _ hp)⟩⟩⟩)
  by_cases k9 : k = 9
  · have dx : nI (C s) >>> ((24 : Int32) &&& 31) = 9 := by rw [d24, k9]; rfl
    have dy : (nI (C s) >>> ((24 : Int32) &&& 31)) &&& 255 = 9 := by rw [d255, k9]; rfl
    obtain ⟨A', La', P', Lp', E', D', W', T', U', C', lo', Z', hl', hX, hY⟩ := go_h9 nn ac pc tm md lo al A La P Lp E D W T (go_up U s false) C hac Z1 hl hx hy ha
    refine ⟨A', La', P', Lp', E', D', W', T', U', C', lo', Z', hl', fun post hp => ?_, fun post hp => ?_⟩
    · unfold wpX_deliver
      exact go_usX nn ac pc tm md lo al A La P Lp E D W T U C S0 hs hU _ (br_f (by decide) ⟨hv, nm_r rS ⟨hv, nm_r (go_uSf U C s) (nm_r d20 (nm_r d16 (nm_r d0 (nm_r dx (br_f (by decide) (br_f (by decide) (br_f (by decide) (br_f (by decide) (br_f (by decide) (br_f (by decide) (br_f (by decide) (br_f (by decide) (br_f (by decide) (br_f (by decide) (br_t rfl (hX _ hp))))))))))))))))⟩⟩)
    · exact br_f (nI_pos (by omega)) (br_f n63 ⟨hv, br_f (go_bn U s hU) ⟨hv, nm_r rC ⟨hv, nm_r (go_uB U s false go_vf) (by rw [dy, d20, d16, d0]; exact hY _ hp)⟩⟩⟩)
  by_cases k10 : k = 10
  · have dx : nI (C s) >>> ((24 : Int32) &&& 31) = 10 := by rw [d24, k10]; rfl
    have dy : (nI (C s) >>> ((24 : Int32) &&& 31)) &&& 255 = 10 := by rw [d255, k10]; rfl
    obtain ⟨A', La', P', Lp', E', D', W', T', U', C', lo', Z', hl', hX, hY⟩ := go_h10 nn ac pc tm md lo al A La P Lp E D W T (go_up U s false) C htm Z1 hx hy ha
    refine ⟨A', La', P', Lp', E', D', W', T', U', C', lo', Z', hl', fun post hp => ?_, fun post hp => ?_⟩
    · unfold wpX_deliver
      exact go_usX nn ac pc tm md lo al A La P Lp E D W T U C S0 hs hU _ (br_f (by decide) ⟨hv, nm_r rS ⟨hv, nm_r (go_uSf U C s) (nm_r d20 (nm_r d16 (nm_r d0 (nm_r dx (br_f (by decide) (br_f (by decide) (br_f (by decide) (br_f (by decide) (br_f (by decide) (br_f (by decide) (br_f (by decide) (br_f (by decide) (br_f (by decide) (br_f (by decide) (br_f (by decide) (br_t rfl (hX _ hp)))))))))))))))))⟩⟩)
    · exact br_f (nI_pos (by omega)) (br_f n63 ⟨hv, br_f (go_bn U s hU) ⟨hv, nm_r rC ⟨hv, nm_r (go_uB U s false go_vf) (by rw [dy, d20, d16, d0]; exact hY _ hp)⟩⟩⟩)
  by_cases k11 : k = 11
  · have dx : nI (C s) >>> ((24 : Int32) &&& 31) = 11 := by rw [d24, k11]; rfl
    have dy : (nI (C s) >>> ((24 : Int32) &&& 31)) &&& 255 = 11 := by rw [d255, k11]; rfl
    obtain ⟨A', La', P', Lp', E', D', W', T', U', C', lo', Z', hl', hX, hY⟩ := go_h11 nn ac pc tm md lo al A La P Lp E D W T (go_up U s false) C hac Z1 hl hx hy ha
    refine ⟨A', La', P', Lp', E', D', W', T', U', C', lo', Z', hl', fun post hp => ?_, fun post hp => ?_⟩
    · unfold wpX_deliver
      exact go_usX nn ac pc tm md lo al A La P Lp E D W T U C S0 hs hU _ (br_f (by decide) ⟨hv, nm_r rS ⟨hv, nm_r (go_uSf U C s) (nm_r d20 (nm_r d16 (nm_r d0 (nm_r dx (br_f (by decide) (br_f (by decide) (br_f (by decide) (br_f (by decide) (br_f (by decide) (br_f (by decide) (br_f (by decide) (br_f (by decide) (br_f (by decide) (br_f (by decide) (br_f (by decide) (br_f (by decide) (br_t rfl (hX _ hp))))))))))))))))))⟩⟩)
    · exact br_f (nI_pos (by omega)) (br_f n63 ⟨hv, br_f (go_bn U s hU) ⟨hv, nm_r rC ⟨hv, nm_r (go_uB U s false go_vf) (by rw [dy, d20, d16, d0]; exact hY _ hp)⟩⟩⟩)
  by_cases k12 : k = 12
  · have dx : nI (C s) >>> ((24 : Int32) &&& 31) = 12 := by rw [d24, k12]; rfl
    have dy : (nI (C s) >>> ((24 : Int32) &&& 31)) &&& 255 = 12 := by rw [d255, k12]; rfl
    refine ⟨A, La, P, Lp, go_up E (y * 16 + x) false, D, W, T, go_up U s false, C, lo, ⟨Z1.1, go_Eclr Z1.2.1 _, Z1.2.2.1, Z1.2.2.2.1, Z1.2.2.2.2⟩, by omega, fun post hp => ?_, fun post hp => ?_⟩
    · unfold wpX_deliver
      exact go_usX nn ac pc tm md lo al A La P Lp E D W T U C S0 hs hU _ (br_f (by decide) ⟨hv, nm_r rS ⟨hv, nm_r (go_uSf U C s) (nm_r d20 (nm_r d16 (nm_r d0 (nm_r dx (br_f (by decide) (br_f (by decide) (br_f (by decide) (br_f (by decide) (br_f (by decide) (br_f (by decide) (br_f (by decide) (br_f (by decide) (br_f (by decide) (br_f (by decide) (br_f (by decide) (br_f (by decide) (br_f (by decide) (br_t rfl ⟨vp_in_nI hy (by omega), vp_in_nI hy (by omega), nm_r (go_uMc E y x hx) hp⟩))))))))))))))))))⟩⟩)
    · exact br_f (nI_pos (by omega)) (br_f n63 ⟨hv, br_f (go_bn U s hU) ⟨hv, nm_r rC ⟨hv, nm_r (go_uB U s false go_vf) (by rw [dy, d20, d16, d0]; exact br_f (by decide) (br_f (by decide) (br_f (by decide) (br_f (by decide) (br_f (by decide) (br_f (by decide) (br_f (by decide) (br_f (by decide) (br_f (by decide) (br_f (by decide) (br_f (by decide) (br_t rfl ⟨pk_in (y * 16 + x) 256 (by omega) (go_ix16 y x), nm_r (go_uB E (y * 16 + x) false go_vf (go_ix16 y x)) hp⟩))))))))))))⟩⟩⟩)
  have n1 : ¬ nI k = 1 := fun q => k1 ((nI_eq (a := k) (b := 1) (by omega) (by omega)).mp q)
  have n2 : ¬ nI k = 2 := fun q => k2 ((nI_eq (a := k) (b := 2) (by omega) (by omega)).mp q)
  have n3 : ¬ nI k = 3 := fun q => k3 ((nI_eq (a := k) (b := 3) (by omega) (by omega)).mp q)
  have n4 : ¬ nI k = 4 := fun q => k4 ((nI_eq (a := k) (b := 4) (by omega) (by omega)).mp q)
  have n5 : ¬ nI k = 5 := fun q => k5 ((nI_eq (a := k) (b := 5) (by omega) (by omega)).mp q)
  have n6 : ¬ nI k = 6 := fun q => k6 ((nI_eq (a := k) (b := 6) (by omega) (by omega)).mp q)
  have n7 : ¬ nI k = 7 := fun q => k7 ((nI_eq (a := k) (b := 7) (by omega) (by omega)).mp q)
  have n8 : ¬ nI k = 8 := fun q => k8 ((nI_eq (a := k) (b := 8) (by omega) (by omega)).mp q)
  have n9 : ¬ nI k = 9 := fun q => k9 ((nI_eq (a := k) (b := 9) (by omega) (by omega)).mp q)
  have n10 : ¬ nI k = 10 := fun q => k10 ((nI_eq (a := k) (b := 10) (by omega) (by omega)).mp q)
  have n11 : ¬ nI k = 11 := fun q => k11 ((nI_eq (a := k) (b := 11) (by omega) (by omega)).mp q)
  have n12 : ¬ nI k = 12 := fun q => k12 ((nI_eq (a := k) (b := 12) (by omega) (by omega)).mp q)
  refine ⟨A, La, P, Lp, E, D, W, T, go_up U s false, C, lo, Z1, by omega, fun post hp => ?_, fun post hp => ?_⟩
  · unfold wpX_deliver
    refine go_usX nn ac pc tm md lo al A La P Lp E D W T U C S0 hs hU _ (br_f (by decide) ⟨hv, nm_r rS ⟨hv, nm_r (go_uSf U C s) (nm_r d20 (nm_r d16 (nm_r d0 (nm_r d24 ?_))))⟩⟩)
    rcases Nat.eq_zero_or_pos k with q | q
    · exact br_t (by rw [q]; decide) hp
    · exact br_f (Int32.not_lt.mpr (nI_le (a := 1) q (by omega))) (br_t (nI_lt (a := 12) (by omega) (by omega)) hp)
  · exact br_f (nI_pos (by omega)) (br_f n63 ⟨hv, br_f (go_bn U s hU) ⟨hv, nm_r rC ⟨hv, nm_r (go_uB U s false go_vf) (by rw [d255, d20, d16, d0]; exact br_f n1 (br_f n2 (br_f n3 (br_f n4 (br_f n5 (br_f n6 (br_f n7 (br_f n8 (br_f n9 (br_f n10 (br_f n11 (br_f n12 (hp)))))))))))))⟩⟩⟩)
end
end
section
theorem go_clX (p : Int32) (l h : Nat) (hlh : l ≤ h) (hh : h < 2 ^ 31) : ∃ r, l ≤ r ∧ r ≤ h ∧ (∀ Q : Int32 → Prop, Q (nI r) → wpX_clamp Q p (nI l) (nI h)) ∧ (∀ Q : Int32 → Prop, Q (nI r) → ((nI l ≤ p → ((p ≤ nI h → Q p) ∧ (¬ p ≤ nI h → Q (nI h)))) ∧ (¬ nI l ≤ p → Q (nI l)))) := by
  by_cases h1 : nI l ≤ p
  · have h0 : ¬ p < 0 := by
      intro q
      have e1 := Int32.le_iff_toInt_le.mp h1
      have e2 := Int32.lt_iff_toInt_lt.mp q
      rw [nI_toInt (by omega)] at e1
      have e3 : (0 : Int32).toInt = 0 := by decide
      omega
    obtain ⟨r, hr, e⟩ := nI_of h0
    subst e
    have h2 := (nI_leI (by omega) hr).mp h1
    by_cases h3 : nI r ≤ nI h
    · have h4 := (nI_leI hr hh).mp h3
      exact ⟨r, h2, h4, fun Q hQ => br_t h1 (br_t h3 hQ), fun Q hQ => br_t h1 (br_t h3 hQ)⟩
    · exact ⟨h, hlh, by omega, fun Q hQ => br_t h1 (br_f h3 hQ), fun Q hQ => br_t h1 (br_f h3 hQ)⟩
  · exact ⟨l, by omega, hlh, fun Q hQ => br_f h1 hQ, fun Q hQ => br_f h1 hQ⟩
section
variable (nn ac pc tm md lo : Nat) (al : Nat → Bool) (A La P Lp : Nat → Nat) (E D W : Nat → Bool) (T : Nat → Nat) (U : Nat → Bool) (C : Nat → Nat)
theorem go_iX (hn : nn ≤ 16) (post : SX → Prop) (hp : post (nI nn, nI ac, nI pc, nI tm, nI md, nI lo, go_B (fun j => decide (j < nn)), go_N A, go_N La, go_N P, go_N Lp, go_M E, go_M D, go_M W, go_N T, go_S U C)) : ∀ n i, i ≤ 16 → 16 - i < n → wX_init_144 post (nI nn) (nI ac) (nI pc) (nI tm) (nI md) (nI lo) n (nI i) (go_B (fun j => decide (j < i ∧ j < nn))) (go_N A) (go_N La) (go_N P) (go_N Lp) (go_M E) (go_M D) (go_M W) (go_N T) (go_S U C) := by
  intro n
  induction n with
  | zero => intro i _ hn; exact absurd hn (by omega)
  | succ n ih =>
    intro i hi hn'
    have w := ih (i + 1)
    refine pk_le 16 i (fun h => ?_) (fun h => pk_le nn i (fun h2 => ⟨vp_in_nI h (by omega), nm_r (go_uB _ i false go_vf) (nm_r (nI_1 i) ?_)⟩) (fun h2 => ⟨vp_in_nI h (by omega), nm_r (go_uB _ i true go_vt) (nm_r (nI_1 i) ?_)⟩))
    · have e : (fun j => decide (j < i ∧ j < nn)) = fun j => decide (j < nn) := funext fun j => decide_eq_decide.mpr (by omega)
      rw [e]; exact hp
    · have e : go_up (fun j => decide (j < i ∧ j < nn)) i false = fun j => decide (j < i + 1 ∧ j < nn) := by
        funext j
        unfold go_up
        by_cases q : j = i
        · rw [if_pos q]; exact (decide_eq_false (by omega)).symm
        · rw [if_neg q]; exact decide_eq_decide.mpr (by omega)
      rw [e]; exact w (by omega) (by omega)
    · have e : go_up (fun j => decide (j < i ∧ j < nn)) i true = fun j => decide (j < i + 1 ∧ j < nn) := by
        funext j
        unfold go_up
        by_cases q : j = i
        · rw [if_pos q]; exact (decide_eq_true (by omega)).symm
        · rw [if_neg q]; exact decide_eq_decide.mpr (by omega)
      rw [e]; exact w (by omega) (by omega)
theorem go_iY (hn : nn ≤ 16) (post : SY → Prop) (hp : post (nI nn, nI ac, nI pc, nI tm, nI lo, nI md, go_B (fun j => decide (j < nn)), go_N A, go_N La, go_N P, go_N Lp, go_B E, go_B D, go_B W, go_N T, go_B U, go_N C)) : ∀ n i, i ≤ nn → nn - i < n → wY_init_201 post (nI nn) (nI ac) (nI pc) (nI tm) (nI lo) (nI md) n (nI i) (go_B (fun j => decide (j < i))) (go_N A) (go_N La) (go_N P) (go_N Lp) (go_B E) (go_B D) (go_B W) (go_N T) (go_B U) (go_N C) := by
  intro n
  induction n with
  | zero => intro i _ hn; exact absurd hn (by omega)
  | succ n ih =>
    intro i hi hn'
    have w := ih (i + 1)
    refine pk_le nn i (fun h => ?_) (fun h => ⟨vp_in_nI (by omega) (by omega), nm_r (go_uB _ i true go_vt) (nm_r (nI_1 i) ?_)⟩)
    · rw [show i = nn by omega]; exact hp
    · have e : go_up (fun j => decide (j < i)) i true = fun j => decide (j < i + 1) := by
        funext j
        unfold go_up
        by_cases q : j = i
        · rw [if_pos q]; exact (decide_eq_true (by omega)).symm
        · rw [if_neg q]; exact decide_eq_decide.mpr (by omega)
      rw [e]; exact w (by omega) (by omega)
theorem go_s80 {x q lo2 : Nat} {U2 : Nat → Bool} {C2 : Nat → Nat} {b1 : Int32} (hL : Lp x ≤ 8) (hx : x < 16) (post : Int32 → SY → Prop) (hs : ∀ Q : SY → Prop, Q (nI nn, nI ac, nI pc, nI tm, nI lo2, nI md, go_B al, go_N A, go_N La, go_N P, go_N Lp, go_B E, go_B D, go_B W, go_N T, go_B U2, go_N C2) → wpY_send Q (nI nn, nI ac, nI pc, nI tm, nI lo, nI md, go_B al, go_N A, go_N La, go_N P, go_N Lp, go_B E, go_B D, go_B W, go_N T, go_B U, go_N C) (nI x) (nI q) 7 ((b1 ||| go_w P (x * 8) (Lp x)) &&& (((1 : Int32) <<< (nI q &&& 31)) ^^^ (-1)))) (hp : post 1 (nI nn, nI ac, nI pc, nI tm, nI lo2, nI md, go_B al, go_N A, go_N La, go_N P, go_N Lp, go_B E, go_B D, go_B W, go_N T, go_B U2, go_N C2)) : ∀ n i, i ≤ Lp x → Lp x - i < n → wY_shuffle_80 post (nI x) (nI q) (nI nn) (nI ac) (nI pc) (nI tm) (nI lo) (nI md) (go_B al) (go_N A) (go_N La) (go_N P) (go_N Lp) (go_B E) (go_B D) (go_B W) (go_N T) (go_B U) (go_N C) n (b1 ||| go_w P (x * 8) i) (nI i) := by
  intro n
  induction n with
  | zero => intro i _ hn; exact absurd hn (by omega)
  | succ n ih =>
    intro i hi hn
    refine ⟨vp_in_nI hx (by omega), pk_le (Lp x) i (fun h => ?_) (fun h => ⟨pk_in (x * 8 + i) 128 (by omega) (go_ix8 x i), nm_r (e' := b1 ||| go_w P (x * 8) (i + 1)) (by rw [go_rN P (x * 8 + i) (go_ix8 x i) (by omega), go_oa]; rfl) (nm_r (nI_1 i) (ih (i + 1) (by omega) (by omega)))⟩) (go_rN Lp x rfl (by omega)) rfl (by omega) (by omega)⟩
    have e : i = Lp x := by omega
    rw [e]
    exact nm_e (hs _ hp)
theorem go_s44 {x q : Nat} {b0 : Int32} (hL : La x ≤ 4) (hx : x < 16) (post : Int32 → SY → Prop) (hp : ∃ n80 : Nat, wY_shuffle_80 post (nI x) (nI q) (nI nn) (nI ac) (nI pc) (nI tm) (nI lo) (nI md) (go_B al) (go_N A) (go_N La) (go_N P) (go_N Lp) (go_B E) (go_B D) (go_B W) (go_N T) (go_B U) (go_N C) n80 (b0 ||| go_w A (x * 4) (La x)) 0) : ∀ n i, i ≤ La x → La x - i < n → wY_shuffle_44 post (nI x) (nI q) (nI nn) (nI ac) (nI pc) (nI tm) (nI lo) (nI md) (go_B al) (go_N A) (go_N La) (go_N P) (go_N Lp) (go_B E) (go_B D) (go_B W) (go_N T) (go_B U) (go_N C) n (b0 ||| go_w A (x * 4) i) (nI i) := by
  intro n
  induction n with
  | zero => intro i _ hn; exact absurd hn (by omega)
  | succ n ih =>
    intro i hi hn
    refine ⟨vp_in_nI hx (by omega), pk_le (La x) i (fun h => ?_) (fun h => ⟨pk_in (x * 4 + i) 64 (by omega) (go_ix4 x i), nm_r (e' := b0 ||| go_w A (x * 4) (i + 1)) (by rw [go_rN A (x * 4 + i) (go_ix4 x i) (by omega), go_oa]; rfl) (nm_r (nI_1 i) (ih (i + 1) (by omega) (by omega)))⟩) (go_rN La x rfl (by omega)) rfl (by omega) (by omega)⟩
    have e : i = La x := by omega
    rw [e]
    exact hp
theorem go_shuffle {x : Nat} (hn : 2 ≤ nn ∧ nn ≤ 16) (hac : 2 ≤ ac ∧ ac ≤ 4) (hpc : 1 ≤ pc ∧ pc ≤ 8) (Z : go_Z ac pc A La P Lp E T U C) (hl : lo + 10 < 2 ^ 31) (hx : x < nn) (hal : al x = true) (hne : La x ≠ 0) : ∃ (U' : Nat → Bool) (C' : Nat → Nat) (lo' : Nat), go_IS U' C' ∧ lo' ≤ lo + 10 ∧ (∀ post : Int32 → SX → Prop, post 1 (nI nn, nI ac, nI pc, nI tm, nI md, nI lo', go_B al, go_N A, go_N La, go_N P, go_N Lp, go_M E, go_M D, go_M W, go_N T, go_S U' C') → wpX_shuffle post (nI nn, nI ac, nI pc, nI tm, nI md, nI lo, go_B al, go_N A, go_N La, go_N P, go_N Lp, go_M E, go_M D, go_M W, go_N T, go_S U C) (nI x)) ∧ (∀ post : Int32 → SY → Prop, post 1 (nI nn, nI ac, nI pc, nI tm, nI lo', nI md, go_B al, go_N A, go_N La, go_N P, go_N Lp, go_B E, go_B D, go_B W, go_N T, go_B U', go_N C') → wpY_shuffle post (nI nn, nI ac, nI pc, nI tm, nI lo, nI md, go_B al, go_N A, go_N La, go_N P, go_N Lp, go_B E, go_B D, go_B W, go_N T, go_B U, go_N C) (nI x)) := by
  obtain ⟨IA, JE, I, hT, S⟩ := Z
  have hx16 : x < 16 := by omega
  have hla := IA.2.1 x
  have hlp := I.2.1 x
  have hv : vp_in (nI x) 16 := vp_in_nI hx16 (by omega)
  have hq : A (x * 4 + 0) < 16 := IA.1 _
  have c2 : nI x * 4 = nI (x * 4) := pk_mul x 4
  have c3 : go_N A (nI x * 4).toNatClampNeg = nI (A (x * 4 + 0)) := go_rN A (x * 4) c2 (by omega)
  have z : ¬ go_N La (nI x).toNatClampNeg = 0 := by rw [go_rN La x rfl (by omega)]; exact nI_ne0 (by omega) (by omega)
  have eo : (go_w A (x * 4) (La x) ||| go_w P (x * 8) (Lp x)) ||| ((1 : Int32) <<< (nI x &&& 31)) = (((1 : Int32) <<< (nI x &&& 31)) ||| go_w A (x * 4) (La x)) ||| go_w P (x * 8) (Lp x) := by
    rw [go_oc, go_oa]
  obtain ⟨m, hm, em⟩ := go_16 (x := ((go_w A (x * 4) (La x) ||| go_w P (x * 8) (Lp x)) ||| ((1 : Int32) <<< (nI x &&& 31))) &&& (((1 : Int32) <<< (nI (A (x * 4 + 0)) &&& 31)) ^^^ (-1))) (fun i h1 h2 => by
    rw [b_and, b_or, b_or, go_w16 IA.1 _ _ i h1 h2, go_w16 I.1 _ _ i h1 h2, go_1b x (by omega) h2, decide_eq_false (by omega)]
    rfl)
  obtain ⟨U', C', lo', S', hl', hX, hY⟩ := go_send nn ac pc tm md lo al A La P Lp E D W T U C (k := 7) S (by omega) hx16 hq (by omega) (by omega) hm
  rw [← em] at hX hY
  rw [eo] at hY
  refine ⟨U', C', lo', S', by omega, fun post hp => ?_, fun post hp => ?_⟩
  · unfold wpX_shuffle
    exact go_alX nn ac pc tm md lo al A La P Lp E D W T U C hn.2 hx hal _ (br_f (by decide) ⟨hv, br_f z ⟨pk_in (x * 4) 64 (by omega) c2, nm_r c3 ⟨La x + 1, go_amX nn ac pc tm md lo al A La P Lp E D W T U C IA.1 (by omega) hx16 _ ⟨Lp x + 1, go_pmX nn ac pc tm md lo al A La P Lp E D W T U C I.1 (by omega) hx16 _ (fun z ez => by subst ez; exact hX _ hp) _ 0 (by omega) (by omega)⟩ _ 0 (by omega) (by omega)⟩⟩⟩)
  · unfold wpY_shuffle
    refine go_ndY nn ac pc tm md lo al A La P Lp E D W T U C hn.2 hx _ (br_f (by decide) ⟨hv, br_f (go_bn al x hal) ⟨hv, br_f z ⟨pk_in (x * 4) 64 (by omega) c2, nm_r c3 (nm_e ⟨La x + 1, ?_⟩)⟩⟩⟩)
    have w := go_s80 nn ac pc tm md lo al A La P Lp E D W T U C (q := A (x * 4 + 0)) (by omega) hx16 post hY hp (Lp x + 1) 0 (by omega) (by omega)
    have e0 : ∀ y : Int32, y ||| go_w P (x * 8) 0 = y := go_zo
    rw [e0] at w
    have w2 := go_s44 nn ac pc tm md lo al A La P Lp E D W T U C (q := A (x * 4 + 0)) (b0 := (1 : Int32) <<< (nI x &&& 31)) (by omega) hx16 post ⟨_, w⟩ (La x + 1) 0 (by omega) (by omega)
    have e1 : ∀ y : Int32, y ||| go_w A (x * 4) 0 = y := go_zo
    rw [e1] at w2
    exact w2
theorem go_pd (S : go_IS U C) : ∀ d i cnt, i + d = 64 → ∃ r : Int32, (∀ post : Int32 → Prop, post r → wX_pending_4 post (nI nn) (nI ac) (nI pc) (nI tm) (nI md) (nI lo) (go_B al) (go_N A) (go_N La) (go_N P) (go_N Lp) (go_M E) (go_M D) (go_M W) (go_N T) (go_S U C) (d + 1) (nI cnt) (nI i)) ∧ (∀ post : Int32 → Prop, post r → wY_pending_4 post (nI nn) (nI ac) (nI pc) (nI tm) (nI lo) (nI md) (go_B al) (go_N A) (go_N La) (go_N P) (go_N Lp) (go_B E) (go_B D) (go_B W) (go_N T) (go_B U) (go_N C) (d + 1) (nI cnt) (nI i)) := by
  intro d
  induction d with
  | zero =>
    intro i cnt hi
    exact ⟨nI cnt, fun post hp => br_t (nI_le (a := 64) (by omega) (by omega)) hp, fun post hp => br_t (nI_le (a := 64) (by omega) (by omega)) hp⟩
  | succ d ih =>
    intro i cnt hi
    have hne : ¬ (64 : Int32) ≤ nI i := nI_ge (b := 64) (by omega) (by omega)
    have hv : vp_in (nI i) 64 := vp_in_nI (by omega) (by omega)
    cases hU : U i with
    | false =>
      obtain ⟨r, hX, hY⟩ := ih (i + 1) cnt (by omega)
      exact ⟨r, fun post hp => br_f hne ⟨hv, br_t ((go_S0 S i).mpr hU) (nm_r (nI_1 i) (hX post hp))⟩, fun post hp => br_f hne ⟨hv, br_t (go_bz U i hU) (nm_r (nI_1 i) (hY post hp))⟩⟩
    | true =>
      obtain ⟨r, hX, hY⟩ := ih (i + 1) (cnt + 1) (by omega)
      exact ⟨r, fun post hp => br_f hne ⟨hv, br_f (fun q => by rw [(go_S0 S i).mp q] at hU; exact absurd hU (by decide)) (nm_r (nI_1 cnt) (nm_r (nI_1 i) (hX post hp)))⟩, fun post hp => br_f hne ⟨hv, br_f (go_bn U i hU) (nm_r (nI_1 cnt) (nm_r (nI_1 i) (hY post hp)))⟩⟩
theorem go_gs {x b : Nat} (hx : x < 16) (hb : b < 16) (post : Int32 → Prop) (hp : post (go_M W (x * 16 + b) ||| (nI (T (x * 16 + b)) <<< ((16 : Int32) &&& 31)))) : ∀ n i, i ≤ 16 → 16 - i < n → wY_graftState_25 post (nI x) (nI b) (nI nn) (nI ac) (nI pc) (nI tm) (nI lo) (nI md) (go_B al) (go_N A) (go_N La) (go_N P) (go_N Lp) (go_B E) (go_B D) (go_B W) (go_N T) (go_B U) (go_N C) n (go_m (fun p => W ((x * 16 + b) * 16 + p)) i) (nI i) := by
  intro n
  induction n with
  | zero => intro i _ hn; exact absurd hn (by omega)
  | succ n ih =>
    intro i hi hn
    refine pk_le 16 i (fun h => ⟨pk_in (x * 16 + b) 256 (by omega) (go_ix16 x b), ?_⟩) (fun h => ⟨pk_in ((x * 16 + b) * 16 + i) 4096 (by omega) (go_ix256 x b i), go_brB W ((x * 16 + b) * 16 + i) (fun z => nm_r (nI_1 i) ?_) (fun z => nm_r (e' := go_m (fun p => W ((x * 16 + b) * 16 + p)) (i + 1)) ?_ (nm_r (nI_1 i) (ih (i + 1) (by omega) (by omega)))) (go_ix256 x b i)⟩)
    · rw [show i = 16 by omega, go_rN T (x * 16 + b) (go_ix16 x b) (by omega)]
      exact hp
    · have e : go_m (fun p => W ((x * 16 + b) * 16 + p)) (i + 1) = go_m (fun p => W ((x * 16 + b) * 16 + p)) i := by
        show cond (W ((x * 16 + b) * 16 + i)) _ _ = _
        rw [z]; rfl
      have w := ih (i + 1) (by omega) (by omega)
      rw [e] at w
      exact w
    · show _ = cond (W ((x * 16 + b) * 16 + i)) _ _
      rw [z]; rfl
end
end
section
theorem go_Zi (ac pc : Nat) : go_Z ac pc (fun _ => 0) (fun _ => 0) (fun _ => 0) (fun _ => 0) (fun _ => false) (fun _ => 0) (fun _ => false) (fun _ => 0) := ⟨⟨fun _ => (by decide : 0 < 16), fun _ => Nat.zero_le _, fun _ _ _ _ hj => absurd hj (Nat.not_lt_zero _)⟩, fun _ _ _ h => absurd h Bool.false_ne_true, ⟨fun _ => (by decide : 0 < 16), fun _ => Nat.zero_le _, fun _ _ _ _ hj => absurd hj (Nat.not_lt_zero _)⟩, fun _ => Nat.zero_le _, fun _ => ⟨(by decide : 0 < 2 ^ 31), fun h => absurd h Bool.false_ne_true⟩⟩
def i_Rel (k : Nat) (u : SX) (v : SY) : Prop := ∃ (nn ac pc tm md lo : Nat) (al : Nat → Bool) (A La P Lp : Nat → Nat) (E D W : Nat → Bool) (T : Nat → Nat) (U : Nat → Bool) (C : Nat → Nat), ((2 ≤ nn ∧ nn ≤ 16) ∧ (2 ≤ ac ∧ ac ≤ 4) ∧ (1 ≤ pc ∧ pc ≤ 8) ∧ (1 ≤ tm ∧ tm ≤ 8)) ∧ md ≤ 16 ∧ lo ≤ 300 * k ∧ go_Z ac pc A La P Lp E T U C ∧ u = (nI nn, nI ac, nI pc, nI tm, nI md, nI lo, go_B al, go_N A, go_N La, go_N P, go_N Lp, go_M E, go_M D, go_M W, go_N T, go_S U C) ∧ v = (nI nn, nI ac, nI pc, nI tm, nI lo, nI md, go_B al, go_N A, go_N La, go_N P, go_N Lp, go_B E, go_B D, go_B W, go_N T, go_B U, go_N C)
theorem i_up {k : Nat} {u : SX} {v : SY} (h : i_Rel k u v) : i_Rel (k + 3) u v := by
  obtain ⟨nn, ac, pc, tm, md, lo, al, A, La, P, Lp, E, D, W, T, U, C, hk, hm, hl, h⟩ := h
  exact ⟨nn, ac, pc, tm, md, lo, al, A, La, P, Lp, E, D, W, T, U, C, hk, hm, by omega, h⟩
theorem i_vc0 (k0 : Int32) (k1 : Int32) (k2 : Int32) (k3 : Int32) : wpX_init (fun u => wpY_init (fun v => i_Rel 4 u v) k0 k1 k2 k3) k0 k1 k2 k3 := by
  obtain ⟨nn, n1, n2, cX0, cY0⟩ := go_clX k0 2 16 (by omega) (by omega)
  obtain ⟨ac, a1, a2, cX1, cY1⟩ := go_clX k1 2 4 (by omega) (by omega)
  obtain ⟨pc, p1, p2, cX2, cY2⟩ := go_clX k2 1 8 (by omega) (by omega)
  obtain ⟨tm, t1, t2, cX3, cY3⟩ := go_clX k3 1 8 (by omega) (by omega)
  have R : i_Rel 4 (nI nn, nI ac, nI pc, nI tm, nI 0, nI 0, go_B (fun j => decide (j < nn)), go_N (fun _ => 0), go_N (fun _ => 0), go_N (fun _ => 0), go_N (fun _ => 0), go_M (fun _ => false), go_M (fun _ => false), go_M (fun _ => false), go_N (fun _ => 0), go_S (fun _ => false) (fun _ => 0)) (nI nn, nI ac, nI pc, nI tm, nI 0, nI 0, go_B (fun j => decide (j < nn)), go_N (fun _ => 0), go_N (fun _ => 0), go_N (fun _ => 0), go_N (fun _ => 0), go_B (fun _ => false), go_B (fun _ => false), go_B (fun _ => false), go_N (fun _ => 0), go_B (fun _ => false), go_N (fun _ => 0)) := by
    refine ⟨nn, ac, pc, tm, 0, 0, _, _, _, _, _, _, _, _, _, _, _, ⟨⟨n1, n2⟩, ⟨a1, a2⟩, ⟨p1, p2⟩, ⟨t1, t2⟩⟩, by omega, by omega, ?_, rfl, rfl⟩
    exact go_Zi ac pc
  have wY : wpY_init (fun v => i_Rel 4 (nI nn, nI ac, nI pc, nI tm, nI 0, nI 0, go_B (fun j => decide (j < nn)), go_N (fun _ => 0), go_N (fun _ => 0), go_N (fun _ => 0), go_N (fun _ => 0), go_M (fun _ => false), go_M (fun _ => false), go_M (fun _ => false), go_N (fun _ => 0), go_S (fun _ => false) (fun _ => 0)) v) k0 k1 k2 k3 := by
    have w := go_iY nn ac pc tm 0 0 (fun _ => 0) (fun _ => 0) (fun _ => 0) (fun _ => 0) (fun _ => false) (fun _ => false) (fun _ => false) (fun _ => 0) (fun _ => false) (fun _ => 0) n2 _ R 17 0 (by omega) (by omega)
    have e : (fun j => decide (j < 0)) = (fun _ => false : Nat → Bool) := funext fun j => decide_eq_false (by omega)
    rw [e] at w
    exact cY0 (fun z => wY_init_119 _ k1 k2 k3 z 0 0 0 0 0 0 (fun _ => 0) (fun _ => 0) (fun _ => 0) (fun _ => 0) (fun _ => 0) (fun _ => 0) (fun _ => 0) (fun _ => 0) (fun _ => 0) (fun _ => 0) (fun _ => 0)) (cY1 (fun z => wY_init_142 _ k2 k3 z (nI nn) 0 0 0 0 0 (fun _ => 0) (fun _ => 0) (fun _ => 0) (fun _ => 0) (fun _ => 0) (fun _ => 0) (fun _ => 0) (fun _ => 0) (fun _ => 0) (fun _ => 0) (fun _ => 0)) (cY2 (fun z => wY_init_167 _ k3 z (nI nn) (nI ac) 0 0 0 0 (fun _ => 0) (fun _ => 0) (fun _ => 0) (fun _ => 0) (fun _ => 0) (fun _ => 0) (fun _ => 0) (fun _ => 0) (fun _ => 0) (fun _ => 0) (fun _ => 0)) (cY3 (fun z => ∃ n201 : Nat, wY_init_201 _ (nI nn) (nI ac) (nI pc) z 0 0 n201 0 (fun _ => 0) (fun _ => 0) (fun _ => 0) (fun _ => 0) (fun _ => 0) (fun _ => 0) (fun _ => 0) (fun _ => 0) (fun _ => 0) (fun _ => 0) (fun _ => 0)) ⟨17, w⟩)))
  have w := go_iX nn ac pc tm 0 0 (fun _ => 0) (fun _ => 0) (fun _ => 0) (fun _ => 0) (fun _ => false) (fun _ => false) (fun _ => false) (fun _ => 0) (fun _ => false) (fun _ => 0) n2 (fun u => wpY_init (fun v => i_Rel 4 u v) k0 k1 k2 k3) wY 17 0 (by omega) (by omega)
  have e : (fun j => decide (j < 0 ∧ j < nn)) = (fun _ => false : Nat → Bool) := funext fun j => decide_eq_false (by omega)
  rw [e] at w
  unfold wpX_init
  exact cX0 _ (cX1 _ (cX2 _ (cX3 _ ⟨17, w⟩)))
end
section
theorem go_cls (v : Int32) (nn : Nat) (hn : nn < 2 ^ 31) : (v < 0 ∨ nI nn ≤ v) ∨ ∃ j, j < nn ∧ v = nI j := by
  rcases pk_ix v hn with h | h | h
  · exact Or.inl (Or.inl h)
  · exact Or.inl (Or.inr h)
  · exact Or.inr h
theorem go_64 {v : Int32} (h : v < 0 ∨ nI 64 ≤ v) : v < 0 ∨ 63 < v := by
  rcases h with h | h
  · exact Or.inl h
  · refine Or.inr (Int32.lt_iff_toInt_lt.mpr ?_)
    have e := Int32.le_iff_toInt_le.mp h
    rw [nI_toInt (by omega)] at e
    have e2 : (63 : Int32).toInt = 63 := by decide
    omega
theorem i_vc_join {k : Nat} {u : SX} {v : SY} (I : i_Rel k u v) (hk : k + 3 ≤ 1540) (v1 : Int32) (v2 : Int32) : wpX_join (fun r u' => wpY_join (fun r' v' => r' = r ∧ i_Rel (k + 3) u' v') v v1 v2) u v1 v2 := by
  have R0 := i_up I
  obtain ⟨nn, ac, pc, tm, md, lo, al, A, La, P, Lp, E, D, W, T, U, C, ⟨hn, hac, hpc, htm⟩, hmd, hlo, Z, rfl, rfl⟩ := I
  unfold wpX_join
  rcases go_cls v1 nn (by omega) with h1 | ⟨j1, hj1, rfl⟩
  · refine go_alX0 nn ac pc tm md lo al A La P Lp E D W T U C hn.2 (Or.inl h1) _ (br_t rfl ?_)
    unfold wpY_join
    exact go_ndY0 nn ac pc tm md lo al A La P Lp E D W T U C h1 _ (br_t rfl ⟨rfl, R0⟩)
  have hv1 : vp_in (nI j1) 16 := vp_in_nI (by omega) (by omega)
  rcases go_cls v2 nn (by omega) with h2 | ⟨j2, hj2, rfl⟩
  · have wy : wpY_join (fun r' v' => r' = 0 ∧ i_Rel (k + 3) (nI nn, nI ac, nI pc, nI tm, nI md, nI lo, go_B al, go_N A, go_N La, go_N P, go_N Lp, go_M E, go_M D, go_M W, go_N T, go_S U C) v') (nI nn, nI ac, nI pc, nI tm, nI lo, nI md, go_B al, go_N A, go_N La, go_N P, go_N Lp, go_B E, go_B D, go_B W, go_N T, go_B U, go_N C) (nI j1) v2 := by
      unfold wpY_join
      exact go_ndY nn ac pc tm md lo al A La P Lp E D W T U C hn.2 hj1 _ (br_f (by decide) (go_ndY0 nn ac pc tm md lo al A La P Lp E D W T U C h2 _ (br_t rfl ⟨rfl, R0⟩)))
    cases ha1 : al j1 with
    | false => exact go_alX0 nn ac pc tm md lo al A La P Lp E D W T U C hn.2 (Or.inr ⟨j1, hj1, rfl, ha1⟩) _ (br_t rfl wy)
    | true => exact go_alX nn ac pc tm md lo al A La P Lp E D W T U C hn.2 hj1 ha1 _ (br_f (by decide) (go_alX0 nn ac pc tm md lo al A La P Lp E D W T U C hn.2 (Or.inl h2) _ (br_t rfl wy)))
  have hv2 : vp_in (nI j2) 16 := vp_in_nI (by omega) (by omega)
  cases ha1 : al j1 with
  | false =>
    refine go_alX0 nn ac pc tm md lo al A La P Lp E D W T U C hn.2 (Or.inr ⟨j1, hj1, rfl, ha1⟩) _ (br_t rfl ?_)
    unfold wpY_join
    exact go_ndY nn ac pc tm md lo al A La P Lp E D W T U C hn.2 hj1 _ (br_f (by decide) (go_ndY nn ac pc tm md lo al A La P Lp E D W T U C hn.2 hj2 _ (br_f (by decide) (br_c (fun _ => ⟨rfl, R0⟩) (fun _ => ⟨hv1, br_t (go_bz al j1 ha1) ⟨rfl, R0⟩⟩)))))
  | true =>
    cases ha2 : al j2 with
    | false =>
      refine go_alX nn ac pc tm md lo al A La P Lp E D W T U C hn.2 hj1 ha1 _ (br_f (by decide) (go_alX0 nn ac pc tm md lo al A La P Lp E D W T U C hn.2 (Or.inr ⟨j2, hj2, rfl, ha2⟩) _ (br_t rfl ?_)))
      unfold wpY_join
      exact go_ndY nn ac pc tm md lo al A La P Lp E D W T U C hn.2 hj1 _ (br_f (by decide) (go_ndY nn ac pc tm md lo al A La P Lp E D W T U C hn.2 hj2 _ (br_f (by decide) (br_c (fun _ => ⟨rfl, R0⟩) (fun _ => ⟨hv1, br_f (go_bn al j1 ha1) ⟨hv2, br_t (go_bz al j2 ha2) ⟨rfl, R0⟩⟩⟩)))))
    | true =>
      refine go_alX nn ac pc tm md lo al A La P Lp E D W T U C hn.2 hj1 ha1 _ (br_f (by decide) (go_alX nn ac pc tm md lo al A La P Lp E D W T U C hn.2 hj2 ha2 _ (br_f (by decide) ?_)))
      by_cases e : nI j1 = nI j2
      · refine br_t e ?_
        unfold wpY_join
        exact go_ndY nn ac pc tm md lo al A La P Lp E D W T U C hn.2 hj1 _ (br_f (by decide) (go_ndY nn ac pc tm md lo al A La P Lp E D W T U C hn.2 hj2 _ (br_f (by decide) (br_t e ⟨rfl, R0⟩))))
      · obtain ⟨IA, JE, I, hT, S⟩ := Z
        obtain ⟨U', C', lo', S', hl', hX, hY⟩ := go_send nn ac pc tm md lo al A La P Lp E D W T U C (k := 1) (a := 0) S (by omega) (show j1 < 16 by omega) (show j2 < 16 by omega) (by omega) (by omega) (by omega)
        refine br_f e (hX _ ?_)
        show wpY_join _ _ _ _
        unfold wpY_join
        exact go_ndY nn ac pc tm md lo al A La P Lp E D W T U C hn.2 hj1 _ (br_f (by decide) (go_ndY nn ac pc tm md lo al A La P Lp E D W T U C hn.2 hj2 _ (br_f (by decide) (br_f e ⟨hv1, br_f (go_bn al j1 ha1) ⟨hv2, br_f (go_bn al j2 ha2) (hY _ ⟨rfl, _, _, _, _, _, _, _, _, _, _, _, _, _, _, _, _, _, ⟨hn, hac, hpc, htm⟩, hmd, by omega, ⟨IA, JE, I, hT, S'⟩, rfl, rfl⟩)⟩⟩))))
theorem i_vc_shuffle {k : Nat} {u : SX} {v : SY} (I : i_Rel k u v) (hk : k + 3 ≤ 1540) (v1 : Int32) : wpX_shuffle (fun r u' => wpY_shuffle (fun r' v' => r' = r ∧ i_Rel (k + 3) u' v') v v1) u v1 := by
  have R0 := i_up I
  obtain ⟨nn, ac, pc, tm, md, lo, al, A, La, P, Lp, E, D, W, T, U, C, ⟨hn, hac, hpc, htm⟩, hmd, hlo, Z, rfl, rfl⟩ := I
  rcases go_cls v1 nn (by omega) with h1 | ⟨j1, hj1, rfl⟩
  · unfold wpX_shuffle
    refine go_alX0 nn ac pc tm md lo al A La P Lp E D W T U C hn.2 (Or.inl h1) _ (br_t rfl ?_)
    unfold wpY_shuffle
    exact go_ndY0 nn ac pc tm md lo al A La P Lp E D W T U C h1 _ (br_t rfl ⟨rfl, R0⟩)
  have hv1 : vp_in (nI j1) 16 := vp_in_nI (by omega) (by omega)
  have hla := Z.1.2.1 j1
  cases ha1 : al j1 with
  | false =>
    unfold wpX_shuffle
    refine go_alX0 nn ac pc tm md lo al A La P Lp E D W T U C hn.2 (Or.inr ⟨j1, hj1, rfl, ha1⟩) _ (br_t rfl ?_)
    unfold wpY_shuffle
    exact go_ndY nn ac pc tm md lo al A La P Lp E D W T U C hn.2 hj1 _ (br_f (by decide) ⟨hv1, br_t (go_bz al j1 ha1) ⟨rfl, R0⟩⟩)
  | true =>
    by_cases h0 : La j1 = 0
    · have z : go_N La (nI j1).toNatClampNeg = 0 := by rw [go_rN La j1 rfl (by omega), h0]; exact nI_0
      unfold wpX_shuffle
      refine go_alX nn ac pc tm md lo al A La P Lp E D W T U C hn.2 hj1 ha1 _ (br_f (by decide) ⟨hv1, br_t z ?_⟩)
      unfold wpY_shuffle
      exact go_ndY nn ac pc tm md lo al A La P Lp E D W T U C hn.2 hj1 _ (br_f (by decide) ⟨hv1, br_f (go_bn al j1 ha1) ⟨hv1, br_t z ⟨rfl, R0⟩⟩⟩)
    · obtain ⟨U', C', lo', S', hl', hX, hY⟩ := go_shuffle nn ac pc tm md lo al A La P Lp E D W T U C hn hac hpc Z (by omega) hj1 ha1 h0
      exact hX _ (hY _ ⟨rfl, _, _, _, _, _, _, _, _, _, _, _, _, _, _, _, _, _, ⟨hn, hac, hpc, htm⟩, hmd, by omega, ⟨Z.1, Z.2.1, Z.2.2.1, Z.2.2.2.1, S'⟩, rfl, rfl⟩)
theorem i_vc_crash {k : Nat} {u : SX} {v : SY} (I : i_Rel k u v) (hk : k + 3 ≤ 1540) (v1 : Int32) : wpX_crash (fun r u' => wpY_crash (fun r' v' => r' = r ∧ i_Rel (k + 3) u' v') v v1) u v1 := by
  have R0 := i_up I
  obtain ⟨nn, ac, pc, tm, md, lo, al, A, La, P, Lp, E, D, W, T, U, C, ⟨hn, hac, hpc, htm⟩, hmd, hlo, Z, rfl, rfl⟩ := I
  rcases go_cls v1 nn (by omega) with h1 | ⟨j1, hj1, rfl⟩
  · unfold wpX_crash
    refine go_alX0 nn ac pc tm md lo al A La P Lp E D W T U C hn.2 (Or.inl h1) _ (br_t rfl ?_)
    unfold wpY_crash
    exact go_ndY0 nn ac pc tm md lo al A La P Lp E D W T U C h1 _ (br_t rfl ⟨rfl, R0⟩)
  have hv1 : vp_in (nI j1) 16 := vp_in_nI (by omega) (by omega)
  cases ha1 : al j1 with
  | false =>
    unfold wpX_crash
    refine go_alX0 nn ac pc tm md lo al A La P Lp E D W T U C hn.2 (Or.inr ⟨j1, hj1, rfl, ha1⟩) _ (br_t rfl ?_)
    unfold wpY_crash
    exact go_ndY nn ac pc tm md lo al A La P Lp E D W T U C hn.2 hj1 _ (br_f (by decide) ⟨hv1, br_t (go_bz al j1 ha1) ⟨rfl, R0⟩⟩)
  | true =>
    obtain ⟨A', La', P', Lp', E', D', W', T', U', C', lo', Z', hl', hX, hY⟩ := go_crash nn ac pc tm md lo al A La P Lp E D W T U C hn hac hpc Z (by omega) hj1 ha1
    exact hX _ (hY _ ⟨rfl, _, _, _, _, _, _, _, _, _, _, _, _, _, _, _, _, _, ⟨hn, hac, hpc, htm⟩, hmd, by omega, Z', rfl, rfl⟩)
theorem i_vc_broadcast {k : Nat} {u : SX} {v : SY} (I : i_Rel k u v) (hk : k + 3 ≤ 1540) (v1 : Int32) : wpX_broadcast (fun r u' => wpY_broadcast (fun r' v' => r' = r ∧ i_Rel (k + 3) u' v') v v1) u v1 := by
  have R0 := i_up I
  obtain ⟨nn, ac, pc, tm, md, lo, al, A, La, P, Lp, E, D, W, T, U, C, ⟨hn, hac, hpc, htm⟩, hmd, hlo, Z, rfl, rfl⟩ := I
  unfold wpX_broadcast
  rcases go_cls v1 nn (by omega) with h1 | ⟨j1, hj1, rfl⟩
  · refine go_alX0 nn ac pc tm md lo al A La P Lp E D W T U C hn.2 (Or.inl h1) _ (br_t rfl ?_)
    unfold wpY_broadcast
    exact go_ndY0 nn ac pc tm md lo al A La P Lp E D W T U C h1 _ (br_t rfl ⟨rfl, R0⟩)
  have hv1 : vp_in (nI j1) 16 := vp_in_nI (by omega) (by omega)
  have hla := Z.1.2.1 j1
  cases ha1 : al j1 with
  | false =>
    refine go_alX0 nn ac pc tm md lo al A La P Lp E D W T U C hn.2 (Or.inr ⟨j1, hj1, rfl, ha1⟩) _ (br_t rfl ?_)
    unfold wpY_broadcast
    exact go_ndY nn ac pc tm md lo al A La P Lp E D W T U C hn.2 hj1 _ (br_f (by decide) ⟨hv1, br_t (go_bz al j1 ha1) ⟨rfl, R0⟩⟩)
  | true =>
    refine go_alX nn ac pc tm md lo al A La P Lp E D W T U C hn.2 hj1 ha1 _ (br_f (by decide) ?_)
    by_cases h16 : md < 16
    · have c : nI md < 16 := nI_lt (b := 16) h16 (by omega)
      obtain ⟨a, _, ha, ea⟩ := go_1n md h16
      obtain ⟨U', C', lo', S', hl', hX, hY⟩ := go_fwd nn ac pc tm (md + 1) lo al A La P Lp E (go_up D (j1 * 16 + md) true) W T U C (-1) Z.1.1 (by omega) Z.2.2.2.2 (by omega) (show j1 < 16 by omega) ha
      rw [← ea] at hX hY
      refine br_t c (nm_r (nI_1 md) ⟨hv1, hv1, nm_r (go_uMs D j1 md h16) (hX _ ?_)⟩)
      show wpY_broadcast _ _ _
      unfold wpY_broadcast
      exact go_ndY nn ac pc tm md lo al A La P Lp E D W T U C hn.2 hj1 _ (br_f (by decide) ⟨hv1, br_f (go_bn al j1 ha1) (br_t c (nm_r (nI_1 md) ⟨pk_in (j1 * 16 + md) 256 (by omega) (go_ix16 j1 md), nm_r (go_uB D (j1 * 16 + md) true go_vt (go_ix16 j1 md)) (hY _ ⟨rfl, _, _, _, _, _, _, _, _, _, _, _, _, _, _, _, _, _, ⟨hn, hac, hpc, htm⟩, h16, by omega, ⟨Z.1, Z.2.1, Z.2.2.1, Z.2.2.2.1, S'⟩, rfl, rfl⟩)⟩))⟩)
    · have c : ¬ nI md < 16 := nI_nlt (b := 16) (by omega) (by omega)
      refine br_f c ?_
      unfold wpY_broadcast
      exact go_ndY nn ac pc tm md lo al A La P Lp E D W T U C hn.2 hj1 _ (br_f (by decide) ⟨hv1, br_f (go_bn al j1 ha1) (br_f c ⟨rfl, R0⟩)⟩)
theorem i_vc_deliver {k : Nat} {u : SX} {v : SY} (I : i_Rel k u v) (hk : k + 3 ≤ 1540) (v1 : Int32) : wpX_deliver (fun r u' => wpY_deliver (fun r' v' => r' = r ∧ i_Rel (k + 3) u' v') v v1) u v1 := by
  have R0 := i_up I
  obtain ⟨nn, ac, pc, tm, md, lo, al, A, La, P, Lp, E, D, W, T, U, C, ⟨hn, hac, hpc, htm⟩, hmd, hlo, Z, rfl, rfl⟩ := I
  rcases go_cls v1 64 (by omega) with h1 | ⟨s, hs, rfl⟩
  · unfold wpX_deliver
    exact go_usX0 nn ac pc tm md lo al A La P Lp E D W T U C Z.2.2.2.2 (Or.inl h1) _ (br_t rfl (br_c (fun _ => ⟨rfl, R0⟩) (fun q => br_t ((go_64 h1).resolve_left q) ⟨rfl, R0⟩)))
  · cases hU : U s with
    | false =>
      have n63 : ¬ (63 : Int32) < nI s := Int32.not_lt.mpr (nI_le (b := 63) (by omega) (by omega))
      unfold wpX_deliver
      exact go_usX0 nn ac pc tm md lo al A La P Lp E D W T U C Z.2.2.2.2 (Or.inr ⟨s, hs, rfl, hU⟩) _ (br_t rfl (br_f (nI_pos (by omega)) (br_f n63 ⟨vp_in_nI hs (by omega), br_t (go_bz U s hU) ⟨rfl, R0⟩⟩)))
    | true =>
      obtain ⟨A', La', P', Lp', E', D', W', T', U', C', lo', Z', hl', hX, hY⟩ := go_deliver nn ac pc tm md lo al A La P Lp E D W T U C hn hac hpc htm Z (by omega) hs hU
      exact hX _ (hY _ ⟨rfl, _, _, _, _, _, _, _, _, _, _, _, _, _, _, _, _, _, ⟨hn, hac, hpc, htm⟩, hmd, by omega, Z', rfl, rfl⟩)
theorem i_vc_drop {k : Nat} {u : SX} {v : SY} (I : i_Rel k u v) (hk : k + 3 ≤ 1540) (v1 : Int32) : wpX_drop (fun r u' => wpY_drop (fun r' v' => r' = r ∧ i_Rel (k + 3) u' v') v v1) u v1 := by
  have R0 := i_up I
  obtain ⟨nn, ac, pc, tm, md, lo, al, A, La, P, Lp, E, D, W, T, U, C, ⟨hn, hac, hpc, htm⟩, hmd, hlo, Z, rfl, rfl⟩ := I
  unfold wpX_drop
  rcases go_cls v1 64 (by omega) with h1 | ⟨s, hs, rfl⟩
  · exact go_usX0 nn ac pc tm md lo al A La P Lp E D W T U C Z.2.2.2.2 (Or.inl h1) _ (br_t rfl (br_c (fun _ => ⟨rfl, R0⟩) (fun q => br_t ((go_64 h1).resolve_left q) ⟨rfl, R0⟩)))
  · have n63 : ¬ (63 : Int32) < nI s := Int32.not_lt.mpr (nI_le (b := 63) (by omega) (by omega))
    have hv : vp_in (nI s) 64 := vp_in_nI hs (by omega)
    cases hU : U s with
    | false => exact go_usX0 nn ac pc tm md lo al A La P Lp E D W T U C Z.2.2.2.2 (Or.inr ⟨s, hs, rfl, hU⟩) _ (br_t rfl (br_f (nI_pos (by omega)) (br_f n63 ⟨hv, br_t (go_bz U s hU) ⟨rfl, R0⟩⟩)))
    | true =>
      have hc := (Z.2.2.2.2 s).1
      have dX : go_S U C (nI s).toNatClampNeg >>> ((24 : Int32) &&& 31) = nI (C s / 2 ^ 24) := by rw [go_rS s hU]; exact go_d24 hc
      have dY : (go_N C (nI s).toNatClampNeg >>> ((24 : Int32) &&& 31)) &&& 255 = nI (C s / 2 ^ 24) := by rw [go_rN C s rfl (by omega)]; exact go_d255 hc
      refine go_usX nn ac pc tm md lo al A La P Lp E D W T U C Z.2.2.2.2 hs hU _ (br_f (by decide) ⟨hv, nm_r dX ?_⟩)
      have wy : ∀ Q : Int32 → SY → Prop, ((nI (C s / 2 ^ 24) = 9 → Q 0 (nI nn, nI ac, nI pc, nI tm, nI lo, nI md, go_B al, go_N A, go_N La, go_N P, go_N Lp, go_B E, go_B D, go_B W, go_N T, go_B U, go_N C)) ∧ (¬ nI (C s / 2 ^ 24) = 9 → ((nI (C s / 2 ^ 24) = 10 → Q 0 (nI nn, nI ac, nI pc, nI tm, nI lo, nI md, go_B al, go_N A, go_N La, go_N P, go_N Lp, go_B E, go_B D, go_B W, go_N T, go_B U, go_N C)) ∧ (¬ nI (C s / 2 ^ 24) = 10 → ((nI (C s / 2 ^ 24) = 11 → Q 0 (nI nn, nI ac, nI pc, nI tm, nI lo, nI md, go_B al, go_N A, go_N La, go_N P, go_N Lp, go_B E, go_B D, go_B W, go_N T, go_B U, go_N C)) ∧ (¬ nI (C s / 2 ^ 24) = 11 → ((nI (C s / 2 ^ 24) = 12 → Q 0 (nI nn, nI ac, nI pc, nI tm, nI lo, nI md, go_B al, go_N A, go_N La, go_N P, go_N Lp, go_B E, go_B D, go_B W, go_N T, go_B U, go_N C)) ∧ (¬ nI (C s / 2 ^ 24) = 12 → Q 1 (nI nn, nI ac, nI pc, nI tm, nI lo, nI md, go_B al, go_N A, go_N La, go_N P, go_N Lp, go_B E, go_B D, go_B W, go_N T, go_B (go_up U s false), go_N C))))))))) → wpY_drop Q (nI nn, nI ac, nI pc, nI tm, nI lo, nI md, go_B al, go_N A, go_N La, go_N P, go_N Lp, go_B E, go_B D, go_B W, go_N T, go_B U, go_N C) (nI s) := by
        intro Q h
        exact br_f (nI_pos (by omega)) (br_f n63 ⟨hv, br_f (go_bn U s hU) ⟨hv, nm_r dY (br_c h.1 (fun q9 => br_c (h.2 q9).1 (fun q10 => br_c ((h.2 q9).2 q10).1 (fun q11 => br_c (((h.2 q9).2 q10).2 q11).1 (fun q12 => ⟨hv, nm_r (go_uB U s false go_vf) ((((h.2 q9).2 q10).2 q11).2 q12)⟩)))))⟩⟩)
      refine br_c (fun q9 => wy _ (br_t q9 ⟨rfl, R0⟩)) (fun q9 => br_c (fun q10 => wy _ (br_f q9 (br_t q10 ⟨rfl, R0⟩))) (fun q10 => br_c (fun q11 => wy _ (br_f q9 (br_f q10 (br_t q11 ⟨rfl, R0⟩)))) (fun q11 => br_c (fun q12 => wy _ (br_f q9 (br_f q10 (br_f q11 (br_t q12 ⟨rfl, R0⟩))))) (fun q12 => ⟨hv, nm_r (go_uSf U C s) (wy _ (br_f q9 (br_f q10 (br_f q11 (br_f q12 ⟨rfl, ?_⟩)))))⟩))))
      exact ⟨_, _, _, _, _, _, _, _, _, _, _, _, _, _, _, _, _, ⟨hn, hac, hpc, htm⟩, hmd, by omega, ⟨Z.1, Z.2.1, Z.2.2.1, Z.2.2.2.1, go_ISf Z.2.2.2.2 s⟩, rfl, rfl⟩
theorem i_vc_tick {k : Nat} {u : SX} {v : SY} (I : i_Rel k u v) (hk : k + 3 ≤ 1540) : wpX_tick (fun r u' => wpY_tick (fun r' v' => r' = r ∧ i_Rel (k + 3) u' v') v) u := by
  obtain ⟨nn, ac, pc, tm, md, lo, al, A, La, P, Lp, E, D, W, T, U, C, ⟨hn, hac, hpc, htm⟩, hmd, hlo, Z, rfl, rfl⟩ := I
  obtain ⟨cnt', lo', E', W', T', U', C', JE', hT', S', hl', hX, hY⟩ := go_tko nn ac pc tm md al A La P Lp D hn.2 hac htm Z.1 nn 0 0 lo E W T U C (by omega) Z.2.1 Z.2.2.2.1 Z.2.2.2.2 (by omega)
  exact ⟨_, hX _ ⟨_, hY _ ⟨rfl, _, _, _, _, _, _, _, _, _, _, _, _, _, _, _, _, _, ⟨hn, hac, hpc, htm⟩, hmd, by omega, ⟨Z.1, JE', Z.2.2.1, hT', S'⟩, rfl, rfl⟩⟩⟩
end
section
theorem i_vc_message {k : Nat} {u : SX} {v : SY} (I : i_Rel k u v) (hk : k + 3 ≤ 1540) (v1 : Int32) : wpX_message (fun r => wpY_message (fun r' => r' = r ∧ i_Rel (k + 3) u v) v v1) u v1 := by
  have R0 := i_up I
  obtain ⟨nn, ac, pc, tm, md, lo, al, A, La, P, Lp, E, D, W, T, U, C, ⟨hn, hac, hpc, htm⟩, hmd, hlo, Z, rfl, rfl⟩ := I
  unfold wpX_message
  rcases go_cls v1 64 (by omega) with h1 | ⟨s, hs, rfl⟩
  · exact go_usX0 nn ac pc tm md lo al A La P Lp E D W T U C Z.2.2.2.2 (Or.inl h1) _ (br_t rfl (br_c (fun _ => ⟨rfl, R0⟩) (fun q => br_t ((go_64 h1).resolve_left q) ⟨rfl, R0⟩)))
  · have n63 : ¬ (63 : Int32) < nI s := Int32.not_lt.mpr (nI_le (b := 63) (by omega) (by omega))
    have hv : vp_in (nI s) 64 := vp_in_nI hs (by omega)
    cases hU : U s with
    | false => exact go_usX0 nn ac pc tm md lo al A La P Lp E D W T U C Z.2.2.2.2 (Or.inr ⟨s, hs, rfl, hU⟩) _ (br_t rfl (br_f (nI_pos (by omega)) (br_f n63 ⟨hv, br_t (go_bz U s hU) ⟨rfl, R0⟩⟩)))
    | true => exact go_usX nn ac pc tm md lo al A La P Lp E D W T U C Z.2.2.2.2 hs hU _ (br_f (by decide) ⟨hv, br_f (nI_pos (by omega)) (br_f n63 ⟨hv, br_f (go_bn U s hU) ⟨hv, by rw [go_rN C s rfl (by omega), go_rS s hU], R0⟩⟩)⟩)
theorem i_vc_pending {k : Nat} {u : SX} {v : SY} (I : i_Rel k u v) (hk : k + 3 ≤ 1540) : wpX_pending (fun r => wpY_pending (fun r' => r' = r ∧ i_Rel (k + 3) u v) v) u := by
  have R0 := i_up I
  obtain ⟨nn, ac, pc, tm, md, lo, al, A, La, P, Lp, E, D, W, T, U, C, ⟨hn, hac, hpc, htm⟩, hmd, hlo, Z, rfl, rfl⟩ := I
  obtain ⟨r, hX, hY⟩ := go_pd nn ac pc tm md lo al A La P Lp E D W T U C Z.2.2.2.2 64 0 0 (by omega)
  exact ⟨_, hX _ ⟨_, hY _ ⟨rfl, R0⟩⟩⟩
theorem i_vc_activeAt {k : Nat} {u : SX} {v : SY} (I : i_Rel k u v) (hk : k + 3 ≤ 1540) (v1 : Int32) (v2 : Int32) : wpX_activeAt (fun r => wpY_activeAt (fun r' => r' = r ∧ i_Rel (k + 3) u v) v v1 v2) u v1 v2 := by
  have R0 := i_up I
  obtain ⟨nn, ac, pc, tm, md, lo, al, A, La, P, Lp, E, D, W, T, U, C, ⟨hn, hac, hpc, htm⟩, hmd, hlo, Z, rfl, rfl⟩ := I
  unfold wpX_activeAt
  rcases go_cls v1 nn (by omega) with h1 | ⟨j, hj, rfl⟩
  · refine go_ndX0 nn ac pc tm md lo al A La P Lp E D W T U C h1 _ (br_t rfl ?_)
    unfold wpY_activeAt
    exact go_ndY0 nn ac pc tm md lo al A La P Lp E D W T U C h1 _ (br_t rfl ⟨rfl, R0⟩)
  have hv : vp_in (nI j) 16 := vp_in_nI (by omega) (by omega)
  have hla := Z.1.2.1 j
  have rl := go_rN (e := nI j) La j rfl (by omega)
  refine go_ndX nn ac pc tm md lo al A La P Lp E D W T U C hn.2 hj _ (br_f (by decide) ?_)
  have wy : ∀ Q : Int32 → Prop, ((v2 < 0 → Q (-1)) ∧ (¬ v2 < 0 → (vp_in (nI j) 16 ∧ (((v2 < go_N La (nI j).toNatClampNeg → (vp_in (nI j * 4 + v2) 64 ∧ (Q (go_N A (nI j * 4 + v2).toNatClampNeg)))) ∧ (¬ v2 < go_N La (nI j).toNatClampNeg → (Q (-1)))))))) → wpY_activeAt Q (nI nn, nI ac, nI pc, nI tm, nI lo, nI md, go_B al, go_N A, go_N La, go_N P, go_N Lp, go_B E, go_B D, go_B W, go_N T, go_B U, go_N C) (nI j) v2 := by
    intro Q h
    unfold wpY_activeAt
    exact go_ndY nn ac pc tm md lo al A La P Lp E D W T U C hn.2 hj _ (br_f (by decide) h)
  by_cases hv2 : v2 < 0
  · exact br_t hv2 (wy _ (br_t hv2 ⟨rfl, R0⟩))
  · refine br_f hv2 ⟨hv, ?_⟩
    by_cases h3 : v2 < go_N La (nI j).toNatClampNeg
    · obtain ⟨i, hi, rfl⟩ := nI_of hv2
      have h4 : i < La j := by rw [rl] at h3; exact (nI_ltI hi (by omega)).mp h3
      have hw : vp_in (nI j * 4 + nI i) 64 := pk_in (j * 4 + i) 64 (by omega) (go_ix4 j i)
      exact br_t h3 ⟨hw, wy _ (br_f hv2 ⟨hv, br_t h3 ⟨hw, rfl, R0⟩⟩)⟩
    · exact br_f h3 (wy _ (br_f hv2 ⟨hv, br_f h3 ⟨rfl, R0⟩⟩))
theorem i_vc_passiveAt {k : Nat} {u : SX} {v : SY} (I : i_Rel k u v) (hk : k + 3 ≤ 1540) (v1 : Int32) (v2 : Int32) : wpX_passiveAt (fun r => wpY_passiveAt (fun r' => r' = r ∧ i_Rel (k + 3) u v) v v1 v2) u v1 v2 := by
  have R0 := i_up I
  obtain ⟨nn, ac, pc, tm, md, lo, al, A, La, P, Lp, E, D, W, T, U, C, ⟨hn, hac, hpc, htm⟩, hmd, hlo, Z, rfl, rfl⟩ := I
  unfold wpX_passiveAt
  rcases go_cls v1 nn (by omega) with h1 | ⟨j, hj, rfl⟩
  · refine go_ndX0 nn ac pc tm md lo al A La P Lp E D W T U C h1 _ (br_t rfl ?_)
    unfold wpY_passiveAt
    exact go_ndY0 nn ac pc tm md lo al A La P Lp E D W T U C h1 _ (br_t rfl ⟨rfl, R0⟩)
  have hv : vp_in (nI j) 16 := vp_in_nI (by omega) (by omega)
  have hla := Z.2.2.1.2.1 j
  have rl := go_rN (e := nI j) Lp j rfl (by omega)
  refine go_ndX nn ac pc tm md lo al A La P Lp E D W T U C hn.2 hj _ (br_f (by decide) ?_)
  have wy : ∀ Q : Int32 → Prop, ((v2 < 0 → Q (-1)) ∧ (¬ v2 < 0 → (vp_in (nI j) 16 ∧ (((v2 < go_N Lp (nI j).toNatClampNeg → (vp_in (nI j * 8 + v2) 128 ∧ (Q (go_N P (nI j * 8 + v2).toNatClampNeg)))) ∧ (¬ v2 < go_N Lp (nI j).toNatClampNeg → (Q (-1)))))))) → wpY_passiveAt Q (nI nn, nI ac, nI pc, nI tm, nI lo, nI md, go_B al, go_N A, go_N La, go_N P, go_N Lp, go_B E, go_B D, go_B W, go_N T, go_B U, go_N C) (nI j) v2 := by
    intro Q h
    unfold wpY_passiveAt
    exact go_ndY nn ac pc tm md lo al A La P Lp E D W T U C hn.2 hj _ (br_f (by decide) h)
  by_cases hv2 : v2 < 0
  · exact br_t hv2 (wy _ (br_t hv2 ⟨rfl, R0⟩))
  · refine br_f hv2 ⟨hv, ?_⟩
    by_cases h3 : v2 < go_N Lp (nI j).toNatClampNeg
    · obtain ⟨i, hi, rfl⟩ := nI_of hv2
      have h4 : i < Lp j := by rw [rl] at h3; exact (nI_ltI hi (by omega)).mp h3
      have hw : vp_in (nI j * 8 + nI i) 128 := pk_in (j * 8 + i) 128 (by omega) (go_ix8 j i)
      exact br_t h3 ⟨hw, wy _ (br_f hv2 ⟨hv, br_t h3 ⟨hw, rfl, R0⟩⟩)⟩
    · exact br_f h3 (wy _ (br_f hv2 ⟨hv, br_f h3 ⟨rfl, R0⟩⟩))
theorem i_vc_isEager {k : Nat} {u : SX} {v : SY} (I : i_Rel k u v) (hk : k + 3 ≤ 1540) (v1 : Int32) (v2 : Int32) : wpX_isEager (fun r => wpY_isEager (fun r' => r' = r ∧ i_Rel (k + 3) u v) v v1 v2) u v1 v2 := by
  have R0 := i_up I
  obtain ⟨nn, ac, pc, tm, md, lo, al, A, La, P, Lp, E, D, W, T, U, C, ⟨hn, hac, hpc, htm⟩, hmd, hlo, Z, rfl, rfl⟩ := I
  unfold wpX_isEager
  rcases go_cls v1 nn (by omega) with h1 | ⟨j, hj, rfl⟩
  · refine go_ndX0 nn ac pc tm md lo al A La P Lp E D W T U C h1 _ (br_t rfl ?_)
    unfold wpY_isEager
    exact go_ndY0 nn ac pc tm md lo al A La P Lp E D W T U C h1 _ (br_t rfl ⟨rfl, R0⟩)
  have hv : vp_in (nI j) 16 := vp_in_nI (by omega) (by omega)
  refine go_ndX nn ac pc tm md lo al A La P Lp E D W T U C hn.2 hj _ (br_f (by decide) ?_)
  rcases go_cls v2 nn (by omega) with h2 | ⟨p, hp, rfl⟩
  · refine go_ndX0 nn ac pc tm md lo al A La P Lp E D W T U C h2 _ (br_t rfl ?_)
    unfold wpY_isEager
    exact go_ndY nn ac pc tm md lo al A La P Lp E D W T U C hn.2 hj _ (br_f (by decide) (go_ndY0 nn ac pc tm md lo al A La P Lp E D W T U C h2 _ (br_t rfl ⟨rfl, R0⟩)))
  refine go_ndX nn ac pc tm md lo al A La P Lp E D W T U C hn.2 hp _ (br_f (by decide) ⟨hv, ?_⟩)
  have hw : vp_in (nI j * 16 + nI p) 256 := pk_in (j * 16 + p) 256 (by omega) (go_ix16 j p)
  cases hE : E (j * 16 + p) with
  | false =>
    refine br_t (go_mz E j p (by omega) hE) ?_
    unfold wpY_isEager
    exact go_ndY nn ac pc tm md lo al A La P Lp E D W T U C hn.2 hj _ (br_f (by decide) (go_ndY nn ac pc tm md lo al A La P Lp E D W T U C hn.2 hp _ (br_f (by decide) ⟨hw, br_t (go_bz E _ hE (go_ix16 j p)) ⟨rfl, R0⟩⟩)))
  | true =>
    refine br_f (go_mn E j p (by omega) hE) ?_
    unfold wpY_isEager
    exact go_ndY nn ac pc tm md lo al A La P Lp E D W T U C hn.2 hj _ (br_f (by decide) (go_ndY nn ac pc tm md lo al A La P Lp E D W T U C hn.2 hp _ (br_f (by decide) ⟨hw, br_f (go_bn E _ hE (go_ix16 j p)) ⟨rfl, R0⟩⟩)))
theorem i_vc_delivered {k : Nat} {u : SX} {v : SY} (I : i_Rel k u v) (hk : k + 3 ≤ 1540) (v1 : Int32) : wpX_delivered (fun r => wpY_delivered (fun r' => r' = r ∧ i_Rel (k + 3) u v) v v1) u v1 := by
  have R0 := i_up I
  obtain ⟨nn, ac, pc, tm, md, lo, al, A, La, P, Lp, E, D, W, T, U, C, ⟨hn, hac, hpc, htm⟩, hmd, hlo, Z, rfl, rfl⟩ := I
  unfold wpX_delivered
  rcases go_cls v1 nn (by omega) with h1 | ⟨j, hj, rfl⟩
  · refine go_ndX0 nn ac pc tm md lo al A La P Lp E D W T U C h1 _ (br_t rfl ?_)
    unfold wpY_delivered
    exact go_ndY0 nn ac pc tm md lo al A La P Lp E D W T U C h1 _ (br_t rfl ⟨rfl, R0⟩)
  have hv : vp_in (nI j) 16 := vp_in_nI (by omega) (by omega)
  refine go_ndX nn ac pc tm md lo al A La P Lp E D W T U C hn.2 hj _ (br_f (by decide) ⟨hv, ?_⟩)
  unfold wpY_delivered
  exact go_ndY nn ac pc tm md lo al A La P Lp E D W T U C hn.2 hj _ (br_f (by decide) (go_dM nn ac pc tm md lo al A La P Lp E D W T U C (show j < 16 by omega) _ ⟨(go_rM D j rfl (by omega)).symm, R0⟩))
theorem i_vc_graftState {k : Nat} {u : SX} {v : SY} (I : i_Rel k u v) (hk : k + 3 ≤ 1540) (v1 : Int32) (v2 : Int32) : wpX_graftState (fun r => wpY_graftState (fun r' => r' = r ∧ i_Rel (k + 3) u v) v v1 v2) u v1 v2 := by
  have R0 := i_up I
  obtain ⟨nn, ac, pc, tm, md, lo, al, A, La, P, Lp, E, D, W, T, U, C, ⟨hn, hac, hpc, htm⟩, hmd, hlo, Z, rfl, rfl⟩ := I
  unfold wpX_graftState
  rcases go_cls v1 nn (by omega) with h1 | ⟨j, hj, rfl⟩
  · refine go_ndX0 nn ac pc tm md lo al A La P Lp E D W T U C h1 _ (br_t rfl ?_)
    unfold wpY_graftState
    exact go_ndY0 nn ac pc tm md lo al A La P Lp E D W T U C h1 _ (br_t rfl ⟨rfl, R0⟩)
  refine go_ndX nn ac pc tm md lo al A La P Lp E D W T U C hn.2 hj _ (br_f (by decide) ?_)
  by_cases hv2 : v2 < 0
  · refine br_t hv2 ?_
    unfold wpY_graftState
    exact go_ndY nn ac pc tm md lo al A La P Lp E D W T U C hn.2 hj _ (br_f (by decide) (br_t hv2 ⟨rfl, R0⟩))
  obtain ⟨b, hb, rfl⟩ := nI_of hv2
  by_cases h16 : b < 16
  · have hw : vp_in (nI (j * 16 + b)) 256 := vp_in_nI (by omega) (by omega)
    refine br_f hv2 (br_t (nI_lt (b := 16) h16 (by omega)) (nm_r (go_ix16 j b) ⟨hw, hw, ?_⟩))
    unfold wpY_graftState
    exact go_ndY nn ac pc tm md lo al A La P Lp E D W T U C hn.2 hj _ (br_f (by decide) (br_f hv2 (br_t (nI_le (b := 15) (by omega) (by omega)) ⟨17, go_gs nn ac pc tm md lo al A La P Lp E D W T U C (show j < 16 by omega) h16 _ ⟨by rw [go_rM W (j * 16 + b), go_rN T (j * 16 + b) rfl (by omega)], R0⟩ 17 0 (by omega) (by omega)⟩)))
  · refine br_f hv2 (br_f (nI_nlt (b := 16) (by omega) (by omega)) ?_)
    unfold wpY_graftState
    exact go_ndY nn ac pc tm md lo al A La P Lp E D W T U C hn.2 hj _ (br_f (by decide) (br_f hv2 (br_f (nI_ge (a := 15) (by omega) (by omega)) ⟨rfl, R0⟩)))
theorem i_vc_lost {k : Nat} {u : SX} {v : SY} (I : i_Rel k u v) (hk : k + 3 ≤ 1540) : wpX_lost (fun r => wpY_lost (fun r' => r' = r ∧ i_Rel (k + 3) u v) v) u := by
  have R0 := i_up I
  obtain ⟨nn, ac, pc, tm, md, lo, al, A, La, P, Lp, E, D, W, T, U, C, ⟨hn, hac, hpc, htm⟩, hmd, hlo, Z, rfl, rfl⟩ := I
  exact ⟨rfl, R0⟩
theorem i_vc_isAlive {k : Nat} {u : SX} {v : SY} (I : i_Rel k u v) (hk : k + 3 ≤ 1540) (v1 : Int32) : wpX_isAlive (fun r => wpY_isAlive (fun r' => r' = r ∧ i_Rel (k + 3) u v) v v1) u v1 := by
  have R0 := i_up I
  obtain ⟨nn, ac, pc, tm, md, lo, al, A, La, P, Lp, E, D, W, T, U, C, ⟨hn, hac, hpc, htm⟩, hmd, hlo, Z, rfl, rfl⟩ := I
  rcases go_cls v1 nn (by omega) with h1 | ⟨j, hj, rfl⟩
  · refine go_alX0 nn ac pc tm md lo al A La P Lp E D W T U C hn.2 (Or.inl h1) _ ?_
    unfold wpY_isAlive
    exact go_ndY0 nn ac pc tm md lo al A La P Lp E D W T U C h1 _ (br_t rfl ⟨rfl, R0⟩)
  have hv : vp_in (nI j) 16 := vp_in_nI (by omega) (by omega)
  cases ha : al j with
  | false =>
    refine go_alX0 nn ac pc tm md lo al A La P Lp E D W T U C hn.2 (Or.inr ⟨j, hj, rfl, ha⟩) _ ?_
    unfold wpY_isAlive
    exact go_ndY nn ac pc tm md lo al A La P Lp E D W T U C hn.2 hj _ (br_f (by decide) ⟨hv, br_t (go_bz al j ha) ⟨rfl, R0⟩⟩)
  | true =>
    refine go_alX nn ac pc tm md lo al A La P Lp E D W T U C hn.2 hj ha _ ?_
    unfold wpY_isAlive
    exact go_ndY nn ac pc tm md lo al A La P Lp E D W T U C hn.2 hj _ (br_f (by decide) ⟨hv, br_f (go_bn al j ha) ⟨rfl, R0⟩⟩)
end
