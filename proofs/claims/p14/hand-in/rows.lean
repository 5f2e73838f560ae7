section
def bt (x : Int32) (i : Nat) : Bool := x.toBitVec.getLsbD i
theorem b_ext {x y : Int32} (h : ∀ i, i < 32 → bt x i = bt y i) : x = y := Int32.toBitVec_inj.mp (BitVec.eq_of_getLsbD_eq (fun i hi => h i hi))
theorem b_or (x y : Int32) (i : Nat) : bt (x ||| y) i = (bt x i || bt y i) := by unfold bt; rw [Int32.toBitVec_or, BitVec.getLsbD_or]
theorem b_and (x y : Int32) (i : Nat) : bt (x &&& y) i = (bt x i && bt y i) := by unfold bt; rw [Int32.toBitVec_and, BitVec.getLsbD_and]
theorem b_xor (x y : Int32) (i : Nat) : bt (x ^^^ y) i = (bt x i ^^ bt y i) := by unfold bt; rw [Int32.toBitVec_xor, BitVec.getLsbD_xor]
theorem b_big {x : Int32} {i : Nat} (h : 32 ≤ i) : bt x i = false := BitVec.getLsbD_of_ge _ _ h
theorem b_65535 (i : Nat) : bt 65535 i = decide (i < 16) := by
  rcases Nat.lt_or_ge i 32 with h | h
  · exact (by decide +kernel : ∀ i, i < 32 → bt 65535 i = decide (i < 16)) i h
  · rw [b_big h, decide_eq_false (by omega)]
theorem b_m1 : ∀ i, i < 32 → bt (-1) i = true := by decide +kernel
theorem b_0 (i : Nat) : bt 0 i = false := BitVec.getLsbD_zero
theorem s_l : ∀ n, n < 32 → ((nI n &&& 31).toBitVec.smod 32).toNat = n := by decide +kernel
theorem b_shl (n : Nat) (hn : n < 32) (x : Int32) {i : Nat} (hi : i < 32) : bt (x <<< (nI n &&& 31)) i = (decide (n ≤ i) && bt x (i - n)) := by
  unfold bt
  rw [Int32.toBitVec_shiftLeft]
  show (x.toBitVec <<< ((nI n &&& 31).toBitVec.smod 32).toNat).getLsbD i = _
  rw [s_l n hn, BitVec.getLsbD_shiftLeft]
  rcases Nat.lt_or_ge i n with h | h
  · simp [h, Nat.not_le.mpr h]
  · simp [hi, h, Nat.not_lt.mpr h]
theorem b_sshr (n : Nat) (hn : n < 32) (x : Int32) {i : Nat} (hi : i < 32) : bt (x >>> (nI n &&& 31)) i = if n + i < 32 then bt x (n + i) else bt x 31 := by
  unfold bt
  rw [Int32.toBitVec_shiftRight]
  show (x.toBitVec.sshiftRight ((nI n &&& 31).toBitVec.smod 32).toNat).getLsbD i = _
  rw [s_l n hn, BitVec.getLsbD_sshiftRight, BitVec.msb_eq_getLsbD_last]
  simp [hi]
end
section
def go_up {α : Type} (f : Nat → α) (k : Nat) (x : α) : Nat → α := fun j => if j = k then x else f j
theorem go_us {α : Type} {f : Nat → α} {k : Nat} {x : α} : go_up f k x k = x := if_pos rfl
theorem go_un {α : Type} {f : Nat → α} {k j : Nat} {x : α} (h : j ≠ k) : go_up f k x j = f j := if_neg h
theorem go_ui {α : Type} (f : Nat → α) (k : Nat) : go_up f k (f k) = f := by
  funext j
  by_cases h : j = k
  · rw [h]; exact go_us
  · exact go_un h
def go_z {α : Type} (f : Nat → α) (v : α) (lo hi : Nat) : Nat → α := fun j => if lo ≤ j ∧ j < hi then v else f j
theorem go_z0 {α : Type} (f : Nat → α) (v : α) (lo : Nat) : go_z f v lo lo = f := funext fun j => if_neg (by omega)
theorem go_zs {α : Type} (f : Nat → α) (v : α) {lo hi : Nat} (h : lo ≤ hi) : go_up (go_z f v lo hi) hi v = go_z f v lo (hi + 1) := by
  funext j
  unfold go_up go_z
  by_cases e : j = hi
  · rw [if_pos e, if_pos (by omega)]
  · rw [if_neg e]
    by_cases g : lo ≤ j ∧ j < hi
    · rw [if_pos g, if_pos (by omega)]
    · rw [if_neg g, if_neg (by omega)]
def go_sh (f : Nat → Nat) (lo hi : Nat) : Nat → Nat := fun t => if lo ≤ t ∧ t < hi then f (t + 1) else f t
theorem go_sh0 (f : Nat → Nat) (lo : Nat) : go_sh f lo lo = f := funext fun j => if_neg (by omega)
theorem go_shs (f : Nat → Nat) {lo hi : Nat} (h : lo ≤ hi) : go_up (go_sh f lo hi) hi (f (hi + 1)) = go_sh f lo (hi + 1) := by
  funext j
  unfold go_up go_sh
  by_cases e : j = hi
  · rw [if_pos e, if_pos (by omega), e]
  · rw [if_neg e]
    by_cases g : lo ≤ j ∧ j < hi
    · rw [if_pos g, if_pos (by omega)]
    · rw [if_neg g, if_neg (by omega)]
theorem go_shr (f : Nat → Nat) {lo hi t : Nat} (h : hi ≤ t) : go_sh f lo hi t = f t := if_neg (by omega)
def go_N (f : Nat → Nat) : Nat → Int32 := fun j => nI (f j)
def go_c (b : Bool) : Int32 := cond b 1 0
def go_B (b : Nat → Bool) : Nat → Int32 := fun j => go_c (b j)
theorem go_Nu (f : Nat → Nat) (k x : Nat) : upd (go_N f) k (nI x) = go_N (go_up f k x) := by
  funext j
  unfold upd go_N go_up
  split <;> rfl
theorem go_Bu (b : Nat → Bool) (k : Nat) (x : Bool) : upd (go_B b) k (go_c x) = go_B (go_up b k x) := by
  funext j
  unfold upd go_B go_up
  split <;> rfl
theorem go_rN {e : Int32} (f : Nat → Nat) (j : Nat) (he : e = nI j) (hj : j < 2 ^ 31) : go_N f e.toNatClampNeg = nI (f j) := by
  subst he
  show nI (f _) = _
  rw [nI_clamp hj]
theorem go_rB {e : Int32} (b : Nat → Bool) (j : Nat) (he : e = nI j) (hj : j < 2 ^ 31) : go_B b e.toNatClampNeg = go_c (b j) := by
  subst he
  show go_c (b _) = _
  rw [nI_clamp hj]
theorem go_c0 {b : Bool} : go_c b = 0 ↔ b = false := by
  cases b
  · exact ⟨fun _ => rfl, fun _ => rfl⟩
  · exact ⟨fun h => absurd h (by decide), fun h => nomatch h⟩
theorem go_bz {e : Int32} (b : Nat → Bool) (j : Nat) (h : b j = false) (he : e = nI j := by rfl) (hj : j < 2 ^ 31 := by omega) : go_B b e.toNatClampNeg = 0 := by
  rw [go_rB b j he hj, h]; rfl
theorem go_bn {e : Int32} (b : Nat → Bool) (j : Nat) (h : b j = true) (he : e = nI j := by rfl) (hj : j < 2 ^ 31 := by omega) : ¬ go_B b e.toNatClampNeg = 0 := by
  rw [go_rB b j he hj, h]; decide
theorem go_brB {e : Int32} {A B : Prop} (b : Nat → Bool) (j : Nat) (f : b j = false → A) (g : b j = true → B) (he : e = nI j := by rfl) (hj : j < 2 ^ 31 := by omega) : (go_B b e.toNatClampNeg = 0 → A) ∧ (¬ go_B b e.toNatClampNeg = 0 → B) := by
  cases h : b j with
  | false => exact br_t (go_bz b j h he hj) (f h)
  | true => exact br_f (go_bn b j h he hj) (g h)
theorem go_ix (x s i : Nat) : nI x * nI s + nI i = nI (x * s + i) := by rw [pk_mul, nI_add]
/-! bits -/
theorem go_b1 : ∀ j, j < 32 → bt 1 j = decide (j = 0) := by decide +kernel
theorem go_1b (k : Nat) (hk : k < 32) {i : Nat} (hi : i < 32) : bt ((1 : Int32) <<< (nI k &&& 31)) i = decide (i = k) := by
  rw [b_shl k hk 1 hi]
  by_cases h : k ≤ i
  · rw [go_b1 (i - k) (by omega), decide_eq_true h, Bool.true_and]
    exact decide_eq_decide.mpr (by omega)
  · rw [decide_eq_false h, Bool.false_and]
    exact (decide_eq_false (by omega)).symm
theorem go_bit (m : Int32) (p : Nat) (hp : p < 32) : (m &&& ((1 : Int32) <<< (nI p &&& 31))) = 0 ↔ bt m p = false := by
  constructor
  · intro h
    have e := congrArg (fun z => bt z p) h
    simp only [b_and, b_0, go_1b p hp hp] at e
    simpa using e
  · intro h
    apply b_ext
    intro i hi
    rw [b_and, b_0, go_1b p hp hi]
    by_cases e : i = p
    · rw [e, h, Bool.false_and]
    · rw [decide_eq_false e, Bool.and_false]
def go_m (f : Nat → Bool) : Nat → Int32
  | 0 => 0
  | k + 1 => cond (f k) (go_m f k ||| ((1 : Int32) <<< (nI k &&& 31))) (go_m f k)
theorem go_mb (f : Nat → Bool) : ∀ k, k ≤ 32 → ∀ i, i < 32 → bt (go_m f k) i = (decide (i < k) && f i) := by
  intro k
  induction k with
  | zero =>
    intro _ i _
    show bt 0 i = _
    rw [b_0, decide_eq_false (by omega), Bool.false_and]
  | succ k ih =>
    intro hk i hi
    show bt (cond (f k) (go_m f k ||| ((1 : Int32) <<< (nI k &&& 31))) (go_m f k)) i = _
    cases hf : f k with
    | false =>
      show bt (go_m f k) i = _
      rw [ih (by omega) i hi]
      by_cases e : i = k
      · rw [e, hf, Bool.and_false, Bool.and_false]
      · rw [decide_eq_decide.mpr (show i < k ↔ i < k + 1 by omega)]
    | true =>
      show bt (go_m f k ||| ((1 : Int32) <<< (nI k &&& 31))) i = _
      rw [b_or, ih (by omega) i hi, go_1b k (by omega) hi]
      by_cases e : i = k
      · rw [e, hf, decide_eq_true (show k < k + 1 by omega), decide_eq_true (rfl : k = k), Bool.or_true]; rfl
      · rw [decide_eq_false e, Bool.or_false, decide_eq_decide.mpr (show i < k ↔ i < k + 1 by omega)]
theorem go_mc {f g : Nat → Bool} : ∀ k, (∀ i, i < k → f i = g i) → go_m f k = go_m g k := by
  intro k
  induction k with
  | zero => intro _; rfl
  | succ k ih =>
    intro h
    unfold go_m
    rw [h k (by omega), ih (fun i hi => h i (by omega))]
def go_M (b : Nat → Bool) : Nat → Int32 := fun c => go_m (fun p => b (c * 16 + p)) 16
theorem go_Mb (b : Nat → Bool) (c i : Nat) (hi : i < 32) : bt (go_M b c) i = (decide (i < 16) && b (c * 16 + i)) := go_mb _ 16 (by omega) i hi
theorem go_Mu (b b' : Nat → Bool) (c : Nat) (v : Int32) (hv : ∀ i, i < 32 → bt v i = (decide (i < 16) && b' (c * 16 + i))) (ho : ∀ j, j / 16 ≠ c → b' j = b j) : upd (go_M b) c v = go_M b' := by
  funext j
  by_cases h : j = c
  · rw [h, pk_us]
    apply b_ext
    intro i hi
    rw [hv i hi, go_Mb b' c i hi]
  · rw [pk_un h]
    exact go_mc 16 (fun i hi => (ho (j * 16 + i) (by omega)).symm)
theorem go_Mset (b : Nat → Bool) (c p : Nat) (hp : p < 16) : upd (go_M b) c (go_M b c ||| ((1 : Int32) <<< (nI p &&& 31))) = go_M (go_up b (c * 16 + p) true) := by
  apply go_Mu
  · intro i hi
    rw [b_or, go_Mb b c i hi, go_1b p (by omega) hi]
    by_cases e : i = p
    · rw [e, go_us, decide_eq_true (rfl : p = p), Bool.or_true, decide_eq_true hp]; rfl
    · rw [decide_eq_false e, Bool.or_false, go_un (by omega)]
  · intro j hj
    exact go_un (by omega)
theorem go_Mclr (b : Nat → Bool) (c p : Nat) (hp : p < 16) : upd (go_M b) c (go_M b c &&& (((1 : Int32) <<< (nI p &&& 31)) ^^^ (-1))) = go_M (go_up b (c * 16 + p) false) := by
  apply go_Mu
  · intro i hi
    rw [b_and, b_xor, b_m1 i hi, go_Mb b c i hi, go_1b p (by omega) hi]
    by_cases e : i = p
    · rw [e, go_us, decide_eq_true (rfl : p = p), Bool.and_false]
      exact Bool.and_false _
    · rw [decide_eq_false e, go_un (by omega)]
      exact Bool.and_true _
  · intro j hj
    exact go_un (by omega)
theorem go_Mz (b : Nat → Bool) (c : Nat) : upd (go_M b) c 0 = go_M (go_z b false (c * 16) (c * 16 + 16)) := by
  apply go_Mu
  · intro i hi
    rw [b_0]
    by_cases e : i < 16
    · rw [show go_z b false (c * 16) (c * 16 + 16) (c * 16 + i) = false from if_pos (by omega), Bool.and_false]
    · rw [decide_eq_false e, Bool.false_and]
  · intro j hj
    exact if_neg (by omega)
theorem go_M0 (b : Nat → Bool) (c : Nat) : go_M b c = 0 ↔ ∀ p, p < 16 → b (c * 16 + p) = false := by
  constructor
  · intro h p hp
    have e := go_Mb b c p (by omega)
    rw [h, b_0, decide_eq_true hp, Bool.true_and] at e
    exact e.symm
  · intro h
    apply b_ext
    intro i hi
    rw [go_Mb b c i hi, b_0]
    by_cases e : i < 16
    · rw [h i e, Bool.and_false]
    · rw [decide_eq_false e, Bool.false_and]
theorem go_Mt (b : Nat → Bool) (c p : Nat) (hp : p < 16) : (go_M b c &&& ((1 : Int32) <<< (nI p &&& 31))) = 0 ↔ b (c * 16 + p) = false := by
  rw [go_bit _ p (by omega), go_Mb b c p (by omega), decide_eq_true hp, Bool.true_and]
theorem go_16 {x : Int32} (h : ∀ i, 16 ≤ i → i < 32 → bt x i = false) : ∃ m, m < 65536 ∧ x = nI m := by
  have e : x = x &&& 65535 := by
    apply b_ext
    intro i hi
    rw [b_and, b_65535]
    by_cases g : i < 16
    · rw [decide_eq_true g, Bool.and_true]
    · rw [decide_eq_false g, Bool.and_false]
      exact h i (by omega) hi
  obtain ⟨j, hj, ej⟩ := pk_andE x (m := 65535) 16 (by decide)
  exact ⟨j, Nat.lt_of_lt_of_le hj (by decide), e.trans ej⟩
theorem go_n16 {m : Nat} (hm : m < 65536) {i : Nat} (h1 : 16 ≤ i) : bt (nI m) i = false := by
  have e := pk_andN (n := m) (by omega) (m := 65535) 16 (by decide)
  rw [Nat.mod_eq_of_lt (show m < 2 ^ 16 from hm)] at e
  rw [← e, b_and, b_65535, decide_eq_false (by omega), Bool.and_false]
theorem go_Mn (b : Nat → Bool) (c : Nat) : ∃ m, m < 65536 ∧ go_M b c = nI m := go_16 (fun i h1 h2 => by rw [go_Mb b c i h2, decide_eq_false (by omega), Bool.false_and])
theorem go_or (a b : Nat) : nI a ||| nI b = nI (a ||| b) := by
  apply Int32.toBitVec_inj.1
  show BitVec.ofNat 32 a ||| BitVec.ofNat 32 b = BitVec.ofNat 32 (a ||| b)
  exact BitVec.ofNat_or.symm
theorem go_code (k x y a : Nat) (hk0 : 0 < k) (hk : k < 128) (hx : x < 16) (hy : y < 16) (ha : a < 65536) : ∃ c, 0 < c ∧ c < 2 ^ 31 ∧ (((nI k <<< ((24 : Int32) &&& 31)) ||| (nI x <<< ((20 : Int32) &&& 31))) ||| (nI y <<< ((16 : Int32) &&& 31))) ||| nI a = nI c := by
  rw [pk_shlN (n := k) ((24 : Int32) &&& 31) 24 (by decide) (by omega), pk_shlN (n := x) ((20 : Int32) &&& 31) 20 (by decide) (by omega), pk_shlN (n := y) ((16 : Int32) &&& 31) 16 (by decide) (by omega), go_or, go_or, go_or]
  refine ⟨_, ?_, ?_, rfl⟩
  · exact Nat.lt_of_lt_of_le (show 0 < k * 2 ^ 24 by omega) (Nat.le_trans Nat.left_le_or (Nat.le_trans Nat.left_le_or Nat.left_le_or))
  · exact Nat.or_lt_two_pow (Nat.or_lt_two_pow (Nat.or_lt_two_pow (by omega) (by omega)) (by omega)) (by omega)
theorem go_fj (w t : Nat) (hw : w < 16) (ht : t < 16) : ∃ a, a < 65536 ∧ nI w ||| (nI t <<< ((4 : Int32) &&& 31)) = nI a := by
  rw [pk_shlN (n := t) ((4 : Int32) &&& 31) 4 (by decide) (by omega), go_or]
  exact ⟨_, Nat.or_lt_two_pow (n := 16) (by omega) (by omega), rfl⟩
theorem go_j48 (w : Nat) (hw : w < 16) : ∃ a, a < 65536 ∧ nI w ||| 48 = nI a := ⟨_, Nat.or_lt_two_pow (n := 16) (y := 48) (by omega) (by omega), go_or w 48⟩
def go_w (f : Nat → Nat) (s : Nat) : Nat → Int32
  | 0 => 0
  | k + 1 => go_w f s k ||| ((1 : Int32) <<< (nI (f (s + k)) &&& 31))
theorem go_w16 {f : Nat → Nat} (hf : ∀ j, f j < 16) (s : Nat) : ∀ k i, 16 ≤ i → i < 32 → bt (go_w f s k) i = false := by
  intro k
  induction k with
  | zero => intro i _ _; exact b_0 i
  | succ k ih =>
    intro i h1 h2
    have := hf (s + k)
    show bt (go_w f s k ||| ((1 : Int32) <<< (nI (f (s + k)) &&& 31))) i = false
    rw [b_or, ih i h1 h2, go_1b _ (by omega) h2, decide_eq_false (by omega)]
    rfl
theorem go_oz (x : Int32) : 0 ||| x = x := b_ext fun i _ => by rw [b_or, b_0, Bool.false_or]
theorem go_zo (x : Int32) : x ||| 0 = x := b_ext fun i _ => by rw [b_or, b_0, Bool.or_false]
theorem go_oa (x y z : Int32) : (x ||| y) ||| z = x ||| (y ||| z) := b_ext fun i _ => by rw [b_or, b_or, b_or, b_or, Bool.or_assoc]
theorem go_oc (x y : Int32) : x ||| y = y ||| x := b_ext fun i _ => by rw [b_or, b_or, Bool.or_comm]
theorem go_first (p : Nat → Prop) (l : Nat) : (∀ i, i < l → ¬ p i) ∨ ∃ i, i < l ∧ p i ∧ ∀ j, j < i → ¬ p j := by
  induction l with
  | zero => exact Or.inl (fun i hi => absurd hi (by omega))
  | succ l ih =>
    rcases ih with h | ⟨i, hi, hp, hj⟩
    · by_cases g : p l
      · exact Or.inr ⟨l, by omega, g, h⟩
      · refine Or.inl (fun i hi => ?_)
        by_cases e : i = l
        · rw [e]; exact g
        · exact h i (by omega)
    · exact Or.inr ⟨i, by omega, hp, hj⟩
/-! the pool -/
def go_S (U : Nat → Bool) (C : Nat → Nat) : Nat → Int32 := fun s => cond (U s) (nI (C s)) 0
def go_IS (U : Nat → Bool) (C : Nat → Nat) : Prop := ∀ s, C s < 2 ^ 31 ∧ (U s = true → 0 < C s)
theorem go_St (U : Nat → Bool) (C : Nat → Nat) (s c : Nat) : upd (go_S U C) s (nI c) = go_S (go_up U s true) (go_up C s c) := by
  funext j
  unfold upd go_S go_up
  split <;> rfl
theorem go_Sf (U : Nat → Bool) (C : Nat → Nat) (s : Nat) : upd (go_S U C) s 0 = go_S (go_up U s false) C := by
  funext j
  unfold upd go_S go_up
  split <;> rfl
theorem go_S0 {U : Nat → Bool} {C : Nat → Nat} (I : go_IS U C) {e : Int32} (s : Nat) (he : e = nI s := by rfl) (hs : s < 2 ^ 31 := by omega) : go_S U C e.toNatClampNeg = 0 ↔ U s = false := by
  subst he
  rw [nI_clamp hs]
  unfold go_S
  obtain ⟨h1, h2⟩ := I s
  cases h : U s with
  | false => exact ⟨fun _ => rfl, fun _ => rfl⟩
  | true => exact ⟨fun z => absurd z (nI_ne0 (h2 h) h1), fun z => nomatch z⟩
theorem go_ISt {U : Nat → Bool} {C : Nat → Nat} (I : go_IS U C) (s c : Nat) (h0 : 0 < c) (hc : c < 2 ^ 31) : go_IS (go_up U s true) (go_up C s c) := by
  intro j
  by_cases e : j = s
  · rw [e, go_us, go_us]; exact ⟨hc, fun _ => h0⟩
  · rw [go_un e, go_un e]; exact I j
theorem go_ISf {U : Nat → Bool} {C : Nat → Nat} (I : go_IS U C) (s : Nat) : go_IS (go_up U s false) C := by
  intro j
  by_cases e : j = s
  · rw [e, go_us]; exact ⟨(I s).1, fun z => nomatch z⟩
  · rw [go_un e]; exact I j
end
section
def go_IV4 (cap : Nat) (A L : Nat → Nat) : Prop := (∀ j, A j < 16) ∧ (∀ x, L x ≤ cap) ∧ (∀ x i j, i < j → j < L x → A (x * 4 + i) ≠ A (x * 4 + j))
theorem go_rm4_at {A : Nat → Nat} {x l i0 : Nat} (hi : i0 < l) {t : Nat} (ht : t < l - 1) : go_sh A (x * 4 + i0) (x * 4 + (l - 1)) (x * 4 + t) = A (x * 4 + (if t < i0 then t else t + 1)) := by
  unfold go_sh
  by_cases g : t < i0
  · rw [if_neg (by omega), if_pos g]
  · rw [if_pos (by omega), if_neg g]; rfl
theorem go_rm4_o {A : Nat → Nat} {x z l i0 i : Nat} (hl : l ≤ 4) (hi : i < 4) (h : z ≠ x) : go_sh A (x * 4 + i0) (x * 4 + (l - 1)) (z * 4 + i) = A (z * 4 + i) := if_neg (by omega)
theorem go_rm4 {cap : Nat} {A L : Nat → Nat} {x i0 : Nat} (hc : cap ≤ 4) (I : go_IV4 cap A L) (hi : i0 < L x) : go_IV4 cap (go_sh A (x * 4 + i0) (x * 4 + (L x - 1))) (go_up L x (L x - 1)) := by
  obtain ⟨h1, h2, h3⟩ := I
  have hl := h2 x
  refine ⟨?_, ?_, ?_⟩
  · intro j
    unfold go_sh
    split
    · exact h1 _
    · exact h1 _
  · intro z
    by_cases e : z = x
    · rw [e, go_us]; omega
    · rw [go_un e]; exact h2 z
  · intro z i j hij hj
    by_cases e : z = x
    · rw [e, go_us] at hj
      rw [e, go_rm4_at hi (by omega), go_rm4_at hi hj]
      refine h3 x _ _ ?_ ?_
      · split <;> split <;> omega
      · split <;> omega
    · rw [go_un e] at hj
      have hz := h2 z
      rw [go_rm4_o (by omega) (by omega) e, go_rm4_o (by omega) (by omega) e]
      exact h3 z i j hij hj
theorem go_ap4 {cap : Nat} {A L : Nat → Nat} {x y : Nat} (hc : cap ≤ 4) (I : go_IV4 cap A L) (hl : L x < cap) (hy : y < 16) (hn : ∀ i, i < L x → A (x * 4 + i) ≠ y) : go_IV4 cap (go_up A (x * 4 + L x) y) (go_up L x (L x + 1)) := by
  obtain ⟨h1, h2, h3⟩ := I
  refine ⟨?_, ?_, ?_⟩
  · intro j
    by_cases e : j = x * 4 + L x
    · rw [e, go_us]; exact hy
    · rw [go_un e]; exact h1 j
  · intro z
    by_cases e : z = x
    · rw [e, go_us]; omega
    · rw [go_un e]; exact h2 z
  · intro z i j hij hj
    by_cases e : z = x
    · rw [e, go_us] at hj
      rw [e, go_un (show x * 4 + i ≠ x * 4 + L x by omega)]
      by_cases g : j = L x
      · rw [g, go_us]; exact hn i (by omega)
      · rw [go_un (show x * 4 + j ≠ x * 4 + L x by omega)]; exact h3 x i j hij (by omega)
    · rw [go_un e] at hj
      have hz := h2 z
      rw [go_un (show z * 4 + i ≠ x * 4 + L x by omega), go_un (show z * 4 + j ≠ x * 4 + L x by omega)]
      exact h3 z i j hij hj
theorem go_cl4 {cap : Nat} {A L : Nat → Nat} (I : go_IV4 cap A L) (x : Nat) : go_IV4 cap A (go_up L x 0) := by
  obtain ⟨h1, h2, h3⟩ := I
  refine ⟨h1, ?_, ?_⟩
  · intro z
    by_cases e : z = x
    · rw [e, go_us]; omega
    · rw [go_un e]; exact h2 z
  · intro z i j hij hj
    by_cases e : z = x
    · rw [e, go_us] at hj; omega
    · rw [go_un e] at hj; exact h3 z i j hij hj
def go_IV8 (cap : Nat) (A L : Nat → Nat) : Prop := (∀ j, A j < 16) ∧ (∀ x, L x ≤ cap) ∧ (∀ x i j, i < j → j < L x → A (x * 8 + i) ≠ A (x * 8 + j))
theorem go_rm8_at {A : Nat → Nat} {x l i0 : Nat} (hi : i0 < l) {t : Nat} (ht : t < l - 1) : go_sh A (x * 8 + i0) (x * 8 + (l - 1)) (x * 8 + t) = A (x * 8 + (if t < i0 then t else t + 1)) := by
  unfold go_sh
  by_cases g : t < i0
  · rw [if_neg (by omega), if_pos g]
  · rw [if_pos (by omega), if_neg g]; rfl
theorem go_rm8_o {A : Nat → Nat} {x z l i0 i : Nat} (hl : l ≤ 8) (hi : i < 8) (h : z ≠ x) : go_sh A (x * 8 + i0) (x * 8 + (l - 1)) (z * 8 + i) = A (z * 8 + i) := if_neg (by omega)
theorem go_rm8 {cap : Nat} {A L : Nat → Nat} {x i0 : Nat} (hc : cap ≤ 8) (I : go_IV8 cap A L) (hi : i0 < L x) : go_IV8 cap (go_sh A (x * 8 + i0) (x * 8 + (L x - 1))) (go_up L x (L x - 1)) := by
  obtain ⟨h1, h2, h3⟩ := I
  have hl := h2 x
  refine ⟨?_, ?_, ?_⟩
  · intro j
    unfold go_sh
    split
    · exact h1 _
    · exact h1 _
  · intro z
    by_cases e : z = x
    · rw [e, go_us]; omega
    · rw [go_un e]; exact h2 z
  · intro z i j hij hj
    by_cases e : z = x
    · rw [e, go_us] at hj
      rw [e, go_rm8_at hi (by omega), go_rm8_at hi hj]
      refine h3 x _ _ ?_ ?_
      · split <;> split <;> omega
      · split <;> omega
    · rw [go_un e] at hj
      have hz := h2 z
      rw [go_rm8_o (by omega) (by omega) e, go_rm8_o (by omega) (by omega) e]
      exact h3 z i j hij hj
theorem go_ap8 {cap : Nat} {A L : Nat → Nat} {x y : Nat} (hc : cap ≤ 8) (I : go_IV8 cap A L) (hl : L x < cap) (hy : y < 16) (hn : ∀ i, i < L x → A (x * 8 + i) ≠ y) : go_IV8 cap (go_up A (x * 8 + L x) y) (go_up L x (L x + 1)) := by
  obtain ⟨h1, h2, h3⟩ := I
  refine ⟨?_, ?_, ?_⟩
  · intro j
    by_cases e : j = x * 8 + L x
    · rw [e, go_us]; exact hy
    · rw [go_un e]; exact h1 j
  · intro z
    by_cases e : z = x
    · rw [e, go_us]; omega
    · rw [go_un e]; exact h2 z
  · intro z i j hij hj
    by_cases e : z = x
    · rw [e, go_us] at hj
      rw [e, go_un (show x * 8 + i ≠ x * 8 + L x by omega)]
      by_cases g : j = L x
      · rw [g, go_us]; exact hn i (by omega)
      · rw [go_un (show x * 8 + j ≠ x * 8 + L x by omega)]; exact h3 x i j hij (by omega)
    · rw [go_un e] at hj
      have hz := h2 z
      rw [go_un (show z * 8 + i ≠ x * 8 + L x by omega), go_un (show z * 8 + j ≠ x * 8 + L x by omega)]
      exact h3 z i j hij hj
theorem go_cl8 {cap : Nat} {A L : Nat → Nat} (I : go_IV8 cap A L) (x : Nat) : go_IV8 cap A (go_up L x 0) := by
  obtain ⟨h1, h2, h3⟩ := I
  refine ⟨h1, ?_, ?_⟩
  · intro z
    by_cases e : z = x
    · rw [e, go_us]; omega
    · rw [go_un e]; exact h2 z
  · intro z i j hij hj
    by_cases e : z = x
    · rw [e, go_us] at hj; omega
    · rw [go_un e] at hj; exact h3 z i j hij hj
/-- the eager set is a part of the active view -/
def go_IE (A L : Nat → Nat) (E : Nat → Bool) : Prop := ∀ x p, p < 16 → E (x * 16 + p) = true → ∃ i, i < L x ∧ A (x * 4 + i) = p
theorem go_rmE {cap : Nat} {A L : Nat → Nat} {E : Nat → Bool} {x y i0 : Nat} (hc : cap ≤ 4) (I : go_IV4 cap A L) (J : go_IE A L E) (hi : i0 < L x) (hy : A (x * 4 + i0) = y) : go_IE (go_sh A (x * 4 + i0) (x * 4 + (L x - 1))) (go_up L x (L x - 1)) (go_up E (x * 16 + y) false) := by
  have hl := I.2.1 x
  have hy16 : y < 16 := by rw [← hy]; exact I.1 _
  intro z p hp hE
  by_cases e : z = x
  · rw [e] at hE ⊢
    by_cases g : p = y
    · rw [g, go_us] at hE; exact absurd hE (by decide)
    · rw [go_un (show x * 16 + p ≠ x * 16 + y by omega)] at hE
      obtain ⟨i, h1, h2⟩ := J x p hp hE
      rw [go_us]
      have hne : i ≠ i0 := fun q => g (by rw [← h2, q, hy])
      by_cases d : i < i0
      · refine ⟨i, by omega, ?_⟩
        rw [go_rm4_at hi (by omega), if_pos d]; exact h2
      · refine ⟨i - 1, by omega, ?_⟩
        rw [go_rm4_at hi (by omega), if_neg (by omega), show i - 1 + 1 = i by omega]; exact h2
  · rw [go_un (show z * 16 + p ≠ x * 16 + y by omega)] at hE
    obtain ⟨i, h1, h2⟩ := J z p hp hE
    have hz := I.2.1 z
    rw [go_un e]
    refine ⟨i, h1, ?_⟩
    rw [go_rm4_o (by omega) (by omega) e]; exact h2
theorem go_apE {cap : Nat} {A L : Nat → Nat} {E : Nat → Bool} {x y : Nat} (hc : cap ≤ 4) (I : go_IV4 cap A L) (J : go_IE A L E) (hl : L x < cap) (hy : y < 16) : go_IE (go_up A (x * 4 + L x) y) (go_up L x (L x + 1)) (go_up E (x * 16 + y) true) := by
  intro z p hp hE
  have hz := I.2.1 z
  by_cases e : z = x
  · rw [e] at hE ⊢
    rw [go_us]
    by_cases g : p = y
    · exact ⟨L x, by omega, by rw [go_us, g]⟩
    · rw [go_un (show x * 16 + p ≠ x * 16 + y by omega)] at hE
      obtain ⟨i, h1, h2⟩ := J x p hp hE
      exact ⟨i, by omega, by rw [go_un (show x * 4 + i ≠ x * 4 + L x by omega)]; exact h2⟩
  · rw [go_un (show z * 16 + p ≠ x * 16 + y by omega)] at hE
    obtain ⟨i, h1, h2⟩ := J z p hp hE
    rw [go_un e]
    exact ⟨i, h1, by rw [go_un (show z * 4 + i ≠ x * 4 + L x by omega)]; exact h2⟩
theorem go_Eclr {A L : Nat → Nat} {E : Nat → Bool} (J : go_IE A L E) (k : Nat) : go_IE A L (go_up E k false) := by
  intro z p hp hE
  by_cases e : z * 16 + p = k
  · rw [e, go_us] at hE; exact absurd hE (by decide)
  · rw [go_un e] at hE; exact J z p hp hE
theorem go_Eset {A L : Nat → Nat} {E : Nat → Bool} (J : go_IE A L E) {x y i : Nat} (hy : y < 16) (hi : i < L x) (h : A (x * 4 + i) = y) : go_IE A L (go_up E (x * 16 + y) true) := by
  intro z p hp hE
  by_cases e : z * 16 + p = x * 16 + y
  · have e1 : z = x := by omega
    have e2 : p = y := by omega
    rw [e1, e2]; exact ⟨i, hi, h⟩
  · rw [go_un e] at hE; exact J z p hp hE
theorem go_Erow {A L : Nat → Nat} {E : Nat → Bool} (J : go_IE A L E) (x : Nat) : go_IE A (go_up L x 0) (go_z E false (x * 16) (x * 16 + 16)) := by
  intro z p hp hE
  by_cases e : z = x
  · rw [show go_z E false (x * 16) (x * 16 + 16) (z * 16 + p) = false from if_pos (by omega)] at hE; exact absurd hE (by decide)
  · rw [show go_z E false (x * 16) (x * 16 + 16) (z * 16 + p) = E (z * 16 + p) from if_neg (by omega)] at hE
    rw [go_un e]; exact J z p hp hE
theorem go_Eno {A L : Nat → Nat} {E : Nat → Bool} (J : go_IE A L E) {x y : Nat} (hy : y < 16) (h : ∀ i, i < L x → A (x * 4 + i) ≠ y) : go_up E (x * 16 + y) false = E := by
  funext j
  by_cases e : j = x * 16 + y
  · rw [e, go_us]
    cases g : E (x * 16 + y) with
    | false => rfl
    | true =>
      obtain ⟨i, h1, h2⟩ := J x y hy g
      exact absurd h2 (h i h1)
  · exact go_un e
end
section
/-! stores over a row's chosen ids: v at every x * 16 + i, i < b, with bit i in g -/
def go_ov {α : Type} (f : Nat → α) (v : α) (x : Nat) (g : Int32) (b : Nat) : Nat → α := fun j => if x * 16 ≤ j ∧ j < x * 16 + b ∧ bt g (j - x * 16) = true then v else f j
theorem go_ov0 {α : Type} (f : Nat → α) (v : α) (x : Nat) (g : Int32) : go_ov f v x g 0 = f := funext fun j => if_neg (fun h => absurd h.2.1 (by have := h.1; omega))
theorem go_ovt {α : Type} (f : Nat → α) (v : α) (x : Nat) {g : Int32} {b : Nat} (h : bt g b = true) : go_up (go_ov f v x g b) (x * 16 + b) v = go_ov f v x g (b + 1) := by
  funext j
  unfold go_up go_ov
  by_cases e : j = x * 16 + b
  · rw [if_pos e, if_pos ⟨by omega, by omega, by rw [e, Nat.add_sub_cancel_left]; exact h⟩]
  · rw [if_neg e]
    by_cases q : x * 16 ≤ j ∧ j < x * 16 + b ∧ bt g (j - x * 16) = true
    · rw [if_pos q, if_pos ⟨q.1, by have := q.2.1; omega, q.2.2⟩]
    · rw [if_neg q, if_neg (fun z => q ⟨z.1, by have := z.2.1; omega, z.2.2⟩)]
theorem go_ovf {α : Type} (f : Nat → α) (v : α) (x : Nat) {g : Int32} {b : Nat} (h : bt g b = false) : go_ov f v x g b = go_ov f v x g (b + 1) := by
  funext j
  unfold go_ov
  by_cases q : x * 16 ≤ j ∧ j < x * 16 + b ∧ bt g (j - x * 16) = true
  · rw [if_pos q, if_pos ⟨q.1, by have := q.2.1; omega, q.2.2⟩]
  · rw [if_neg q, if_neg]
    intro z
    by_cases e : j = x * 16 + b
    · have w := z.2.2
      rw [e, Nat.add_sub_cancel_left, h] at w
      exact absurd w (by decide)
    · exact q ⟨z.1, by have := z.2.1; omega, z.2.2⟩
def go_oW (f : Nat → Bool) (x : Nat) (g : Int32) (b : Nat) : Nat → Bool := fun j => if x * 16 ≤ j / 16 ∧ j / 16 < x * 16 + b ∧ bt g (j / 16 - x * 16) = true then false else f j
theorem go_oW0 (f : Nat → Bool) (x : Nat) (g : Int32) : go_oW f x g 0 = f := funext fun j => if_neg (fun h => absurd h.2.1 (by have := h.1; omega))
theorem go_oWt (f : Nat → Bool) (x : Nat) {g : Int32} {b : Nat} (h : bt g b = true) : go_z (go_oW f x g b) false ((x * 16 + b) * 16) ((x * 16 + b) * 16 + 16) = go_oW f x g (b + 1) := by
  funext j
  unfold go_z go_oW
  by_cases e : j / 16 = x * 16 + b
  · rw [if_pos (by omega), if_pos ⟨by omega, by omega, by rw [e, Nat.add_sub_cancel_left]; exact h⟩]
  · rw [if_neg (by omega)]
    by_cases q : x * 16 ≤ j / 16 ∧ j / 16 < x * 16 + b ∧ bt g (j / 16 - x * 16) = true
    · rw [if_pos q, if_pos ⟨q.1, by have := q.2.1; omega, q.2.2⟩]
    · rw [if_neg q, if_neg (fun z => q ⟨z.1, by have := z.2.1; omega, z.2.2⟩)]
theorem go_oWf (f : Nat → Bool) (x : Nat) {g : Int32} {b : Nat} (h : bt g b = false) : go_oW f x g b = go_oW f x g (b + 1) := by
  funext j
  unfold go_oW
  by_cases q : x * 16 ≤ j / 16 ∧ j / 16 < x * 16 + b ∧ bt g (j / 16 - x * 16) = true
  · rw [if_pos q, if_pos ⟨q.1, by have := q.2.1; omega, q.2.2⟩]
  · rw [if_neg q, if_neg]
    intro z
    by_cases e : j / 16 = x * 16 + b
    · have w := z.2.2
      rw [e, Nat.add_sub_cancel_left, h] at w
      exact absurd w (by decide)
    · exact q ⟨z.1, by have := z.2.1; omega, z.2.2⟩
theorem go_Dor (D : Nat → Bool) (x : Nat) (g : Int32) (hg : ∀ i, 16 ≤ i → i < 32 → bt g i = false) : upd (go_M D) x (go_M D x ||| g) = go_M (go_ov D true x g 16) := by
  apply go_Mu
  · intro i hi
    rw [b_or, go_Mb D x i hi]
    unfold go_ov
    by_cases h16 : i < 16
    · cases hb : bt g i with
      | true =>
        rw [if_pos ⟨by omega, by omega, by rw [Nat.add_sub_cancel_left]; exact hb⟩, Bool.or_true, decide_eq_true h16]; rfl
      | false =>
        rw [if_neg, Bool.or_false]
        intro z
        have w := z.2.2
        rw [Nat.add_sub_cancel_left, hb] at w
        exact absurd w (by decide)
    · rw [decide_eq_false h16, Bool.false_and, Bool.false_and, Bool.false_or]
      exact hg i (by omega) hi
  · intro j hj
    exact if_neg (fun z => by have := z.1; have := z.2.1; omega)
theorem go_and16 {a : Nat} (ha : a < 65536) (z : Int32) : (nI a &&& z) &&& 65535 = nI a &&& z := by
  apply b_ext
  intro i hi
  rw [b_and, b_and, b_65535]
  by_cases h : i < 16
  · rw [decide_eq_true h, Bool.and_true]
  · rw [go_n16 ha (by omega), Bool.false_and, Bool.false_and]
theorem go_and16n {a : Nat} (ha : a < 65536) (z : Int32) : ∃ g, g < 65536 ∧ nI a &&& z = nI g := go_16 (fun i h1 _ => by rw [b_and, go_n16 ha h1, Bool.false_and])
theorem go_bm (m b : Nat) (hb : b < 16) : (nI m &&& ((1 : Int32) <<< (nI b &&& 31))) = 0 ↔ bt (nI m) b = false := go_bit _ b (by omega)
theorem go_1n (b : Nat) (hb : b < 16) : ∃ a, 0 < a ∧ a < 65536 ∧ (1 : Int32) <<< (nI b &&& 31) = nI a := by
  obtain ⟨a, h1, h2⟩ := go_16 (x := (1 : Int32) <<< (nI b &&& 31)) (fun i h1 h2 => by rw [go_1b b (by omega) h2, decide_eq_false (by omega)])
  refine ⟨a, ?_, h1, h2⟩
  rcases Nat.eq_zero_or_pos a with h | h
  · exfalso
    have e := go_1b b (by omega) (i := b) (by omega)
    rw [h2, h, nI_0, b_0] at e
    simp at e
  · exact h
end
section
/-! stores and reads at an index e with e = nI j -/
theorem go_vt : vp_nar .boolean 1 = go_c true := rfl
theorem go_vf : vp_nar .boolean 0 = go_c false := rfl
theorem go_uN {e v : Int32} (f : Nat → Nat) (j w : Nat) (hv : v = nI w) (he : e = nI j := by rfl) (hj : j < 2 ^ 31 := by omega) : upd (go_N f) e.toNatClampNeg v = go_N (go_up f j w) := by
  subst he hv
  rw [nI_clamp hj]
  exact go_Nu f j w
theorem go_uB {e v : Int32} (b : Nat → Bool) (j : Nat) (w : Bool) (hv : v = go_c w) (he : e = nI j := by rfl) (hj : j < 2 ^ 31 := by omega) : upd (go_B b) e.toNatClampNeg v = go_B (go_up b j w) := by
  subst he hv
  rw [nI_clamp hj]
  exact go_Bu b j w
theorem go_rM {e : Int32} (b : Nat → Bool) (c : Nat) (he : e = nI c := by rfl) (hc : c < 2 ^ 31 := by omega) : go_M b e.toNatClampNeg = go_M b c := by
  subst he
  rw [nI_clamp hc]
theorem go_uMs {e : Int32} (b : Nat → Bool) (c p : Nat) (hp : p < 16) (he : e = nI c := by rfl) (hc : c < 2 ^ 31 := by omega) : upd (go_M b) e.toNatClampNeg (go_M b e.toNatClampNeg ||| ((1 : Int32) <<< (nI p &&& 31))) = go_M (go_up b (c * 16 + p) true) := by
  subst he
  rw [nI_clamp hc]
  exact go_Mset b c p hp
theorem go_uMc {e : Int32} (b : Nat → Bool) (c p : Nat) (hp : p < 16) (he : e = nI c := by rfl) (hc : c < 2 ^ 31 := by omega) : upd (go_M b) e.toNatClampNeg (go_M b e.toNatClampNeg &&& (((1 : Int32) <<< (nI p &&& 31)) ^^^ (-1))) = go_M (go_up b (c * 16 + p) false) := by
  subst he
  rw [nI_clamp hc]
  exact go_Mclr b c p hp
theorem go_uMz {e : Int32} (b : Nat → Bool) (c : Nat) (he : e = nI c := by rfl) (hc : c < 2 ^ 31 := by omega) : upd (go_M b) e.toNatClampNeg 0 = go_M (go_z b false (c * 16) (c * 16 + 16)) := by
  subst he
  rw [nI_clamp hc]
  exact go_Mz b c
theorem go_brM {e : Int32} {A B : Prop} (b : Nat → Bool) (c p : Nat) (hp : p < 16) (f : b (c * 16 + p) = false → A) (g : b (c * 16 + p) = true → B) (he : e = nI c := by rfl) (hc : c < 2 ^ 31 := by omega) : ((go_M b e.toNatClampNeg &&& ((1 : Int32) <<< (nI p &&& 31))) = 0 → A) ∧ (¬ (go_M b e.toNatClampNeg &&& ((1 : Int32) <<< (nI p &&& 31))) = 0 → B) := by
  subst he
  rw [nI_clamp hc]
  cases h : b (c * 16 + p) with
  | false => exact br_t ((go_Mt b c p hp).mpr h) (f h)
  | true => exact br_f (fun z => by rw [(go_Mt b c p hp).mp z] at h; exact absurd h (by decide)) (g h)
theorem go_brb {A B : Prop} (m p : Nat) (hp : p < 16) (f : bt (nI m) p = false → A) (g : bt (nI m) p = true → B) : ((nI m &&& ((1 : Int32) <<< (nI p &&& 31))) = 0 → A) ∧ (¬ (nI m &&& ((1 : Int32) <<< (nI p &&& 31))) = 0 → B) := by
  cases h : bt (nI m) p with
  | false => exact br_t ((go_bm m p hp).mpr h) (f h)
  | true => exact br_f (fun z => by rw [(go_bm m p hp).mp z] at h; exact absurd h (by decide)) (g h)
theorem go_brS {e : Int32} {A B : Prop} {U : Nat → Bool} {C : Nat → Nat} (I : go_IS U C) (s : Nat) (f : U s = false → A) (g : U s = true → B) (he : e = nI s := by rfl) (hs : s < 2 ^ 31 := by omega) : (go_S U C e.toNatClampNeg = 0 → A) ∧ (¬ go_S U C e.toNatClampNeg = 0 → B) := by
  cases h : U s with
  | false => exact br_t ((go_S0 I s he hs).mpr h) (f h)
  | true => exact br_f (fun z => by rw [(go_S0 I s he hs).mp z] at h; exact absurd h (by decide)) (g h)
theorem go_uSt {e v : Int32} (U : Nat → Bool) (C : Nat → Nat) (s c : Nat) (hv : v = nI c) (he : e = nI s := by rfl) (hs : s < 2 ^ 31 := by omega) : upd (go_S U C) e.toNatClampNeg v = go_S (go_up U s true) (go_up C s c) := by
  subst he hv
  rw [nI_clamp hs]
  exact go_St U C s c
theorem go_uSf {e : Int32} (U : Nat → Bool) (C : Nat → Nat) (s : Nat) (he : e = nI s := by rfl) (hs : s < 2 ^ 31 := by omega) : upd (go_S U C) e.toNatClampNeg 0 = go_S (go_up U s false) C := by
  subst he
  rw [nI_clamp hs]
  exact go_Sf U C s
theorem go_rS {e : Int32} {U : Nat → Bool} {C : Nat → Nat} (s : Nat) (h : U s = true) (he : e = nI s := by rfl) (hs : s < 2 ^ 31 := by omega) : go_S U C e.toNatClampNeg = nI (C s) := by
  subst he
  rw [nI_clamp hs]
  unfold go_S
  rw [h]
  rfl
theorem go_d24 {c : Nat} (hc : c < 2 ^ 31) : nI c >>> ((24 : Int32) &&& 31) = nI (c / 2 ^ 24) := pk_shrN hc _ 24 (by decide)
theorem go_d255 {c : Nat} (hc : c < 2 ^ 31) : (nI c >>> ((24 : Int32) &&& 31)) &&& 255 = nI (c / 2 ^ 24) := by
  rw [go_d24 hc, pk_andN (by omega) 8 (by decide), Nat.mod_eq_of_lt (by omega)]
theorem go_d20 {c : Nat} (hc : c < 2 ^ 31) : (nI c >>> ((20 : Int32) &&& 31)) &&& 15 = nI (c / 2 ^ 20 % 2 ^ 4) := by
  rw [pk_shrN hc _ 20 (by decide), pk_andN (by omega) 4 (by decide)]
theorem go_d16 {c : Nat} (hc : c < 2 ^ 31) : (nI c >>> ((16 : Int32) &&& 31)) &&& 15 = nI (c / 2 ^ 16 % 2 ^ 4) := by
  rw [pk_shrN hc _ 16 (by decide), pk_andN (by omega) 4 (by decide)]
theorem go_d4 {c : Nat} (hc : c < 2 ^ 31) : (nI c >>> ((4 : Int32) &&& 31)) &&& 15 = nI (c / 2 ^ 4 % 2 ^ 4) := by
  rw [pk_shrN hc _ 4 (by decide), pk_andN (by omega) 4 (by decide)]
theorem go_d0 {c : Nat} (hc : c < 2 ^ 31) : nI c &&& 65535 = nI (c % 2 ^ 16) := pk_andN (by omega) 16 (by decide)
theorem go_dw {c : Nat} (hc : c < 2 ^ 31) : nI c &&& 15 = nI (c % 2 ^ 4) := pk_andN (by omega) 4 (by decide)
theorem go_0f : (0 : Int32) = nI 0 := rfl
theorem go_mz {e : Int32} (b : Nat → Bool) (c p : Nat) (hp : p < 16) (h : b (c * 16 + p) = false) (he : e = nI c := by rfl) (hc : c < 2 ^ 31 := by omega) : (go_M b e.toNatClampNeg &&& ((1 : Int32) <<< (nI p &&& 31))) = 0 := by
  rw [go_rM b c he hc]
  exact (go_Mt b c p hp).mpr h
theorem go_mn {e : Int32} (b : Nat → Bool) (c p : Nat) (hp : p < 16) (h : b (c * 16 + p) = true) (he : e = nI c := by rfl) (hc : c < 2 ^ 31 := by omega) : ¬ (go_M b e.toNatClampNeg &&& ((1 : Int32) <<< (nI p &&& 31))) = 0 := by
  rw [go_rM b c he hc, go_Mt b c p hp, h]
  decide
theorem go_ix4 (x i : Nat) : nI x * 4 + nI i = nI (x * 4 + i) := go_ix x 4 i
theorem go_ix8 (x i : Nat) : nI x * 8 + nI i = nI (x * 8 + i) := go_ix x 8 i
theorem go_ix16 (x i : Nat) : nI x * 16 + nI i = nI (x * 16 + i) := go_ix x 16 i
end
section
/-! messages in the pool, by their codes -/
def go_cd (k x y a : Nat) : Nat := k * 16777216 + x * 1048576 + y * 65536 + a
theorem go_cdI (k x y a : Nat) (hk : k < 128) (hx : x < 16) (hy : y < 16) (ha : a < 65536) : (((nI k <<< ((24 : Int32) &&& 31)) ||| (nI x <<< ((20 : Int32) &&& 31))) ||| (nI y <<< ((16 : Int32) &&& 31))) ||| nI a = nI (go_cd k x y a) := by
  rw [pk_shlN (n := k) ((24 : Int32) &&& 31) 24 (by decide) (by omega), pk_shlN (n := x) ((20 : Int32) &&& 31) 20 (by decide) (by omega), pk_shlN (n := y) ((16 : Int32) &&& 31) 16 (by decide) (by omega), go_or, go_or, go_or]
  have e1 : k * 2 ^ 24 ||| x * 2 ^ 20 = 2 ^ 20 * (k * 16 + x) := by
    have h := Nat.two_pow_add_eq_or_of_lt (i := 24) (b := x * 2 ^ 20) (by omega) k
    rw [Nat.mul_comm k, ← h]
    omega
  have e2 : 2 ^ 20 * (k * 16 + x) ||| y * 2 ^ 16 = 2 ^ 16 * ((k * 16 + x) * 16 + y) := by
    have h := Nat.two_pow_add_eq_or_of_lt (i := 20) (b := y * 2 ^ 16) (by omega) (k * 16 + x)
    rw [← h]
    omega
  have e3 : 2 ^ 16 * ((k * 16 + x) * 16 + y) ||| a = go_cd k x y a := by
    have h := Nat.two_pow_add_eq_or_of_lt (i := 16) (b := a) (by omega) ((k * 16 + x) * 16 + y)
    rw [← h]
    unfold go_cd
    omega
  rw [e1, e2, e3]
theorem go_cdb {k x y a : Nat} (hk0 : 0 < k) (hk : k < 128) (hx : x < 16) (hy : y < 16) (ha : a < 65536) : 0 < go_cd k x y a ∧ go_cd k x y a < 2 ^ 31 ∧ go_cd k x y a / 2 ^ 24 = k ∧ go_cd k x y a / 2 ^ 20 % 2 ^ 4 = x ∧ go_cd k x y a / 2 ^ 16 % 2 ^ 4 = y ∧ go_cd k x y a % 2 ^ 16 = a := by
  unfold go_cd
  omega
theorem go_lowb {c b : Nat} (hc : c < 2 ^ 31) (hb : b < 16) : bt (nI (c % 2 ^ 16)) b = bt (nI c) b := by
  rw [← go_d0 hc, b_and, b_65535, decide_eq_true hb, Bool.and_true]
def go_pe (U : Nat → Bool) (C : Nat → Nat) (lo : Nat) (U' : Nat → Bool) (C' : Nat → Nat) (lo' : Nat) (N : Nat → Prop) : Prop := (∀ s, U s = true → U' s = true ∧ C' s = C s) ∧ (∀ s, U' s = true → (U s = true ∧ C' s = C s) ∨ N (C' s)) ∧ lo ≤ lo'
theorem go_pe0 (U : Nat → Bool) (C : Nat → Nat) (lo : Nat) (N : Nat → Prop) : go_pe U C lo U C lo N := ⟨fun _ h => ⟨h, rfl⟩, fun _ h => Or.inl ⟨h, rfl⟩, Nat.le_refl _⟩
theorem go_pet {U U1 U2 : Nat → Bool} {C C1 C2 : Nat → Nat} {lo lo1 lo2 : Nat} {N : Nat → Prop} (h1 : go_pe U C lo U1 C1 lo1 N) (h2 : go_pe U1 C1 lo1 U2 C2 lo2 N) : go_pe U C lo U2 C2 lo2 N := by
  refine ⟨fun s h => ?_, fun s h => ?_, Nat.le_trans h1.2.2 h2.2.2⟩
  · obtain ⟨a, b⟩ := h1.1 s h
    obtain ⟨c, d⟩ := h2.1 s a
    exact ⟨c, d.trans b⟩
  · rcases h2.2.1 s h with ⟨a, b⟩ | a
    · rcases h1.2.1 s a with ⟨c, d⟩ | c
      · exact Or.inl ⟨c, b.trans d⟩
      · rw [← b] at c; exact Or.inr c
    · exact Or.inr a
theorem go_pew {U U1 : Nat → Bool} {C C1 : Nat → Nat} {lo lo1 : Nat} {N N' : Nat → Prop} (h : go_pe U C lo U1 C1 lo1 N) (w : ∀ c, N c → N' c) : go_pe U C lo U1 C1 lo1 N' := ⟨h.1, fun s q => (h.2.1 s q).imp id (w _), h.2.2⟩
def go_hs (U : Nat → Bool) (C : Nat → Nat) (k x y b : Nat) : Prop := ∃ s, s < 64 ∧ U s = true ∧ C s / 2 ^ 24 = k ∧ C s / 2 ^ 20 % 2 ^ 4 = x ∧ C s / 2 ^ 16 % 2 ^ 4 = y ∧ bt (nI (C s)) b = true
theorem go_hsp {U U1 : Nat → Bool} {C C1 : Nat → Nat} {lo lo1 : Nat} {N : Nat → Prop} (h : go_pe U C lo U1 C1 lo1 N) {k x y b : Nat} (g : go_hs U C k x y b) : go_hs U1 C1 k x y b := by
  obtain ⟨s, hs, hU, h1, h2, h3, h4⟩ := g
  obtain ⟨a, e⟩ := h.1 s hU
  exact ⟨s, hs, a, by rw [e]; exact h1, by rw [e]; exact h2, by rw [e]; exact h3, by rw [e]; exact h4⟩
def go_gt (U : Nat → Bool) (C : Nat → Nat) (c : Nat) : Prop := ∃ s, s < 64 ∧ U s = true ∧ C s = c
theorem go_gtp {U U1 : Nat → Bool} {C C1 : Nat → Nat} {lo lo1 : Nat} {N : Nat → Prop} (h : go_pe U C lo U1 C1 lo1 N) {c : Nat} (g : go_gt U C c) : go_gt U1 C1 c := by
  obtain ⟨s, hs, hU, h1⟩ := g
  obtain ⟨a, e⟩ := h.1 s hU
  exact ⟨s, hs, a, e.trans h1⟩
theorem go_gth {U : Nat → Bool} {C : Nat → Nat} {k x y a b : Nat} (hk0 : 0 < k) (hk : k < 128) (hx : x < 16) (hy : y < 16) (ha : a < 65536) (hb : b < 16) (hab : bt (nI a) b = true) (g : go_gt U C (go_cd k x y a)) : go_hs U C k x y b := by
  obtain ⟨s, hs, hU, h1⟩ := g
  obtain ⟨q0, q1, q2, q3, q4, q5⟩ := go_cdb hk0 hk hx hy ha
  refine ⟨s, hs, hU, by rw [h1]; exact q2, by rw [h1]; exact q3, by rw [h1]; exact q4, ?_⟩
  rw [h1, ← go_lowb q1 hb, q5]
  exact hab
/-- a GOSSIP tells only ids that its sender has delivered -/
def go_ms (D : Nat → Bool) (c : Nat) : Prop := c / 2 ^ 24 = 9 → ∀ b, b < 16 → bt (nI c) b = true → D (c / 2 ^ 20 % 2 ^ 4 * 16 + b) = true
theorem go_msn {D : Nat → Bool} {k x y a : Nat} (hk0 : 0 < k) (hk : k < 128) (hx : x < 16) (hy : y < 16) (ha : a < 65536) (h9 : k ≠ 9) : go_ms D (go_cd k x y a) := fun q => absurd q (by rw [(go_cdb hk0 hk hx hy ha).2.2.1]; exact h9)
theorem go_ms9 {D : Nat → Bool} {x y a : Nat} (hx : x < 16) (hy : y < 16) (ha : a < 65536) (h : ∀ b, b < 16 → bt (nI a) b = true → D (x * 16 + b) = true) : go_ms D (go_cd 9 x y a) := by
  obtain ⟨q0, q1, q2, q3, q4, q5⟩ := go_cdb (k := 9) (by omega) (by omega) hx hy ha
  intro _ b hb hbt
  rw [q3]
  refine h b hb ?_
  rw [← q5, go_lowb q1 hb]
  exact hbt
theorem go_msm {D D' : Nat → Bool} (h : ∀ j, D j = true → D' j = true) {c : Nat} (g : go_ms D c) : go_ms D' c := fun q b hb hbt => h _ (g q b hb hbt)
def go_lk (A La : Nat → Nat) (x y : Nat) : Prop := ∃ i, i < La x ∧ A (x * 4 + i) = y
def go_ok (D W : Nat → Bool) (T : Nat → Nat) (U : Nat → Bool) (C : Nat → Nat) (x y b : Nat) : Prop := D (y * 16 + b) = true ∨ go_hs U C 9 x y b ∨ go_hs U C 10 x y b ∨ (W ((y * 16 + b) * 16 + x) = true ∧ 0 < T (y * 16 + b)) ∨ go_hs U C 11 y x b
def go_inv (al : Nat → Bool) (A La : Nat → Nat) (D W : Nat → Bool) (T : Nat → Nat) (U : Nat → Bool) (C : Nat → Nat) : Prop := ∀ x y b, x < 16 → y < 16 → b < 16 → al x = true → al y = true → go_lk A La x y → D (x * 16 + b) = true → go_ok D W T U C x y b
theorem go_okp {D W : Nat → Bool} {T : Nat → Nat} {U U1 : Nat → Bool} {C C1 : Nat → Nat} {lo lo1 x y b : Nat} {N : Nat → Prop} (h : go_pe U C lo U1 C1 lo1 N) (g : go_ok D W T U C x y b) : go_ok D W T U1 C1 x y b := by
  rcases g with g | g | g | g | g
  · exact Or.inl g
  · exact Or.inr (Or.inl (go_hsp h g))
  · exact Or.inr (Or.inr (Or.inl (go_hsp h g)))
  · exact Or.inr (Or.inr (Or.inr (Or.inl g)))
  · exact Or.inr (Or.inr (Or.inr (Or.inr (go_hsp h g))))
theorem go_ivp {al : Nat → Bool} {A La : Nat → Nat} {D W : Nat → Bool} {T : Nat → Nat} {U U1 : Nat → Bool} {C C1 : Nat → Nat} {lo lo1 : Nat} {N : Nat → Prop} (h : go_pe U C lo U1 C1 lo1 N) (g : go_inv al A La D W T U C) : go_inv al A La D W T U1 C1 := fun x y b hx hy hb ax ay l d => go_okp h (g x y b hx hy hb ax ay l d)
theorem go_ivl {al : Nat → Bool} {A La A1 La1 : Nat → Nat} {D W : Nat → Bool} {T : Nat → Nat} {U : Nat → Bool} {C : Nat → Nat} (h : ∀ x y, go_lk A1 La1 x y → go_lk A La x y) (g : go_inv al A La D W T U C) : go_inv al A1 La1 D W T U C := fun x y b hx hy hb ax ay l d => g x y b hx hy hb ax ay (h x y l) d
theorem go_lkr {ac : Nat} {A La : Nat → Nat} {x i0 : Nat} (hc : ac ≤ 4) (I : go_IV4 ac A La) (hi : i0 < La x) (z y : Nat) (h : go_lk (go_sh A (x * 4 + i0) (x * 4 + (La x - 1))) (go_up La x (La x - 1)) z y) : go_lk A La z y := by
  obtain ⟨i, h1, h2⟩ := h
  by_cases e : z = x
  · rw [e] at h1 h2 ⊢
    rw [go_us] at h1
    rw [go_rm4_at hi h1] at h2
    exact ⟨_, by split <;> omega, h2⟩
  · rw [go_un e] at h1
    have := I.2.1 z
    have := I.2.1 x
    rw [go_rm4_o (by omega) (by omega) e] at h2
    exact ⟨i, h1, h2⟩
theorem go_lka {ac : Nat} {A La : Nat → Nat} {x y : Nat} (hc : ac ≤ 4) (I : go_IV4 ac A La) (hl : La x < ac) (z w : Nat) (h : go_lk (go_up A (x * 4 + La x) y) (go_up La x (La x + 1)) z w) : go_lk A La z w ∨ (z = x ∧ w = y) := by
  obtain ⟨i, h1, h2⟩ := h
  by_cases e : z = x
  · rw [e] at h1 h2 ⊢
    rw [go_us] at h1
    by_cases g : i = La x
    · rw [g, go_us] at h2
      exact Or.inr ⟨rfl, h2.symm⟩
    · rw [go_un (by omega)] at h2
      exact Or.inl ⟨i, by omega, h2⟩
  · rw [go_un e] at h1
    have := I.2.1 z
    rw [go_un (by omega)] at h2
    exact Or.inl ⟨i, h1, h2⟩
end
section
section
variable (nn ac pc tm md lo : Nat) (al : Nat → Bool) (A La P Lp : Nat → Nat) (E D W : Nat → Bool) (T : Nat → Nat) (U : Nat → Bool) (C : Nat → Nat)
theorem go_lkX4 {x y : Nat} (hA : ∀ j, A j < 16) (hL : La x ≤ 4) (hx : x < 16) (hy : y < 16) (h : ∀ i, i < La x → A (x * 4 + i) ≠ y) (post : Int32 → Prop) (hp : post 0) : ∀ n i, i ≤ La x → La x - i < n → wX_isActive_2 post (nI x) (nI y) (nI nn) (nI ac) (nI pc) (nI tm) (nI md) (nI lo) (go_B al) (go_N A) (go_N La) (go_N P) (go_N Lp) (go_M E) (go_M D) (go_M W) (go_N T) (go_S U C) n (nI i) := by
  intro n
  induction n with
  | zero => intro i _ hn; exact absurd hn (by omega)
  | succ n ih =>
    intro i hi hn
    exact ⟨vp_in_nI hx (by omega), pk_le (La x) i (fun _ => hp) (fun h2 => ⟨pk_in (x * 4 + i) 64 (by omega) (go_ix4 x i), br_f (by rw [go_rN A (x * 4 + i) (go_ix4 x i) (by omega), nI_eq (by have := hA (x * 4 + i); omega) (by omega)]; exact h i h2) (nm_r (nI_1 i) (ih (i + 1) (by omega) (by omega)))⟩) (go_rN La x rfl (by omega)) rfl (by omega) (by omega)⟩
theorem go_lkXy4 {x y i0 : Nat} (hA : ∀ j, A j < 16) (hL : La x ≤ 4) (hx : x < 16) (hy : y < 16) (h0 : i0 < La x) (he : A (x * 4 + i0) = y) (post : Int32 → Prop) (hp : post 1) : ∀ n i, i ≤ i0 → i0 - i < n → wX_isActive_2 post (nI x) (nI y) (nI nn) (nI ac) (nI pc) (nI tm) (nI md) (nI lo) (go_B al) (go_N A) (go_N La) (go_N P) (go_N Lp) (go_M E) (go_M D) (go_M W) (go_N T) (go_S U C) n (nI i) := by
  intro n
  induction n with
  | zero => intro i _ hn; exact absurd hn (by omega)
  | succ n ih =>
    intro i hi hn
    refine ⟨vp_in_nI hx (by omega), pk_le (La x) i (fun h2 => absurd h2 (by omega)) (fun h2 => ⟨pk_in (x * 4 + i) 64 (by omega) (go_ix4 x i), pk_eq (A (x * 4 + i)) y (fun _ => hp) (fun h3 => ?_) (go_rN A (x * 4 + i) (go_ix4 x i) (by omega)) rfl (by have := hA (x * 4 + i); omega) (by omega)⟩) (go_rN La x rfl (by omega)) rfl (by omega) (by omega)⟩
    have h4 : i ≠ i0 := fun q => h3 (by rw [q]; exact he)
    exact nm_r (nI_1 i) (ih (i + 1) (by omega) (by omega))
theorem go_is4 {x y : Nat} (hA : ∀ j, A j < 16) (hL : La x ≤ 4) (hx : x < 16) (hy : y < 16) (h : ∀ i, i < La x → A (x * 4 + i) ≠ y) (post : Int32 → Prop) (hp : post 0) : wpX_isActive post (nI nn, nI ac, nI pc, nI tm, nI md, nI lo, go_B al, go_N A, go_N La, go_N P, go_N Lp, go_M E, go_M D, go_M W, go_N T, go_S U C) (nI x) (nI y) := ⟨La x + 1, go_lkX4 nn ac pc tm md lo al A La P Lp E D W T U C hA hL hx hy h post hp _ 0 (by omega) (by omega)⟩
theorem go_isy4 {x y i0 : Nat} (hA : ∀ j, A j < 16) (hL : La x ≤ 4) (hx : x < 16) (hy : y < 16) (h0 : i0 < La x) (he : A (x * 4 + i0) = y) (post : Int32 → Prop) (hp : post 1) : wpX_isActive post (nI nn, nI ac, nI pc, nI tm, nI md, nI lo, go_B al, go_N A, go_N La, go_N P, go_N Lp, go_M E, go_M D, go_M W, go_N T, go_S U C) (nI x) (nI y) := ⟨i0 + 1, go_lkXy4 nn ac pc tm md lo al A La P Lp E D W T U C hA hL hx hy h0 he post hp _ 0 (by omega) (by omega)⟩
theorem go_lkX8 {x y : Nat} (hA : ∀ j, P j < 16) (hL : Lp x ≤ 8) (hx : x < 16) (hy : y < 16) (h : ∀ i, i < Lp x → P (x * 8 + i) ≠ y) (post : Int32 → Prop) (hp : post 0) : ∀ n i, i ≤ Lp x → Lp x - i < n → wX_isPassive_2 post (nI x) (nI y) (nI nn) (nI ac) (nI pc) (nI tm) (nI md) (nI lo) (go_B al) (go_N A) (go_N La) (go_N P) (go_N Lp) (go_M E) (go_M D) (go_M W) (go_N T) (go_S U C) n (nI i) := by
  intro n
  induction n with
  | zero => intro i _ hn; exact absurd hn (by omega)
  | succ n ih =>
    intro i hi hn
    exact ⟨vp_in_nI hx (by omega), pk_le (Lp x) i (fun _ => hp) (fun h2 => ⟨pk_in (x * 8 + i) 128 (by omega) (go_ix8 x i), br_f (by rw [go_rN P (x * 8 + i) (go_ix8 x i) (by omega), nI_eq (by have := hA (x * 8 + i); omega) (by omega)]; exact h i h2) (nm_r (nI_1 i) (ih (i + 1) (by omega) (by omega)))⟩) (go_rN Lp x rfl (by omega)) rfl (by omega) (by omega)⟩
theorem go_lkXy8 {x y i0 : Nat} (hA : ∀ j, P j < 16) (hL : Lp x ≤ 8) (hx : x < 16) (hy : y < 16) (h0 : i0 < Lp x) (he : P (x * 8 + i0) = y) (post : Int32 → Prop) (hp : post 1) : ∀ n i, i ≤ i0 → i0 - i < n → wX_isPassive_2 post (nI x) (nI y) (nI nn) (nI ac) (nI pc) (nI tm) (nI md) (nI lo) (go_B al) (go_N A) (go_N La) (go_N P) (go_N Lp) (go_M E) (go_M D) (go_M W) (go_N T) (go_S U C) n (nI i) := by
  intro n
  induction n with
  | zero => intro i _ hn; exact absurd hn (by omega)
  | succ n ih =>
    intro i hi hn
    refine ⟨vp_in_nI hx (by omega), pk_le (Lp x) i (fun h2 => absurd h2 (by omega)) (fun h2 => ⟨pk_in (x * 8 + i) 128 (by omega) (go_ix8 x i), pk_eq (P (x * 8 + i)) y (fun _ => hp) (fun h3 => ?_) (go_rN P (x * 8 + i) (go_ix8 x i) (by omega)) rfl (by have := hA (x * 8 + i); omega) (by omega)⟩) (go_rN Lp x rfl (by omega)) rfl (by omega) (by omega)⟩
    have h4 : i ≠ i0 := fun q => h3 (by rw [q]; exact he)
    exact nm_r (nI_1 i) (ih (i + 1) (by omega) (by omega))
theorem go_is8 {x y : Nat} (hA : ∀ j, P j < 16) (hL : Lp x ≤ 8) (hx : x < 16) (hy : y < 16) (h : ∀ i, i < Lp x → P (x * 8 + i) ≠ y) (post : Int32 → Prop) (hp : post 0) : wpX_isPassive post (nI nn, nI ac, nI pc, nI tm, nI md, nI lo, go_B al, go_N A, go_N La, go_N P, go_N Lp, go_M E, go_M D, go_M W, go_N T, go_S U C) (nI x) (nI y) := ⟨Lp x + 1, go_lkX8 nn ac pc tm md lo al A La P Lp E D W T U C hA hL hx hy h post hp _ 0 (by omega) (by omega)⟩
theorem go_isy8 {x y i0 : Nat} (hA : ∀ j, P j < 16) (hL : Lp x ≤ 8) (hx : x < 16) (hy : y < 16) (h0 : i0 < Lp x) (he : P (x * 8 + i0) = y) (post : Int32 → Prop) (hp : post 1) : wpX_isPassive post (nI nn, nI ac, nI pc, nI tm, nI md, nI lo, go_B al, go_N A, go_N La, go_N P, go_N Lp, go_M E, go_M D, go_M W, go_N T, go_S U C) (nI x) (nI y) := ⟨i0 + 1, go_lkXy8 nn ac pc tm md lo al A La P Lp E D W T U C hA hL hx hy h0 he post hp _ 0 (by omega) (by omega)⟩
theorem go_sXf {x y k a : Nat} (I : go_IS U C) (hl : lo + 1 < 2 ^ 31) (h : ∀ s, s < 64 → U s = true) (post : St2 → Prop) (hp : post (nI nn, nI ac, nI pc, nI tm, nI md, nI (lo + 1), go_B al, go_N A, go_N La, go_N P, go_N Lp, go_M E, go_M D, go_M W, go_N T, go_S U C)) : ∀ n i, i ≤ 64 → 64 - i < n → wX_send_13 post (nI x) (nI y) (nI k) (nI a) (nI nn) (nI ac) (nI pc) (nI tm) (nI md) (nI lo) (go_B al) (go_N A) (go_N La) (go_N P) (go_N Lp) (go_M E) (go_M D) (go_M W) (go_N T) (go_S U C) n (nI i) := by
  intro n
  induction n with
  | zero => intro i _ hn; exact absurd hn (by omega)
  | succ n ih =>
    intro i hi hn
    exact pk_le 64 i (fun _ => pk_le 2147483647 lo (fun z => absurd z (by omega)) (fun _ => nm_r (nI_1 lo) hp)) (fun h2 => ⟨vp_in_nI h2 (by omega), go_brS I i (fun z => absurd z (by rw [h i h2]; decide)) (fun _ => nm_r (nI_1 i) (ih (i + 1) (by omega) (by omega)))⟩)
theorem go_sXs {x y k a c s : Nat} (I : go_IS U C) (hc : (((nI k <<< ((24 : Int32) &&& 31)) ||| (nI x <<< ((20 : Int32) &&& 31))) ||| (nI y <<< ((16 : Int32) &&& 31))) ||| nI a = nI c) (hs : s < 64) (hf : U s = false) (hb : ∀ j, j < s → ¬ U j = false) (post : St2 → Prop) (hp : post (nI nn, nI ac, nI pc, nI tm, nI md, nI lo, go_B al, go_N A, go_N La, go_N P, go_N Lp, go_M E, go_M D, go_M W, go_N T, go_S (go_up U s true) (go_up C s c))) : ∀ n i, i ≤ s → s - i < n → wX_send_13 post (nI x) (nI y) (nI k) (nI a) (nI nn) (nI ac) (nI pc) (nI tm) (nI md) (nI lo) (go_B al) (go_N A) (go_N La) (go_N P) (go_N Lp) (go_M E) (go_M D) (go_M W) (go_N T) (go_S U C) n (nI i) := by
  intro n
  induction n with
  | zero => intro i _ hn; exact absurd hn (by omega)
  | succ n ih =>
    intro i hi hn
    refine pk_le 64 i (fun z => absurd z (by omega)) (fun h2 => ⟨vp_in_nI h2 (by omega), go_brS I i (fun z => ⟨vp_in_nI h2 (by omega), nm_r (go_uSt U C i c hc) ?_⟩) (fun z => nm_r (nI_1 i) (ih (i + 1) ?_ ?_))⟩)
    · have e : i = s := by
        rcases Nat.lt_or_ge i s with q | q
        · exact absurd z (hb i q)
        · omega
      rw [e]; exact hp
    · have e : i ≠ s := fun q => by rw [q, hf] at z; exact absurd z (by decide)
      omega
    · have e : i ≠ s := fun q => by rw [q, hf] at z; exact absurd z (by decide)
      omega
theorem go_cX24 {x y i0 : Nat} (hc : ac ≤ 4) (I : go_IV4 ac A La) (hx : x < 16) (hy : y < 16) (h0 : i0 < La x) (he : A (x * 4 + i0) = y) (post : Int32 → St2 → Prop) (hp : post 1  (nI nn, nI ac, nI pc, nI tm, nI md, nI lo, go_B al, go_N (go_sh A (x * 4 + i0) (x * 4 + (La x - 1))), go_N (go_up La x (La x - 1)), go_N P, go_N Lp, go_M (go_up E (x * 16 + y) false), go_M D, go_M W, go_N T, go_S U C)) : ∀ n m, i0 ≤ m → m + 1 ≤ La x → La x - m ≤ n → wX_removeActive_13 post (nI x) (nI y) (nI (La x)) (nI nn) (nI ac) (nI pc) (nI tm) (nI md) (nI lo) n (nI m) (nI (m + 1)) (go_B al) (go_N (go_sh A (x * 4 + i0) (x * 4 + m))) (go_N La) (go_N P) (go_N Lp) (go_M E) (go_M D) (go_M W) (go_N T) (go_S U C) := by
  have hl := I.2.1 x
  intro n
  induction n with
  | zero => intro m _ _ hn; exact absurd hn (by omega)
  | succ n ih =>
    intro m hm1 hm2 hn
    refine pk_le (La x) (m + 1) (fun h => ⟨vp_in_nI hx (by omega), nm_r (go_uN La x m rfl) ?_⟩) (fun h => ⟨pk_in (x * 4 + (m + 1)) 64 (by omega) (go_ix4 x (m + 1)), nm_r ((go_rN _ (x * 4 + (m + 1)) (go_ix4 x (m + 1)) (by omega)).trans (congrArg nI (go_shr A (by omega)))) (br_f ?_ ⟨pk_in (x * 4 + m) 64 (by omega) (go_ix4 x m), nm_r ((go_uN _ (x * 4 + m) (A (x * 4 + (m + 1))) rfl (go_ix4 x m)).trans (congrArg go_N (go_shs A (by omega)))) (nm_r (nI_1 m) (nm_r (nI_1 (m + 1)) (ih (m + 1) (by omega) (by omega) (by omega))))⟩)⟩)
    · have hm : La x - 1 = m := by omega
      rw [hm] at hp
      exact ⟨vp_in_nI hx (by omega), vp_in_nI hx (by omega), nm_r (go_uMc E x y hy) (br_f (nI_ge (by omega) (by omega)) hp)⟩
    · rw [nI_eq (by have := I.1 (x * 4 + (m + 1)); omega) (by omega), ← he]
      exact (I.2.2 x i0 (m + 1) (by omega) (by omega)).symm
theorem go_cX14 {x y i0 : Nat} (hc : ac ≤ 4) (I : go_IV4 ac A La) (hx : x < 16) (hy : y < 16) (h0 : i0 < La x) (he : A (x * 4 + i0) = y) (post : Int32 → St2 → Prop) (hp : post 1  (nI nn, nI ac, nI pc, nI tm, nI md, nI lo, go_B al, go_N (go_sh A (x * 4 + i0) (x * 4 + (La x - 1))), go_N (go_up La x (La x - 1)), go_N P, go_N Lp, go_M (go_up E (x * 16 + y) false), go_M D, go_M W, go_N T, go_S U C)) : ∀ n i, i ≤ i0 → La x - i < n → wX_removeActive_13 post (nI x) (nI y) (nI (La x)) (nI nn) (nI ac) (nI pc) (nI tm) (nI md) (nI lo) n (nI i) (nI i) (go_B al) (go_N A) (go_N La) (go_N P) (go_N Lp) (go_M E) (go_M D) (go_M W) (go_N T) (go_S U C) := by
  have hl := I.2.1 x
  intro n
  induction n with
  | zero => intro m _ hn; exact absurd hn (by omega)
  | succ n ih =>
    intro i hi hn
    refine pk_le (La x) i (fun h => absurd h (by omega)) (fun h => ⟨pk_in (x * 4 + i) 64 (by omega) (go_ix4 x i), nm_r (go_rN A (x * 4 + i) (go_ix4 x i) (by omega)) (pk_eq (A (x * 4 + i)) y (fun h3 => nm_r (nI_1 i) ?_) (fun h3 => ⟨pk_in (x * 4 + i) 64 (by omega) (go_ix4 x i), nm_r ((go_uN A (x * 4 + i) (A (x * 4 + i)) rfl (go_ix4 x i)).trans (congrArg go_N (go_ui A _))) (nm_r (nI_1 i) (nm_r (nI_1 i) (ih (i + 1) ?_ (by omega))))⟩) rfl rfl (by have := I.1 (x * 4 + i); omega) (by omega))⟩)
    · have e : i = i0 := by
        rcases Nat.lt_or_ge i i0 with q | q
        · exact absurd (h3.trans he.symm) (I.2.2 x i i0 q h0)
        · omega
      have w := go_cX24 nn ac pc tm md lo al A La P Lp E D W T U C hc I hx hy h0 he post hp n i0 (by omega) (by omega) (by omega)
      rw [go_sh0] at w
      rw [e]
      exact w
    · have e : i ≠ i0 := fun q => h3 (by rw [q]; exact he)
      omega
theorem go_cX04 {x y : Nat} (hc : ac ≤ 4) (I : go_IV4 ac A La) (JE : go_IE A La E) (hx : x < 16) (hy : y < 16) (ha : ∀ i, i < La x → A (x * 4 + i) ≠ y) (post : Int32 → St2 → Prop) (hp : post 0  (nI nn, nI ac, nI pc, nI tm, nI md, nI lo, go_B al, go_N A, go_N La, go_N P, go_N Lp, go_M E, go_M D, go_M W, go_N T, go_S U C)) : ∀ n i, i ≤ La x → La x - i < n → wX_removeActive_13 post (nI x) (nI y) (nI (La x)) (nI nn) (nI ac) (nI pc) (nI tm) (nI md) (nI lo) n (nI i) (nI i) (go_B al) (go_N A) (go_N La) (go_N P) (go_N Lp) (go_M E) (go_M D) (go_M W) (go_N T) (go_S U C) := by
  have hl := I.2.1 x
  intro n
  induction n with
  | zero => intro m _ hn; exact absurd hn (by omega)
  | succ n ih =>
    intro i hi hn
    refine pk_le (La x) i (fun h => ⟨vp_in_nI hx (by omega), nm_r ((go_uN La x i rfl).trans (congrArg go_N (show go_up La x i = La by rw [show i = La x by omega]; exact go_ui La x))) ?_⟩) (fun h => ⟨pk_in (x * 4 + i) 64 (by omega) (go_ix4 x i), nm_r (go_rN A (x * 4 + i) (go_ix4 x i) (by omega)) (br_f ?_ ⟨pk_in (x * 4 + i) 64 (by omega) (go_ix4 x i), nm_r ((go_uN A (x * 4 + i) (A (x * 4 + i)) rfl (go_ix4 x i)).trans (congrArg go_N (go_ui A _))) (nm_r (nI_1 i) (nm_r (nI_1 i) (ih (i + 1) (by omega) (by omega))))⟩)⟩)
    · exact ⟨vp_in_nI hx (by omega), vp_in_nI hx (by omega), nm_r ((go_uMc E x y hy).trans (congrArg go_M (go_Eno JE hy ha))) (br_t (nI_le (by omega) (by omega)) hp)⟩
    · rw [nI_eq (by have := I.1 (x * 4 + i); omega) (by omega)]
      exact ha i h
theorem go_rX14 {x y i0 : Nat} (hc : ac ≤ 4) (I : go_IV4 ac A La) (hx : x < 16) (hy : y < 16) (h0 : i0 < La x) (he : A (x * 4 + i0) = y) (post : Int32 → St2 → Prop) (hp : post 1  (nI nn, nI ac, nI pc, nI tm, nI md, nI lo, go_B al, go_N (go_sh A (x * 4 + i0) (x * 4 + (La x - 1))), go_N (go_up La x (La x - 1)), go_N P, go_N Lp, go_M (go_up E (x * 16 + y) false), go_M D, go_M W, go_N T, go_S U C)) : wpX_removeActive post (nI nn, nI ac, nI pc, nI tm, nI md, nI lo, go_B al, go_N A, go_N La, go_N P, go_N Lp, go_M E, go_M D, go_M W, go_N T, go_S U C) (nI x) (nI y) := ⟨vp_in_nI hx (by omega), nm_r (go_rN La x rfl (by omega)) ⟨La x + 1, go_cX14 nn ac pc tm md lo al A La P Lp E D W T U C hc I hx hy h0 he post hp _ 0 (by omega) (by omega)⟩⟩
theorem go_rX04 {x y : Nat} (hc : ac ≤ 4) (I : go_IV4 ac A La) (JE : go_IE A La E) (hx : x < 16) (hy : y < 16) (ha : ∀ i, i < La x → A (x * 4 + i) ≠ y) (post : Int32 → St2 → Prop) (hp : post 0  (nI nn, nI ac, nI pc, nI tm, nI md, nI lo, go_B al, go_N A, go_N La, go_N P, go_N Lp, go_M E, go_M D, go_M W, go_N T, go_S U C)) : wpX_removeActive post (nI nn, nI ac, nI pc, nI tm, nI md, nI lo, go_B al, go_N A, go_N La, go_N P, go_N Lp, go_M E, go_M D, go_M W, go_N T, go_S U C) (nI x) (nI y) := ⟨vp_in_nI hx (by omega), nm_r (go_rN La x rfl (by omega)) ⟨La x + 1, go_cX04 nn ac pc tm md lo al A La P Lp E D W T U C hc I JE hx hy ha post hp _ 0 (by omega) (by omega)⟩⟩
theorem go_cX28 {x y i0 : Nat} (hc : pc ≤ 8) (I : go_IV8 pc P Lp) (hx : x < 16) (hy : y < 16) (h0 : i0 < Lp x) (he : P (x * 8 + i0) = y) (post : St2 → Prop) (hp : post  (nI nn, nI ac, nI pc, nI tm, nI md, nI lo, go_B al, go_N A, go_N La, go_N (go_sh P (x * 8 + i0) (x * 8 + (Lp x - 1))), go_N (go_up Lp x (Lp x - 1)), go_M E, go_M D, go_M W, go_N T, go_S U C)) : ∀ n m, i0 ≤ m → m + 1 ≤ Lp x → Lp x - m ≤ n → wX_removePassive_13 post (nI x) (nI y) (nI (Lp x)) (nI nn) (nI ac) (nI pc) (nI tm) (nI md) (nI lo) n (nI m) (nI (m + 1)) (go_B al) (go_N A) (go_N La) (go_N (go_sh P (x * 8 + i0) (x * 8 + m))) (go_N Lp) (go_M E) (go_M D) (go_M W) (go_N T) (go_S U C) := by
  have hl := I.2.1 x
  intro n
  induction n with
  | zero => intro m _ _ hn; exact absurd hn (by omega)
  | succ n ih =>
    intro m hm1 hm2 hn
    refine pk_le (Lp x) (m + 1) (fun h => ⟨vp_in_nI hx (by omega), nm_r (go_uN Lp x m rfl) ?_⟩) (fun h => ⟨pk_in (x * 8 + (m + 1)) 128 (by omega) (go_ix8 x (m + 1)), nm_r ((go_rN _ (x * 8 + (m + 1)) (go_ix8 x (m + 1)) (by omega)).trans (congrArg nI (go_shr P (by omega)))) (br_f ?_ ⟨pk_in (x * 8 + m) 128 (by omega) (go_ix8 x m), nm_r ((go_uN _ (x * 8 + m) (P (x * 8 + (m + 1))) rfl (go_ix8 x m)).trans (congrArg go_N (go_shs P (by omega)))) (nm_r (nI_1 m) (nm_r (nI_1 (m + 1)) (ih (m + 1) (by omega) (by omega) (by omega))))⟩)⟩)
    · have hm : Lp x - 1 = m := by omega
      rw [hm] at hp
      exact hp
    · rw [nI_eq (by have := I.1 (x * 8 + (m + 1)); omega) (by omega), ← he]
      exact (I.2.2 x i0 (m + 1) (by omega) (by omega)).symm
theorem go_cX18 {x y i0 : Nat} (hc : pc ≤ 8) (I : go_IV8 pc P Lp) (hx : x < 16) (hy : y < 16) (h0 : i0 < Lp x) (he : P (x * 8 + i0) = y) (post : St2 → Prop) (hp : post  (nI nn, nI ac, nI pc, nI tm, nI md, nI lo, go_B al, go_N A, go_N La, go_N (go_sh P (x * 8 + i0) (x * 8 + (Lp x - 1))), go_N (go_up Lp x (Lp x - 1)), go_M E, go_M D, go_M W, go_N T, go_S U C)) : ∀ n i, i ≤ i0 → Lp x - i < n → wX_removePassive_13 post (nI x) (nI y) (nI (Lp x)) (nI nn) (nI ac) (nI pc) (nI tm) (nI md) (nI lo) n (nI i) (nI i) (go_B al) (go_N A) (go_N La) (go_N P) (go_N Lp) (go_M E) (go_M D) (go_M W) (go_N T) (go_S U C) := by
  have hl := I.2.1 x
  intro n
  induction n with
  | zero => intro m _ hn; exact absurd hn (by omega)
  | succ n ih =>
    intro i hi hn
    refine pk_le (Lp x) i (fun h => absurd h (by omega)) (fun h => ⟨pk_in (x * 8 + i) 128 (by omega) (go_ix8 x i), nm_r (go_rN P (x * 8 + i) (go_ix8 x i) (by omega)) (pk_eq (P (x * 8 + i)) y (fun h3 => nm_r (nI_1 i) ?_) (fun h3 => ⟨pk_in (x * 8 + i) 128 (by omega) (go_ix8 x i), nm_r ((go_uN P (x * 8 + i) (P (x * 8 + i)) rfl (go_ix8 x i)).trans (congrArg go_N (go_ui P _))) (nm_r (nI_1 i) (nm_r (nI_1 i) (ih (i + 1) ?_ (by omega))))⟩) rfl rfl (by have := I.1 (x * 8 + i); omega) (by omega))⟩)
    · have e : i = i0 := by
        rcases Nat.lt_or_ge i i0 with q | q
        · exact absurd (h3.trans he.symm) (I.2.2 x i i0 q h0)
        · omega
      have w := go_cX28 nn ac pc tm md lo al A La P Lp E D W T U C hc I hx hy h0 he post hp n i0 (by omega) (by omega) (by omega)
      rw [go_sh0] at w
      rw [e]
      exact w
    · have e : i ≠ i0 := fun q => h3 (by rw [q]; exact he)
      omega
theorem go_cX08 {x y : Nat} (hc : pc ≤ 8) (I : go_IV8 pc P Lp) (hx : x < 16) (hy : y < 16) (ha : ∀ i, i < Lp x → P (x * 8 + i) ≠ y) (post : St2 → Prop) (hp : post  (nI nn, nI ac, nI pc, nI tm, nI md, nI lo, go_B al, go_N A, go_N La, go_N P, go_N Lp, go_M E, go_M D, go_M W, go_N T, go_S U C)) : ∀ n i, i ≤ Lp x → Lp x - i < n → wX_removePassive_13 post (nI x) (nI y) (nI (Lp x)) (nI nn) (nI ac) (nI pc) (nI tm) (nI md) (nI lo) n (nI i) (nI i) (go_B al) (go_N A) (go_N La) (go_N P) (go_N Lp) (go_M E) (go_M D) (go_M W) (go_N T) (go_S U C) := by
  have hl := I.2.1 x
  intro n
  induction n with
  | zero => intro m _ hn; exact absurd hn (by omega)
  | succ n ih =>
    intro i hi hn
    refine pk_le (Lp x) i (fun h => ⟨vp_in_nI hx (by omega), nm_r ((go_uN Lp x i rfl).trans (congrArg go_N (show go_up Lp x i = Lp by rw [show i = Lp x by omega]; exact go_ui Lp x))) ?_⟩) (fun h => ⟨pk_in (x * 8 + i) 128 (by omega) (go_ix8 x i), nm_r (go_rN P (x * 8 + i) (go_ix8 x i) (by omega)) (br_f ?_ ⟨pk_in (x * 8 + i) 128 (by omega) (go_ix8 x i), nm_r ((go_uN P (x * 8 + i) (P (x * 8 + i)) rfl (go_ix8 x i)).trans (congrArg go_N (go_ui P _))) (nm_r (nI_1 i) (nm_r (nI_1 i) (ih (i + 1) (by omega) (by omega))))⟩)⟩)
    · exact hp
    · rw [nI_eq (by have := I.1 (x * 8 + i); omega) (by omega)]
      exact ha i h
theorem go_rX18 {x y i0 : Nat} (hc : pc ≤ 8) (I : go_IV8 pc P Lp) (hx : x < 16) (hy : y < 16) (h0 : i0 < Lp x) (he : P (x * 8 + i0) = y) (post : St2 → Prop) (hp : post  (nI nn, nI ac, nI pc, nI tm, nI md, nI lo, go_B al, go_N A, go_N La, go_N (go_sh P (x * 8 + i0) (x * 8 + (Lp x - 1))), go_N (go_up Lp x (Lp x - 1)), go_M E, go_M D, go_M W, go_N T, go_S U C)) : wpX_removePassive post (nI nn, nI ac, nI pc, nI tm, nI md, nI lo, go_B al, go_N A, go_N La, go_N P, go_N Lp, go_M E, go_M D, go_M W, go_N T, go_S U C) (nI x) (nI y) := ⟨vp_in_nI hx (by omega), nm_r (go_rN Lp x rfl (by omega)) ⟨Lp x + 1, go_cX18 nn ac pc tm md lo al A La P Lp E D W T U C hc I hx hy h0 he post hp _ 0 (by omega) (by omega)⟩⟩
theorem go_rX08 {x y : Nat} (hc : pc ≤ 8) (I : go_IV8 pc P Lp) (hx : x < 16) (hy : y < 16) (ha : ∀ i, i < Lp x → P (x * 8 + i) ≠ y) (post : St2 → Prop) (hp : post  (nI nn, nI ac, nI pc, nI tm, nI md, nI lo, go_B al, go_N A, go_N La, go_N P, go_N Lp, go_M E, go_M D, go_M W, go_N T, go_S U C)) : wpX_removePassive post (nI nn, nI ac, nI pc, nI tm, nI md, nI lo, go_B al, go_N A, go_N La, go_N P, go_N Lp, go_M E, go_M D, go_M W, go_N T, go_S U C) (nI x) (nI y) := ⟨vp_in_nI hx (by omega), nm_r (go_rN Lp x rfl (by omega)) ⟨Lp x + 1, go_cX08 nn ac pc tm md lo al A La P Lp E D W T U C hc I hx hy ha post hp _ 0 (by omega) (by omega)⟩⟩
theorem go_pyX {x y : Nat} (hx : x < 16) (hy : y < 16) (hl : Lp x < 8) (post : St2 → Prop) (hp : post (nI nn, nI ac, nI pc, nI tm, nI md, nI lo, go_B al, go_N A, go_N La, go_N (go_up P (x * 8 + Lp x) y), go_N (go_up Lp x (Lp x + 1)), go_M E, go_M D, go_M W, go_N T, go_S U C)) : wX_addPassive_53 post (nI x) (nI y) (nI nn) (nI ac) (nI pc) (nI tm) (nI md) (nI lo) (go_B al) (go_N A) (go_N La) (go_N P) (go_N Lp) (go_M E) (go_M D) (go_M W) (go_N T) (go_S U C) := by
  have e1 : nI x * 8 + go_N Lp (nI x).toNatClampNeg = nI (x * 8 + Lp x) := by rw [go_rN Lp x rfl (by omega)]; exact go_ix8 x (Lp x)
  have e2 : go_N Lp (nI x).toNatClampNeg + 1 = nI (Lp x + 1) := by rw [go_rN Lp x rfl (by omega)]; exact nI_1 _
  exact ⟨vp_in_nI hx (by omega), pk_in (x * 8 + Lp x) 128 (by omega) e1, nm_r (go_uN P (x * 8 + Lp x) y rfl e1) ⟨vp_in_nI hx (by omega), vp_in_nI hx (by omega), nm_r (go_uN Lp x (Lp x + 1) e2) hp⟩⟩
theorem go_me1 {x y i : Nat} (hA : ∀ j, A j < 16) (hL : La x ≤ 4) (hx : x < 16) (hy : y < 16) (hi : i < La x) (he : A (x * 4 + i) = y) (post : St2 → Prop) (hp : post (nI nn, nI ac, nI pc, nI tm, nI md, nI lo, go_B al, go_N A, go_N La, go_N P, go_N Lp, go_M (go_up E (x * 16 + y) true), go_M D, go_M W, go_N T, go_S U C)) : wpX_makeEager post (nI nn, nI ac, nI pc, nI tm, nI md, nI lo, go_B al, go_N A, go_N La, go_N P, go_N Lp, go_M E, go_M D, go_M W, go_N T, go_S U C) (nI x) (nI y) := by
  unfold wpX_makeEager
  exact go_isy4 nn ac pc tm md lo al A La P Lp E D W T U C hA hL hx hy hi he _ (br_f (by decide) ⟨vp_in_nI hx (by omega), vp_in_nI hx (by omega), nm_r (go_uMs E x y hy) hp⟩)
theorem go_me0 {x y : Nat} (hA : ∀ j, A j < 16) (hL : La x ≤ 4) (hx : x < 16) (hy : y < 16) (h : ∀ i, i < La x → A (x * 4 + i) ≠ y) (post : St2 → Prop) (hp : post (nI nn, nI ac, nI pc, nI tm, nI md, nI lo, go_B al, go_N A, go_N La, go_N P, go_N Lp, go_M E, go_M D, go_M W, go_N T, go_S U C)) : wpX_makeEager post (nI nn, nI ac, nI pc, nI tm, nI md, nI lo, go_B al, go_N A, go_N La, go_N P, go_N Lp, go_M E, go_M D, go_M W, go_N T, go_S U C) (nI x) (nI y) := by
  unfold wpX_makeEager
  exact go_is4 nn ac pc tm md lo al A La P Lp E D W T U C hA hL hx hy h _ (br_t rfl hp)
theorem go_stl {x g : Nat} (hx : x < 16) (post : St2 → Prop) (hp : post (nI nn, nI ac, nI pc, nI tm, nI md, nI lo, go_B al, go_N A, go_N La, go_N P, go_N Lp, go_M E, go_M D, go_M (go_oW W x (nI g) 16), go_N (go_ov T 0 x (nI g) 16), go_S U C)) : ∀ n b, b ≤ 16 → 16 - b < n → wX_stopWaitingFor_2 post (nI x) (nI g) (nI nn) (nI ac) (nI pc) (nI tm) (nI md) (nI lo) n (nI b) (go_B al) (go_N A) (go_N La) (go_N P) (go_N Lp) (go_M E) (go_M D) (go_M (go_oW W x (nI g) b)) (go_N (go_ov T 0 x (nI g) b)) (go_S U C) := by
  intro n
  induction n with
  | zero => intro i _ hn; exact absurd hn (by omega)
  | succ n ih =>
    intro b hb hn
    refine pk_le 16 b (fun h => ?_) (fun h => go_brb g b h (fun z => nm_r (nI_1 b) ?_) (fun z => ⟨pk_in (x * 16 + b) 256 (by omega) (go_ix16 x b), nm_r ((go_uMz _ (x * 16 + b) (go_ix16 x b)).trans (congrArg go_M (go_oWt W x z))) ⟨pk_in (x * 16 + b) 256 (by omega) (go_ix16 x b), nm_r ((go_uN _ (x * 16 + b) 0 rfl (go_ix16 x b)).trans (congrArg go_N (go_ovt T 0 x z))) (nm_r (nI_1 b) (ih (b + 1) (by omega) (by omega)))⟩⟩))
    · have e : b = 16 := by omega
      rw [e]; exact hp
    · have w := ih (b + 1) (by omega) (by omega)
      rw [← go_oWf W x z, ← go_ovf T 0 x z] at w
      exact w
theorem go_stop {x g : Nat} (hx : x < 16) (post : St2 → Prop) (hp : post (nI nn, nI ac, nI pc, nI tm, nI md, nI lo, go_B al, go_N A, go_N La, go_N P, go_N Lp, go_M E, go_M D, go_M (go_oW W x (nI g) 16), go_N (go_ov T 0 x (nI g) 16), go_S U C)) : wpX_stopWaitingFor post (nI nn, nI ac, nI pc, nI tm, nI md, nI lo, go_B al, go_N A, go_N La, go_N P, go_N Lp, go_M E, go_M D, go_M W, go_N T, go_S U C) (nI x) (nI g) := by
  have w := go_stl nn ac pc tm md lo al A La P Lp E D W T U C hx post hp 17 0 (by omega) (by omega)
  rw [go_oW0, go_ov0] at w
  exact ⟨17, w⟩
theorem go_fx0 {x y w : Nat} (hA : ∀ j, A j < 16) (hL : La y ≤ 4) (hx : x < 16) (hy : y < 16) (hw : w < 16) (h : ∀ i, i < La y → ¬ (A (y * 4 + i) ≠ x ∧ A (y * 4 + i) ≠ w)) (post : Int32 → Prop) (hp : post (-1)) : ∀ n i, i ≤ La y → La y - i < n → wX_firstActiveExcept_3 post (nI y) (nI x) (nI w) (nI nn) (nI ac) (nI pc) (nI tm) (nI md) (nI lo) (go_B al) (go_N A) (go_N La) (go_N P) (go_N Lp) (go_M E) (go_M D) (go_M W) (go_N T) (go_S U C) n (nI i) := by
  intro n
  induction n with
  | zero => intro i _ hn; exact absurd hn (by omega)
  | succ n ih =>
    intro i hi hn
    have hz : A (y * 4 + i) < 16 := hA _
    refine ⟨vp_in_nI hy (by omega), pk_le (La y) i (fun _ => hp) (fun h2 => ⟨pk_in (y * 4 + i) 64 (by omega) (go_ix4 y i), nm_r (go_rN A (y * 4 + i) (go_ix4 y i) (by omega)) (pk_eq (A (y * 4 + i)) x (fun _ => nm_r (nI_1 i) (ih (i + 1) (by omega) (by omega))) (fun h3 => pk_eq (A (y * 4 + i)) w (fun _ => nm_r (nI_1 i) (ih (i + 1) (by omega) (by omega))) (fun h4 => absurd ⟨h3, h4⟩ (h i h2))))⟩) (go_rN La y rfl (by omega)) rfl (by omega) (by omega)⟩
theorem go_fx1 {x y w i0 : Nat} (hA : ∀ j, A j < 16) (hL : La y ≤ 4) (hx : x < 16) (hy : y < 16) (hw : w < 16) (h0 : i0 < La y) (he : A (y * 4 + i0) ≠ x ∧ A (y * 4 + i0) ≠ w) (hb : ∀ j, j < i0 → ¬ (A (y * 4 + j) ≠ x ∧ A (y * 4 + j) ≠ w)) (post : Int32 → Prop) (hp : post (nI (A (y * 4 + i0)))) : ∀ n i, i ≤ i0 → i0 - i < n → wX_firstActiveExcept_3 post (nI y) (nI x) (nI w) (nI nn) (nI ac) (nI pc) (nI tm) (nI md) (nI lo) (go_B al) (go_N A) (go_N La) (go_N P) (go_N Lp) (go_M E) (go_M D) (go_M W) (go_N T) (go_S U C) n (nI i) := by
  intro n
  induction n with
  | zero => intro i _ hn; exact absurd hn (by omega)
  | succ n ih =>
    intro i hi hn
    have hz : A (y * 4 + i) < 16 := hA _
    have k : ¬ (A (y * 4 + i) ≠ x ∧ A (y * 4 + i) ≠ w) → i < i0 := by
      intro q
      rcases Nat.lt_or_ge i i0 with r | r
      · exact r
      · rw [show i = i0 by omega] at q; exact absurd he q
    refine ⟨vp_in_nI hy (by omega), pk_le (La y) i (fun h2 => absurd h2 (by omega)) (fun h2 => ⟨pk_in (y * 4 + i) 64 (by omega) (go_ix4 y i), nm_r (go_rN A (y * 4 + i) (go_ix4 y i) (by omega)) (pk_eq (A (y * 4 + i)) x (fun h3 => nm_r (nI_1 i) ?_) (fun h3 => pk_eq (A (y * 4 + i)) w (fun h4 => nm_r (nI_1 i) ?_) (fun h4 => ?_)))⟩) (go_rN La y rfl (by omega)) rfl (by omega) (by omega)⟩
    · have q := k (fun z => z.1 h3)
      exact ih (i + 1) (by omega) (by omega)
    · have q := k (fun z => z.2 h4)
      exact ih (i + 1) (by omega) (by omega)
    · have e : i = i0 := by
        rcases Nat.lt_or_ge i i0 with r | r
        · exact absurd ⟨h3, h4⟩ (hb i r)
        · omega
      rw [e]; exact hp
theorem go_pmX {x : Nat} (hP : ∀ j, P j < 16) (hL : Lp x ≤ 8) (hx : x < 16) (post : Int32 → Prop) (hp : post (go_w P (x * 8) (Lp x))) : ∀ n i, i ≤ Lp x → Lp x - i < n → wX_passiveMask_4 post (nI x) (nI nn) (nI ac) (nI pc) (nI tm) (nI md) (nI lo) (go_B al) (go_N A) (go_N La) (go_N P) (go_N Lp) (go_M E) (go_M D) (go_M W) (go_N T) (go_S U C) n (go_w P (x * 8) i) (nI i) := by
  intro n
  induction n with
  | zero => intro i _ hn; exact absurd hn (by omega)
  | succ n ih =>
    intro i hi hn
    refine ⟨vp_in_nI hx (by omega), pk_le (Lp x) i (fun h => ?_) (fun h => ⟨pk_in (x * 8 + i) 128 (by omega) (go_ix8 x i), nm_r (e' := go_w P (x * 8) (i + 1)) (by rw [go_rN P (x * 8 + i) (go_ix8 x i) (by omega)]; rfl) (nm_r (nI_1 i) (ih (i + 1) (by omega) (by omega)))⟩) (go_rN Lp x rfl (by omega)) rfl (by omega) (by omega)⟩
    have e : i = Lp x := by omega
    rw [e]; exact hp
theorem go_amX {x : Nat} (hA : ∀ j, A j < 16) (hL : La x ≤ 4) (hx : x < 16) (post : Int32 → Prop) (hp : post (go_w A (x * 4) (La x))) : ∀ n i, i ≤ La x → La x - i < n → wX_activeMask_4 post (nI x) (nI nn) (nI ac) (nI pc) (nI tm) (nI md) (nI lo) (go_B al) (go_N A) (go_N La) (go_N P) (go_N Lp) (go_M E) (go_M D) (go_M W) (go_N T) (go_S U C) n (go_w A (x * 4) i) (nI i) := by
  intro n
  induction n with
  | zero => intro i _ hn; exact absurd hn (by omega)
  | succ n ih =>
    intro i hi hn
    refine ⟨vp_in_nI hx (by omega), pk_le (La x) i (fun h => ?_) (fun h => ⟨pk_in (x * 4 + i) 64 (by omega) (go_ix4 x i), nm_r (e' := go_w A (x * 4) (i + 1)) (by rw [go_rN A (x * 4 + i) (go_ix4 x i) (by omega)]; rfl) (nm_r (nI_1 i) (ih (i + 1) (by omega) (by omega)))⟩) (go_rN La x rfl (by omega)) rfl (by omega) (by omega)⟩
    have e : i = La x := by omega
    rw [e]; exact hp
end
def go_rU (U : Nat → Bool) (C : Nat → Nat) (x i : Nat) : Nat → Bool := fun s => if s < i ∧ (C s / 2 ^ 20 % 2 ^ 4 = x ∨ C s / 2 ^ 16 % 2 ^ 4 = x) then false else U s
theorem go_rU0 (U : Nat → Bool) (C : Nat → Nat) (x : Nat) : go_rU U C x 0 = U := funext fun s => if_neg (fun h => absurd h.1 (by omega))
theorem go_rUi (U : Nat → Bool) (C : Nat → Nat) (x i : Nat) : go_rU U C x i i = U i := if_neg (fun h => absurd h.1 (by omega))
theorem go_rUa {U : Nat → Bool} {C : Nat → Nat} {x i : Nat} (h : (C i / 2 ^ 20 % 2 ^ 4 = x ∨ C i / 2 ^ 16 % 2 ^ 4 = x) ∨ U i = false) : go_up (go_rU U C x i) i false = go_rU U C x (i + 1) := by
  funext s
  unfold go_up go_rU
  by_cases e : s = i
  · rw [if_pos e, e]
    rcases h with h | h
    · rw [if_pos ⟨by omega, h⟩]
    · rw [h]; split <;> rfl
  · rw [if_neg e]
    by_cases g : s < i ∧ (C s / 2 ^ 20 % 2 ^ 4 = x ∨ C s / 2 ^ 16 % 2 ^ 4 = x)
    · rw [if_pos g, if_pos ⟨by have := g.1; omega, g.2⟩]
    · rw [if_neg g, if_neg (fun z => g ⟨by have := z.1; omega, z.2⟩)]
theorem go_rUb {U : Nat → Bool} {C : Nat → Nat} {x i : Nat} (h : ¬ (C i / 2 ^ 20 % 2 ^ 4 = x ∨ C i / 2 ^ 16 % 2 ^ 4 = x) ∨ U i = false) : go_rU U C x i = go_rU U C x (i + 1) := by
  funext s
  unfold go_rU
  by_cases e : s = i
  · rw [if_neg (fun z => absurd z.1 (by omega)), e]
    rcases h with h | h
    · rw [if_neg (fun z => h z.2)]
    · rw [h]; split <;> rfl
  · by_cases g : s < i ∧ (C s / 2 ^ 20 % 2 ^ 4 = x ∨ C s / 2 ^ 16 % 2 ^ 4 = x)
    · rw [if_pos g, if_pos ⟨by have := g.1; omega, g.2⟩]
    · rw [if_neg g, if_neg (fun z => g ⟨by have := z.1; omega, z.2⟩)]
theorem go_rUS {U : Nat → Bool} {C : Nat → Nat} (S : go_IS U C) (x i : Nat) : go_IS (go_rU U C x i) C := by
  intro s
  refine ⟨(S s).1, fun h => ?_⟩
  unfold go_rU at h
  split at h
  · exact absurd h (by decide)
  · exact (S s).2 h
theorem go_z20 : ((0 : Int32) >>> ((20 : Int32) &&& 31)) &&& 15 = nI 0 := by decide
theorem go_z16 : ((0 : Int32) >>> ((16 : Int32) &&& 31)) &&& 15 = nI 0 := by decide
theorem go_bt1 {b : Nat} (h : b < 16) : bt (nI 65535) b = true := (b_65535 b).trans (decide_eq_true h)
section
variable (nn ac pc tm md lo : Nat) (al : Nat → Bool) (A La P Lp : Nat → Nat) (E D W : Nat → Bool) (T : Nat → Nat) (U : Nat → Bool) (C : Nat → Nat)
theorem go_fpX {x : Nat} (hx : x < 16) (post : St2 → Prop) (hp : post (nI nn, nI ac, nI pc, nI tm, nI md, nI lo, go_B al, go_N A, go_N (go_up La x 0), go_N P, go_N (go_up Lp x 0), go_M (go_z E false (x * 16) (x * 16 + 16)), go_M D, go_M (go_oW W x (nI 65535) 16), go_N (go_ov T 0 x (nI 65535) 16), go_S U C)) : wpX_forgetPeers post (nI nn, nI ac, nI pc, nI tm, nI md, nI lo, go_B al, go_N A, go_N La, go_N P, go_N Lp, go_M E, go_M D, go_M W, go_N T, go_S U C) (nI x) := ⟨vp_in_nI hx (by omega), nm_r (go_uN La x 0 rfl) ⟨vp_in_nI hx (by omega), nm_r (go_uN Lp x 0 rfl) ⟨vp_in_nI hx (by omega), nm_r (go_uMz E x) (go_stop nn ac pc tm md lo al A (go_up La x 0) P (go_up Lp x 0) (go_z E false (x * 16) (x * 16 + 16)) D W T U C (g := 65535) hx _ hp)⟩⟩⟩
theorem go_rmX {x : Nat} (S : go_IS U C) (hx : x < 16) (post : St2 → Prop) (hp : post (nI nn, nI ac, nI pc, nI tm, nI md, nI lo, go_B al, go_N A, go_N La, go_N P, go_N Lp, go_M E, go_M D, go_M W, go_N T, go_S (go_rU U C x 64) C)) : ∀ n i, i ≤ 64 → 64 - i < n → wX_removeMessagesOf_2 post (nI x) (nI nn) (nI ac) (nI pc) (nI tm) (nI md) (nI lo) n (nI i) (go_B al) (go_N A) (go_N La) (go_N P) (go_N Lp) (go_M E) (go_M D) (go_M W) (go_N T) (go_S (go_rU U C x i) C) := by
  intro n
  induction n with
  | zero => intro i _ hn; exact absurd hn (by omega)
  | succ n ih =>
    intro i hi hn
    refine pk_le 64 i (fun h => ?_) (fun h => ?_)
    · have e : i = 64 := by omega
      rw [e]; exact hp
    · have hv : vp_in (nI i) 64 := vp_in_nI h (by omega)
      have w := ih (i + 1) (by omega) (by omega)
      cases hU : U i with
      | false =>
        have r0 : go_S (go_rU U C x i) C (nI i).toNatClampNeg = 0 := (go_S0 (go_rUS S x i) i).mpr ((go_rUi U C x i).trans hU)
        have e1 : (go_S (go_rU U C x i) C (nI i).toNatClampNeg >>> ((20 : Int32) &&& 31)) &&& 15 = nI 0 := by rw [r0]; exact go_z20
        have e2 : (go_S (go_rU U C x i) C (nI i).toNatClampNeg >>> ((16 : Int32) &&& 31)) &&& 15 = nI 0 := by rw [r0]; exact go_z16
        have s1 : upd (go_S (go_rU U C x i) C) (nI i).toNatClampNeg 0 = go_S (go_rU U C x (i + 1)) C := by rw [go_uSf _ C i, go_rUa (Or.inr hU)]
        have w2 := w
        rw [← go_rUb (Or.inr hU)] at w2
        exact ⟨hv, nm_r e1 ⟨hv, nm_r e2 (br_c (fun _ => ⟨hv, nm_r s1 (nm_r (nI_1 i) w)⟩) (fun _ => br_c (fun _ => ⟨hv, nm_r s1 (nm_r (nI_1 i) w)⟩) (fun _ => nm_r (nI_1 i) w2)))⟩⟩
      | true =>
        have hc := (S i).1
        have r1 : go_S (go_rU U C x i) C (nI i).toNatClampNeg = nI (C i) := go_rS i ((go_rUi U C x i).trans hU)
        have e1 : (go_S (go_rU U C x i) C (nI i).toNatClampNeg >>> ((20 : Int32) &&& 31)) &&& 15 = nI (C i / 2 ^ 20 % 2 ^ 4) := by rw [r1]; exact go_d20 hc
        have e2 : (go_S (go_rU U C x i) C (nI i).toNatClampNeg >>> ((16 : Int32) &&& 31)) &&& 15 = nI (C i / 2 ^ 16 % 2 ^ 4) := by rw [r1]; exact go_d16 hc
        have s1 : ∀ (q : C i / 2 ^ 20 % 2 ^ 4 = x ∨ C i / 2 ^ 16 % 2 ^ 4 = x), upd (go_S (go_rU U C x i) C) (nI i).toNatClampNeg 0 = go_S (go_rU U C x (i + 1)) C := fun q => by rw [go_uSf _ C i, go_rUa (Or.inl q)]
        refine ⟨hv, nm_r e1 ⟨hv, nm_r e2 (pk_eq (C i / 2 ^ 20 % 2 ^ 4) x (fun q => ⟨hv, nm_r (s1 (Or.inl q)) (nm_r (nI_1 i) w)⟩) (fun q1 => pk_eq (C i / 2 ^ 16 % 2 ^ 4) x (fun q => ⟨hv, nm_r (s1 (Or.inr q)) (nm_r (nI_1 i) w)⟩) (fun q2 => nm_r (nI_1 i) ?_)))⟩⟩
        rw [← go_rUb (Or.inl (fun z => z.elim q1 q2))] at w
        exact w
theorem go_ndX {j : Nat} (hn : nn ≤ 16) (hj : j < nn) (post : Int32 → Prop) (hp : post 1) : wpX_isNode post (nI nn, nI ac, nI pc, nI tm, nI md, nI lo, go_B al, go_N A, go_N La, go_N P, go_N Lp, go_M E, go_M D, go_M W, go_N T, go_S U C) (nI j) := br_f (nI_pos (by omega)) (br_f (nI_ge hj (by omega)) hp)
theorem go_ndX0 {v : Int32} (hv : v < 0 ∨ nI nn ≤ v) (post : Int32 → Prop) (hp : post 0) : wpX_isNode post (nI nn, nI ac, nI pc, nI tm, nI md, nI lo, go_B al, go_N A, go_N La, go_N P, go_N Lp, go_M E, go_M D, go_M W, go_N T, go_S U C) v := br_c (fun _ => hp) (fun q => br_t (hv.resolve_left q) hp)
theorem go_alX {j : Nat} (hn : nn ≤ 16) (hj : j < nn) (ha : al j = true) (post : Int32 → Prop) (hp : post 1) : wpX_isAlive post (nI nn, nI ac, nI pc, nI tm, nI md, nI lo, go_B al, go_N A, go_N La, go_N P, go_N Lp, go_M E, go_M D, go_M W, go_N T, go_S U C) (nI j) := by
  unfold wpX_isAlive
  exact go_ndX nn ac pc tm md lo al A La P Lp E D W T U C hn hj _ (br_f (by decide) ⟨vp_in_nI (by omega) (by omega), br_f (go_bn al j ha) hp⟩)
theorem go_alX0 {v : Int32} (hn : nn ≤ 16) (hv : (v < 0 ∨ nI nn ≤ v) ∨ ∃ j, j < nn ∧ v = nI j ∧ al j = false) (post : Int32 → Prop) (hp : post 0) : wpX_isAlive post (nI nn, nI ac, nI pc, nI tm, nI md, nI lo, go_B al, go_N A, go_N La, go_N P, go_N Lp, go_M E, go_M D, go_M W, go_N T, go_S U C) v := by
  unfold wpX_isAlive
  rcases hv with hv | ⟨j, hj, e, ha⟩
  · exact go_ndX0 nn ac pc tm md lo al A La P Lp E D W T U C hv _ (br_t rfl hp)
  · rw [e]
    exact go_ndX nn ac pc tm md lo al A La P Lp E D W T U C hn hj _ (br_f (by decide) ⟨vp_in_nI (by omega) (by omega), br_t (go_bz al j ha) hp⟩)
end
theorem go_low {m : Int32} {i0 : Nat} (h0 : i0 < 16) (hz : ∀ j, j < i0 → (m &&& ((1 : Int32) <<< (nI j &&& 31))) = 0) (hn : ¬ (m &&& ((1 : Int32) <<< (nI i0 &&& 31))) = 0) (post : Int32 → Prop) (hp : post (nI i0)) : ∀ n i, i ≤ i0 → i0 - i < n → wX_lowestNode_2 post m n (nI i) := by
  intro n
  induction n with
  | zero => intro i _ hn; exact absurd hn (by omega)
  | succ n ih =>
    intro i hi hn'
    refine pk_le 16 i (fun h => absurd h (by omega)) (fun h => ?_)
    by_cases e : i = i0
    · rw [e]; exact br_f hn hp
    · exact br_t (hz i (by omega)) (nm_r (nI_1 i) (ih (i + 1) (by omega) (by omega)))
section
variable (nn ac pc tm md lo : Nat) (al : Nat → Bool) (A La P Lp : Nat → Nat) (E D W : Nat → Bool) (T : Nat → Nat) (U : Nat → Bool) (C : Nat → Nat)
theorem go_cd0 {x b : Nat} (hx : x < 16) (hb : b < 16) (h : T (x * 16 + b) = 0) (post : Int32 → St2 → Prop) (hp : post 0 (nI nn, nI ac, nI pc, nI tm, nI md, nI lo, go_B al, go_N A, go_N La, go_N P, go_N Lp, go_M E, go_M D, go_M W, go_N T, go_S U C)) : wpX_countDownEnds post (nI nn, nI ac, nI pc, nI tm, nI md, nI lo, go_B al, go_N A, go_N La, go_N P, go_N Lp, go_M E, go_M D, go_M W, go_N T, go_S U C) (nI x) (nI b) := nm_r (go_ix16 x b) ⟨vp_in_nI (by omega) (by omega), br_t (by rw [go_rN T (x * 16 + b) rfl (by omega), h]; exact nI_0) hp⟩
theorem go_cd1 {x b : Nat} (hT : ∀ j, T j ≤ 8) (hx : x < 16) (hb : b < 16) (h : 1 < T (x * 16 + b)) (post : Int32 → St2 → Prop) (hp : post 0 (nI nn, nI ac, nI pc, nI tm, nI md, nI lo, go_B al, go_N A, go_N La, go_N P, go_N Lp, go_M E, go_M D, go_M W, go_N (go_up T (x * 16 + b) (T (x * 16 + b) - 1)), go_S U C)) : wpX_countDownEnds post (nI nn, nI ac, nI pc, nI tm, nI md, nI lo, go_B al, go_N A, go_N La, go_N P, go_N Lp, go_M E, go_M D, go_M W, go_N T, go_S U C) (nI x) (nI b) := by
  have hv : vp_in (nI (x * 16 + b)) 256 := vp_in_nI (by omega) (by omega)
  have r := go_rN (e := nI (x * 16 + b)) T (x * 16 + b) rfl (by omega)
  have h8 := hT (x * 16 + b)
  have s : go_N T (nI (x * 16 + b)).toNatClampNeg - 1 = nI (T (x * 16 + b) - 1) := by rw [r]; exact pk_sub (b := 1) (by omega)
  have r2 : go_N (go_up T (x * 16 + b) (T (x * 16 + b) - 1)) (nI (x * 16 + b)).toNatClampNeg = nI (T (x * 16 + b) - 1) := by rw [go_rN _ (x * 16 + b) rfl (by omega), go_us]
  exact nm_r (go_ix16 x b) ⟨hv, br_f (by rw [r]; exact nI_ne0 (by omega) (by omega)) ⟨hv, hv, nm_r (go_uN T (x * 16 + b) (T (x * 16 + b) - 1) s) ⟨hv, br_f (by rw [r2]; exact nI_ne0 (by omega) (by omega)) hp⟩⟩⟩
theorem go_cd2 {x b : Nat} (hx : x < 16) (hb : b < 16) (h : T (x * 16 + b) = 1) (hW : go_M W (x * 16 + b) = 0) (post : Int32 → St2 → Prop) (hp : post 0 (nI nn, nI ac, nI pc, nI tm, nI md, nI lo, go_B al, go_N A, go_N La, go_N P, go_N Lp, go_M E, go_M D, go_M W, go_N (go_up T (x * 16 + b) 0), go_S U C)) : wpX_countDownEnds post (nI nn, nI ac, nI pc, nI tm, nI md, nI lo, go_B al, go_N A, go_N La, go_N P, go_N Lp, go_M E, go_M D, go_M W, go_N T, go_S U C) (nI x) (nI b) := by
  have hv : vp_in (nI (x * 16 + b)) 256 := vp_in_nI (by omega) (by omega)
  have r := go_rN (e := nI (x * 16 + b)) T (x * 16 + b) rfl (by omega)
  have s : go_N T (nI (x * 16 + b)).toNatClampNeg - 1 = nI 0 := by rw [r, h]; decide
  have r2 : go_N (go_up T (x * 16 + b) 0) (nI (x * 16 + b)).toNatClampNeg = 0 := by rw [go_rN _ (x * 16 + b) rfl (by omega), go_us]; exact nI_0
  exact nm_r (go_ix16 x b) ⟨hv, br_f (by rw [r, h]; decide) ⟨hv, hv, nm_r (go_uN T (x * 16 + b) 0 s) ⟨hv, br_t r2 ⟨hv, br_t (by rw [go_rM W (x * 16 + b)]; exact hW) hp⟩⟩⟩⟩
theorem go_cd3 {x b : Nat} (hx : x < 16) (hb : b < 16) (h : T (x * 16 + b) = 1) (hW : ¬ go_M W (x * 16 + b) = 0) (post : Int32 → St2 → Prop) (hp : post 1 (nI nn, nI ac, nI pc, nI tm, nI md, nI lo, go_B al, go_N A, go_N La, go_N P, go_N Lp, go_M E, go_M D, go_M W, go_N (go_up T (x * 16 + b) 0), go_S U C)) : wpX_countDownEnds post (nI nn, nI ac, nI pc, nI tm, nI md, nI lo, go_B al, go_N A, go_N La, go_N P, go_N Lp, go_M E, go_M D, go_M W, go_N T, go_S U C) (nI x) (nI b) := by
  have hv : vp_in (nI (x * 16 + b)) 256 := vp_in_nI (by omega) (by omega)
  have r := go_rN (e := nI (x * 16 + b)) T (x * 16 + b) rfl (by omega)
  have s : go_N T (nI (x * 16 + b)).toNatClampNeg - 1 = nI 0 := by rw [r, h]; decide
  have r2 : go_N (go_up T (x * 16 + b) 0) (nI (x * 16 + b)).toNatClampNeg = 0 := by rw [go_rN _ (x * 16 + b) rfl (by omega), go_us]; exact nI_0
  exact nm_r (go_ix16 x b) ⟨hv, br_f (by rw [r, h]; decide) ⟨hv, hv, nm_r (go_uN T (x * 16 + b) 0 s) ⟨hv, br_t r2 ⟨hv, br_f (by rw [go_rM W (x * 16 + b)]; exact hW) hp⟩⟩⟩⟩
theorem go_tkD {x cnt : Nat} (hx : x < 16) (hal : al x = false) (post : Int32 → St2 → Prop) (J : Int32 → Int32 → Int32 → Int32 → Int32 → Int32 → Int32 → Int32 → (Nat → Int32) → (Nat → Int32) → (Nat → Int32) → (Nat → Int32) → (Nat → Int32) → (Nat → Int32) → (Nat → Int32) → (Nat → Int32) → (Nat → Int32) → (Nat → Int32) → Prop) (hJ : J (nI cnt) (nI (x + 1)) (nI nn) (nI ac) (nI pc) (nI tm) (nI md) (nI lo) (go_B al) (go_N A) (go_N La) (go_N P) (go_N Lp) (go_M E) (go_M D) (go_M W) (go_N T) (go_S U C)) : ∀ n b, b ≤ 16 → 16 - b < n → wX_tick_14 post J (nI x) n (nI cnt) (nI b) (nI nn) (nI ac) (nI pc) (nI tm) (nI md) (nI lo) (go_B al) (go_N A) (go_N La) (go_N P) (go_N Lp) (go_M E) (go_M D) (go_M W) (go_N T) (go_S U C) := by
  intro n
  induction n with
  | zero => intro i _ hn; exact absurd hn (by omega)
  | succ n ih =>
    intro b hb hn
    exact pk_le 16 b (fun _ => nm_r (nI_1 x) hJ) (fun h2 => ⟨vp_in_nI hx (by omega), br_t (go_bz al x hal) (nm_r (nI_1 b) (ih (b + 1) (by omega) (by omega)))⟩)
theorem go_usX {s : Nat} (S : go_IS U C) (hs : s < 64) (hU : U s = true) (post : Int32 → Prop) (hp : post 1) : wpX_isUsed post (nI nn, nI ac, nI pc, nI tm, nI md, nI lo, go_B al, go_N A, go_N La, go_N P, go_N Lp, go_M E, go_M D, go_M W, go_N T, go_S U C) (nI s) := br_f (nI_pos (by omega)) (br_f (nI_ge (b := 64) hs (by omega)) ⟨vp_in_nI hs (by omega), br_f (fun q => by rw [(go_S0 S s).mp q] at hU; exact absurd hU (by decide)) hp⟩)
theorem go_usX0 {v : Int32} (S : go_IS U C) (hv : (v < 0 ∨ nI 64 ≤ v) ∨ ∃ s, s < 64 ∧ v = nI s ∧ U s = false) (post : Int32 → Prop) (hp : post 0) : wpX_isUsed post (nI nn, nI ac, nI pc, nI tm, nI md, nI lo, go_B al, go_N A, go_N La, go_N P, go_N Lp, go_M E, go_M D, go_M W, go_N T, go_S U C) v := by
  rcases hv with hv | ⟨s, hs, e, hU⟩
  · exact br_c (fun _ => hp) (fun q => br_t (hv.resolve_left q) hp)
  · rw [e]
    exact br_f (nI_pos (by omega)) (br_f (nI_ge (b := 64) hs (by omega)) ⟨vp_in_nI hs (by omega), br_t ((go_S0 S s).mpr hU) hp⟩)
end
end
section
def go_Z (ac pc : Nat) (A La P Lp : Nat → Nat) (E : Nat → Bool) (T : Nat → Nat) (U : Nat → Bool) (C : Nat → Nat) : Prop := go_IV4 ac A La ∧ go_IE A La E ∧ go_IV8 pc P Lp ∧ (∀ j, T j ≤ 8) ∧ go_IS U C
/-- a link that is new is announced, unless a send was lost -/
def go_lr (al D : Nat → Bool) (A La A' La' : Nat → Nat) (U' : Nat → Bool) (C' : Nat → Nat) (lo lo' : Nat) : Prop := ∀ z w, go_lk A' La' z w → go_lk A La z w ∨ (lo' = lo → al w = true → ∀ b, b < 16 → D (z * 16 + b) = true → go_hs U' C' 10 z w b)
theorem go_lr0 (al D : Nat → Bool) (A La : Nat → Nat) (U' : Nat → Bool) (C' : Nat → Nat) (lo lo' : Nat) : go_lr al D A La A La U' C' lo lo' := fun _ _ h => Or.inl h
theorem go_lrp {al D : Nat → Bool} {A La A' La' : Nat → Nat} {U U1 U2 : Nat → Bool} {C C1 C2 : Nat → Nat} {lo lo1 lo2 : Nat} {N N' : Nat → Prop} (h : go_lr al D A La A' La' U1 C1 lo lo1) (p : go_pe U C lo U1 C1 lo1 N) (q : go_pe U1 C1 lo1 U2 C2 lo2 N') : go_lr al D A La A' La' U2 C2 lo lo2 := by
  intro z w g
  rcases h z w g with g | g
  · exact Or.inl g
  · refine Or.inr (fun e aw b hb d => go_hsp q (g ?_ aw b hb d))
    have := p.2.2
    have := q.2.2
    omega
theorem go_ivr {al D W : Nat → Bool} {T : Nat → Nat} {A La A' La' : Nat → Nat} {U U1 : Nat → Bool} {C C1 : Nat → Nat} {lo lo1 : Nat} {N : Nat → Prop} (g : go_inv al A La D W T U C) (p : go_pe U C lo U1 C1 lo1 N) (h : go_lr al D A La A' La' U1 C1 lo lo1) (e : lo1 = lo) : go_inv al A' La' D W T U1 C1 := by
  intro x y b hx hy hb ax ay l d
  rcases h x y l with q | q
  · exact go_okp p (g x y b hx hy hb ax ay q d)
  · exact Or.inr (Or.inr (Or.inl (q e ay b hb d)))
section
variable (nn ac pc tm md lo : Nat) (al : Nat → Bool) (A La P Lp : Nat → Nat) (E D W : Nat → Bool) (T : Nat → Nat) (U : Nat → Bool) (C : Nat → Nat)
theorem go_send {x y k a : Nat} (I : go_IS U C) (hl : lo + 1 < 2 ^ 31) (hx : x < 16) (hy : y < 16) (hk0 : 0 < k) (hk : k < 128) (ha : a < 65536) : ∃ (U' : Nat → Bool) (C' : Nat → Nat) (lo' : Nat), go_IS U' C' ∧ lo' ≤ lo + 1 ∧ go_pe U C lo U' C' lo' (fun c => c = go_cd k x y a) ∧ (lo' = lo → al y = true → go_gt U' C' (go_cd k x y a)) ∧ (∀ post : St2 → Prop, post (nI nn, nI ac, nI pc, nI tm, nI md, nI lo', go_B al, go_N A, go_N La, go_N P, go_N Lp, go_M E, go_M D, go_M W, go_N T, go_S U' C') → wpX_send post (nI nn, nI ac, nI pc, nI tm, nI md, nI lo, go_B al, go_N A, go_N La, go_N P, go_N Lp, go_M E, go_M D, go_M W, go_N T, go_S U C) (nI x) (nI y) (nI k) (nI a)) := by
  have hc := go_cdI k x y a hk hx hy ha
  obtain ⟨hc0, hc1, _⟩ := go_cdb hk0 hk hx hy ha
  cases hal : al y with
  | false => exact ⟨U, C, lo, I, by omega, go_pe0 U C lo _, fun _ q => absurd q (by decide), fun post hp => ⟨vp_in_nI hy (by omega), br_t (go_bz al y hal) hp⟩⟩
  | true =>
    rcases go_first (fun s => U s = false) 64 with h | ⟨s, hs, hf, hb⟩
    · have h' : ∀ s, s < 64 → U s = true := fun s hs => by have := h s hs; simpa using this
      exact ⟨U, C, lo + 1, I, by omega, ⟨fun _ h => ⟨h, rfl⟩, fun _ h => Or.inl ⟨h, rfl⟩, by omega⟩, fun q => absurd q (by omega), fun post hp => ⟨vp_in_nI hy (by omega), br_f (go_bn al y hal) ⟨65, go_sXf nn ac pc tm md lo al A La P Lp E D W T U C I hl h' post hp 65 0 (by omega) (by omega)⟩⟩⟩
    · refine ⟨go_up U s true, go_up C s (go_cd k x y a), lo, go_ISt I s _ hc0 hc1, by omega, ⟨fun t h => ?_, fun t h => ?_, Nat.le_refl _⟩, fun _ _ => ⟨s, hs, go_us, go_us⟩, fun post hp => ⟨vp_in_nI hy (by omega), br_f (go_bn al y hal) ⟨65, go_sXs nn ac pc tm md lo al A La P Lp E D W T U C I hc hs hf hb post hp 65 0 (by omega) (by omega)⟩⟩⟩
      · have e : t ≠ s := fun q => by rw [q, hf] at h; exact absurd h (by decide)
        exact ⟨(go_un e).trans h, go_un e⟩
      · by_cases e : t = s
        · rw [e]; exact Or.inr go_us
        · rw [go_un e] at h; exact Or.inl ⟨h, go_un e⟩
theorem go_addP {x y : Nat} (hac : ac ≤ 4) (IA : go_IV4 ac A La) (hpc : 1 ≤ pc ∧ pc ≤ 8) (I : go_IV8 pc P Lp) (hx : x < 16) (hy : y < 16) : ∃ (P' Lp' : Nat → Nat), go_IV8 pc P' Lp' ∧ (∀ post : St2 → Prop, post (nI nn, nI ac, nI pc, nI tm, nI md, nI lo, go_B al, go_N A, go_N La, go_N P', go_N Lp', go_M E, go_M D, go_M W, go_N T, go_S U C) → wpX_addPassive post (nI nn, nI ac, nI pc, nI tm, nI md, nI lo, go_B al, go_N A, go_N La, go_N P, go_N Lp, go_M E, go_M D, go_M W, go_N T, go_S U C) (nI x) (nI y)) := by
  have hla := IA.2.1 x
  have hlp := I.2.1 x
  by_cases e : y = x
  · exact ⟨P, Lp, I, fun post hp => br_t (by rw [e]) hp⟩
  have e' : ¬ nI y = nI x := by rw [nI_eq (by omega) (by omega)]; exact e
  rcases go_first (fun i => A (x * 4 + i) = y) (La x) with hA | ⟨i, hi, hAi, hAb⟩
  rotate_left
  · exact ⟨P, Lp, I, fun post hp => br_f e' (go_isy4 nn ac pc tm md lo al A La P Lp E D W T U C IA.1 (by omega) hx hy hi hAi _ (br_f (by decide) hp))⟩
  rcases go_first (fun i => P (x * 8 + i) = y) (Lp x) with hP | ⟨i, hi, hPi, hPb⟩
  rotate_left
  · exact ⟨P, Lp, I, fun post hp => br_f e' (go_is4 nn ac pc tm md lo al A La P Lp E D W T U C IA.1 (by omega) hx hy hA _ (br_t rfl (go_isy8 nn ac pc tm md lo al A La P Lp E D W T U C I.1 (by omega) hx hy hi hPi _ (br_f (by decide) hp))))⟩
  by_cases hf : Lp x = pc
  · have h0 : 0 < Lp x := by omega
    have I2 := go_rm8 hpc.2 I h0
    have l2 : go_up Lp x (Lp x - 1) x = Lp x - 1 := go_us
    have n2 : ∀ i, i < go_up Lp x (Lp x - 1) x → go_sh P (x * 8 + 0) (x * 8 + (Lp x - 1)) (x * 8 + i) ≠ y := by
      intro i hi
      rw [l2] at hi
      rw [go_rm8_at h0 hi, if_neg (by omega)]
      exact hP (i + 1) (by omega)
    have I3 := go_ap8 hpc.2 I2 (by rw [l2]; omega) hy n2
    have c1 : go_N Lp (nI x).toNatClampNeg = nI pc := by rw [go_rN Lp x rfl (by omega), hf]
    have c2 : nI x * 8 = nI (x * 8) := pk_mul x 8
    have c3 : go_N P (nI x * 8).toNatClampNeg = nI (P (x * 8 + 0)) := go_rN P (x * 8) c2 (by omega)
    have hz : P (x * 8 + 0) < 16 := I.1 _
    refine ⟨_, _, I3, fun post hp => br_f e' (go_is4 nn ac pc tm md lo al A La P Lp E D W T U C IA.1 (by omega) hx hy hA _ (br_t rfl (go_is8 nn ac pc tm md lo al A La P Lp E D W T U C I.1 (by omega) hx hy hP _ (br_t rfl ⟨vp_in_nI hx (by omega), br_t c1 ⟨pk_in (x * 8) 128 (by omega) c2, nm_r c3 ?_⟩⟩))))⟩
    exact go_rX18 nn ac pc tm md lo al A La P Lp E D W T U C hpc.2 I hx hz h0 rfl _ (go_pyX nn ac pc tm md lo al A La (go_sh P (x * 8 + 0) (x * 8 + (Lp x - 1))) (go_up Lp x (Lp x - 1)) E D W T U C hx hy (by rw [l2]; omega) post hp)
  · have I3 := go_ap8 hpc.2 I (by omega) hy hP
    have c1 : ¬ go_N Lp (nI x).toNatClampNeg = nI pc := by rw [go_rN Lp x rfl (by omega), nI_eq (by omega) (by omega)]; exact hf
    exact ⟨_, _, I3, fun post hp => br_f e' (go_is4 nn ac pc tm md lo al A La P Lp E D W T U C IA.1 (by omega) hx hy hA _ (br_t rfl (go_is8 nn ac pc tm md lo al A La P Lp E D W T U C I.1 (by omega) hx hy hP _ (br_t rfl ⟨vp_in_nI hx (by omega), br_f c1 (go_pyX nn ac pc tm md lo al A La P Lp E D W T U C hx hy (by omega) post hp)⟩))))⟩
theorem go_ih {x y : Nat} (I : go_IS U C) (hl : lo + 1 < 2 ^ 31) (hx : x < 16) (hy : y < 16) : ∃ (U' : Nat → Bool) (C' : Nat → Nat) (lo' : Nat), go_IS U' C' ∧ lo' ≤ lo + 1 ∧ go_pe U C lo U' C' lo' (go_ms D) ∧ (lo' = lo → al y = true → ∀ b, b < 16 → D (x * 16 + b) = true → go_hs U' C' 10 x y b) ∧ (∀ post : St2 → Prop, post (nI nn, nI ac, nI pc, nI tm, nI md, nI lo', go_B al, go_N A, go_N La, go_N P, go_N Lp, go_M E, go_M D, go_M W, go_N T, go_S U' C') → wX_addActive_127 post (nI x) (nI y) (nI nn) (nI ac) (nI pc) (nI tm) (nI md) (nI lo) (go_B al) (go_N A) (go_N La) (go_N P) (go_N Lp) (go_M E) (go_M D) (go_M W) (go_N T) (go_S U C)) := by
  have r := go_rM (e := nI x) D x rfl (by omega)
  by_cases h : go_M D x = 0
  · refine ⟨U, C, lo, I, by omega, go_pe0 U C lo _, fun _ _ b hb d => ?_, fun post hp => ⟨vp_in_nI hx (by omega), br_t (r.trans h) hp⟩⟩
    rw [(go_M0 D x).mp h b hb] at d
    exact absurd d (by decide)
  · obtain ⟨m, hm, em⟩ := go_Mn D x
    obtain ⟨U', C', lo', I', hl', hpe, hgt, hX⟩ := go_send nn ac pc tm md lo al A La P Lp E D W T U C (k := 10) I hl hx hy (by omega) (by omega) hm
    refine ⟨U', C', lo', I', hl', go_pew hpe (fun c hc => by rw [hc]; exact go_msn (by omega) (by omega) hx hy hm (by omega)), fun e ay b hb d => go_gth (by omega) (by omega) hx hy hm hb ?_ (hgt e ay), fun post hp => ⟨vp_in_nI hx (by omega), br_f (by rw [r]; exact h) ⟨vp_in_nI hx (by omega), ?_⟩⟩⟩
    · rw [← em, go_Mb D x b (by omega), decide_eq_true hb, Bool.true_and]; exact d
    · rw [r, em]
      exact hX _ hp
theorem go_ta {x y : Nat} (lk : Bool) (I : go_IS U C) (hl : lo + 2 < 2 ^ 31) (hx : x < 16) (hy : y < 16) (hn : La x < 4) : ∃ (U' : Nat → Bool) (C' : Nat → Nat) (lo' : Nat), go_IS U' C' ∧ lo' ≤ lo + 2 ∧ go_pe U C lo U' C' lo' (go_ms D) ∧ (lo' = lo → al y = true → ∀ b, b < 16 → D (x * 16 + b) = true → go_hs U' C' 10 x y b) ∧ (∀ post : St2 → Prop, post (nI nn, nI ac, nI pc, nI tm, nI md, nI lo', go_B al, go_N (go_up A (x * 4 + La x) y), go_N (go_up La x (La x + 1)), go_N P, go_N Lp, go_M (go_up E (x * 16 + y) true), go_M D, go_M W, go_N T, go_S U' C') → wX_addActive_77 post (nI x) (nI y) (go_c lk) (nI nn) (nI ac) (nI pc) (nI tm) (nI md) (nI lo) (go_B al) (go_N A) (go_N La) (go_N P) (go_N Lp) (go_M E) (go_M D) (go_M W) (go_N T) (go_S U C)) := by
  have e1 : nI x * 4 + go_N La (nI x).toNatClampNeg = nI (x * 4 + La x) := by rw [go_rN La x rfl (by omega)]; exact go_ix4 x (La x)
  have e2 : go_N La (nI x).toNatClampNeg + 1 = nI (La x + 1) := by rw [go_rN La x rfl (by omega)]; exact nI_1 _
  cases lk with
  | false =>
    obtain ⟨U', C', lo', I', hl', hpe, hh, hX⟩ := go_ih nn ac pc tm md lo al (go_up A (x * 4 + La x) y) (go_up La x (La x + 1)) P Lp (go_up E (x * 16 + y) true) D W T U C I (by omega) hx hy
    exact ⟨U', C', lo', I', by omega, hpe, hh, fun post hp => ⟨vp_in_nI hx (by omega), pk_in (x * 4 + La x) 64 (by omega) e1, nm_r (go_uN A (x * 4 + La x) y rfl e1) ⟨vp_in_nI hx (by omega), vp_in_nI hx (by omega), nm_r (go_uN La x (La x + 1) e2) ⟨vp_in_nI hx (by omega), vp_in_nI hx (by omega), nm_r (go_uMs E x y hy) (br_t rfl (hX post hp))⟩⟩⟩⟩
  | true =>
    obtain ⟨U1, C1, lo1, I1, hl1, hpe1, _, hX1⟩ := go_send nn ac pc tm md lo al (go_up A (x * 4 + La x) y) (go_up La x (La x + 1)) P Lp (go_up E (x * 16 + y) true) D W T U C (k := 3) (a := 0) I (by omega) hx hy (by omega) (by omega) (by omega)
    obtain ⟨U', C', lo', I', hl', hpe, hh, hX⟩ := go_ih nn ac pc tm md lo1 al (go_up A (x * 4 + La x) y) (go_up La x (La x + 1)) P Lp (go_up E (x * 16 + y) true) D W T U1 C1 I1 (by omega) hx hy
    have q1 := hpe1.2.2
    have q2 := hpe.2.2
    exact ⟨U', C', lo', I', by omega, go_pet (go_pew hpe1 (fun c hc => by rw [hc]; exact go_msn (by omega) (by omega) hx hy (by omega) (by omega))) hpe, fun e => hh (by omega), fun post hp => ⟨vp_in_nI hx (by omega), pk_in (x * 4 + La x) 64 (by omega) e1, nm_r (go_uN A (x * 4 + La x) y rfl e1) ⟨vp_in_nI hx (by omega), vp_in_nI hx (by omega), nm_r (go_uN La x (La x + 1) e2) ⟨vp_in_nI hx (by omega), vp_in_nI hx (by omega), nm_r (go_uMs E x y hy) (br_f (by decide) (hX1 _ (hX post hp)))⟩⟩⟩⟩
theorem go_remP {x y : Nat} (hpc : 1 ≤ pc ∧ pc ≤ 8) (I : go_IV8 pc P Lp) (hx : x < 16) (hy : y < 16) : ∃ (P' Lp' : Nat → Nat), go_IV8 pc P' Lp' ∧ (∀ post : St2 → Prop, post (nI nn, nI ac, nI pc, nI tm, nI md, nI lo, go_B al, go_N A, go_N La, go_N P', go_N Lp', go_M E, go_M D, go_M W, go_N T, go_S U C) → wpX_removePassive post (nI nn, nI ac, nI pc, nI tm, nI md, nI lo, go_B al, go_N A, go_N La, go_N P, go_N Lp, go_M E, go_M D, go_M W, go_N T, go_S U C) (nI x) (nI y)) := by
  rcases go_first (fun i => P (x * 8 + i) = y) (Lp x) with hP | ⟨i, hi, hPi, hPb⟩
  · exact ⟨P, Lp, I, fun post hp => go_rX08 nn ac pc tm md lo al A La P Lp E D W T U C hpc.2 I hx hy hP post hp⟩
  · exact ⟨_, _, go_rm8 hpc.2 I hi, fun post hp => go_rX18 nn ac pc tm md lo al A La P Lp E D W T U C hpc.2 I hx hy hi hPi post hp⟩
theorem go_addA {x y : Nat} (lk : Bool) (hac : 2 ≤ ac ∧ ac ≤ 4) (IA : go_IV4 ac A La) (JE : go_IE A La E) (hpc : 1 ≤ pc ∧ pc ≤ 8) (I : go_IV8 pc P Lp) (S : go_IS U C) (hl : lo + 3 < 2 ^ 31) (hx : x < 16) (hy : y < 16) : ∃ (A' La' : Nat → Nat) (E' : Nat → Bool) (P' Lp' : Nat → Nat) (U' : Nat → Bool) (C' : Nat → Nat) (lo' : Nat), go_IV4 ac A' La' ∧ go_IE A' La' E' ∧ go_IV8 pc P' Lp' ∧ go_IS U' C' ∧ lo' ≤ lo + 3 ∧ go_pe U C lo U' C' lo' (go_ms D) ∧ go_lr al D A La A' La' U' C' lo lo' ∧ (∀ post : St2 → Prop, post (nI nn, nI ac, nI pc, nI tm, nI md, nI lo', go_B al, go_N A', go_N La', go_N P', go_N Lp', go_M E', go_M D, go_M W, go_N T, go_S U' C') → wpX_addActive post (nI nn, nI ac, nI pc, nI tm, nI md, nI lo, go_B al, go_N A, go_N La, go_N P, go_N Lp, go_M E, go_M D, go_M W, go_N T, go_S U C) (nI x) (nI y) (go_c lk)) := by
  have hla := IA.2.1 x
  by_cases e : y = x
  · exact ⟨A, La, E, P, Lp, U, C, lo, IA, JE, I, S, by omega, go_pe0 U C lo _, go_lr0 _ _ _ _ _ _ _ _, fun post hp => br_t (by rw [e]) hp⟩
  have e' : ¬ nI y = nI x := by rw [nI_eq (by omega) (by omega)]; exact e
  cases hal : al y with
  | false => exact ⟨A, La, E, P, Lp, U, C, lo, IA, JE, I, S, by omega, go_pe0 U C lo _, go_lr0 _ _ _ _ _ _ _ _, fun post hp => br_f e' ⟨vp_in_nI hy (by omega), br_t (go_bz al y hal) hp⟩⟩
  | true =>
    rcases go_first (fun i => A (x * 4 + i) = y) (La x) with hA | ⟨i, hi, hAi, hAb⟩
    rotate_left
    · exact ⟨A, La, E, P, Lp, U, C, lo, IA, JE, I, S, by omega, go_pe0 U C lo _, go_lr0 _ _ _ _ _ _ _ _, fun post hp => br_f e' ⟨vp_in_nI hy (by omega), br_f (go_bn al y hal) (go_isy4 nn ac pc tm md lo al A La P Lp E D W T U C IA.1 (by omega) hx hy hi hAi _ (br_f (by decide) hp))⟩⟩
    obtain ⟨P1, Lp1, I1, hX1⟩ := go_remP nn ac pc tm md lo al A La P Lp E D W T U C hpc I hx hy
    by_cases hf : La x = ac
    · have h0 : 0 < La x := by omega
      have hz : A (x * 4 + 0) < 16 := IA.1 _
      have I2 := go_rm4 hac.2 IA h0
      have J2 := go_rmE hac.2 IA JE h0 rfl
      have l2 : go_up La x (La x - 1) x = La x - 1 := go_us
      have n2 : ∀ i, i < go_up La x (La x - 1) x → go_sh A (x * 4 + 0) (x * 4 + (La x - 1)) (x * 4 + i) ≠ y := by
        intro i hi
        rw [l2] at hi
        rw [go_rm4_at h0 hi, if_neg (by omega)]
        exact hA (i + 1) (by omega)
      obtain ⟨P3, Lp3, I3, hX3⟩ := go_addP nn ac pc tm md lo al (go_sh A (x * 4 + 0) (x * 4 + (La x - 1))) (go_up La x (La x - 1)) P1 Lp1 (go_up E (x * 16 + A (x * 4 + 0)) false) D W T U C hac.2 I2 hpc I1 hx hz
      obtain ⟨U4, C4, lo4, S4, hl4, hpe4, _, hX4⟩ := go_send nn ac pc tm md lo al (go_sh A (x * 4 + 0) (x * 4 + (La x - 1))) (go_up La x (La x - 1)) P3 Lp3 (go_up E (x * 16 + A (x * 4 + 0)) false) D W T U C (k := 4) (a := 0) S (by omega) hx hz (by omega) (by omega) (by omega)
      obtain ⟨U5, C5, lo5, S5, hl5, hpe5, hh5, hX5⟩ := go_ta nn ac pc tm md lo4 al (go_sh A (x * 4 + 0) (x * 4 + (La x - 1))) (go_up La x (La x - 1)) P3 Lp3 (go_up E (x * 16 + A (x * 4 + 0)) false) D W T U4 C4 lk S4 (by omega) hx hy (by rw [l2]; omega)
      have I6 := go_ap4 hac.2 I2 (by rw [l2]; omega) hy n2
      have J6 := go_apE (x := x) hac.2 I2 J2 (by rw [l2]; omega) hy
      have c1 : go_N La (nI x).toNatClampNeg = nI ac := by rw [go_rN La x rfl (by omega), hf]
      have c2 : nI x * 4 = nI (x * 4) := pk_mul x 4
      have c3 : go_N A (nI x * 4).toNatClampNeg = nI (A (x * 4 + 0)) := go_rN A (x * 4) c2 (by omega)
      have q4 := hpe4.2.2
      have q5 := hpe5.2.2
      refine ⟨_, _, _, P3, Lp3, U5, C5, lo5, I6, J6, I3, S5, by omega, go_pet (go_pew hpe4 (fun c hc => by rw [hc]; exact go_msn (by omega) (by omega) hx hz (by omega) (by omega))) hpe5, fun z w g => ?_, fun post hp => br_f e' ⟨vp_in_nI hy (by omega), br_f (go_bn al y hal) (go_is4 nn ac pc tm md lo al A La P Lp E D W T U C IA.1 (by omega) hx hy hA _ (br_t rfl (hX1 _ ⟨vp_in_nI hx (by omega), br_t c1 ⟨pk_in (x * 4) 64 (by omega) c2, nm_r c3 (go_rX14 nn ac pc tm md lo al A La P1 Lp1 E D W T U C hac.2 IA hx hz h0 rfl _ (hX3 _ (hX4 _ (hX5 post hp))))⟩⟩)))⟩⟩
      rcases go_lka hac.2 I2 (by rw [l2]; omega) z w g with q | ⟨q1, q2⟩
      · exact Or.inl (go_lkr hac.2 IA h0 z w q)
      · rw [q1, q2]
        exact Or.inr (fun e => hh5 (by omega))
    · obtain ⟨U5, C5, lo5, S5, hl5, hpe5, hh5, hX5⟩ := go_ta nn ac pc tm md lo al A La P1 Lp1 E D W T U C lk S (by omega) hx hy (by omega)
      have I6 := go_ap4 hac.2 IA (by omega) hy hA
      have J6 := go_apE (x := x) hac.2 IA JE (by omega) hy
      have c1 : ¬ go_N La (nI x).toNatClampNeg = nI ac := by rw [go_rN La x rfl (by omega), nI_eq (by omega) (by omega)]; exact hf
      refine ⟨_, _, _, P1, Lp1, U5, C5, lo5, I6, J6, I1, S5, by omega, hpe5, fun z w g => ?_, fun post hp => br_f e' ⟨vp_in_nI hy (by omega), br_f (go_bn al y hal) (go_is4 nn ac pc tm md lo al A La P Lp E D W T U C IA.1 (by omega) hx hy hA _ (br_t rfl (hX1 _ ⟨vp_in_nI hx (by omega), br_f c1 (hX5 post hp)⟩)))⟩⟩
      rcases go_lka (x := x) hac.2 IA (by omega) z w g with q | ⟨q1, q2⟩
      · exact Or.inl q
      · rw [q1, q2]
        exact Or.inr hh5
end
end
section
section
variable (nn ac pc tm md lo : Nat) (al : Nat → Bool) (A La : Nat → Nat) (E D W : Nat → Bool) (T : Nat → Nat) (U : Nat → Bool) (C : Nat → Nat)
theorem go_rep {x : Nat} (hpc : 1 ≤ pc ∧ pc ≤ 8) (hac : 2 ≤ ac ∧ ac ≤ 4) (hla : La x ≤ ac) (S : go_IS U C) (hl : lo + 1 < 2 ^ 31) (hx : x < 16) : ∀ d i (P Lp : Nat → Nat), i + d = 8 → go_IV8 pc P Lp → Lp x ≤ d → ∃ (P' Lp' : Nat → Nat) (U' : Nat → Bool) (C' : Nat → Nat) (lo' : Nat), go_IV8 pc P' Lp' ∧ go_IS U' C' ∧ lo' ≤ lo + 1 ∧ go_pe U C lo U' C' lo' (go_ms D) ∧ (∀ post : St2 → Prop, post (nI nn, nI ac, nI pc, nI tm, nI md, nI lo', go_B al, go_N A, go_N La, go_N P', go_N Lp', go_M E, go_M D, go_M W, go_N T, go_S U' C') → wX_repair_16 post (nI x) (d + 1) (nI i) (nI nn) (nI ac) (nI pc) (nI tm) (nI md) (nI lo) (go_B al) (go_N A) (go_N La) (go_N P) (go_N Lp) (go_M E) (go_M D) (go_M W) (go_N T) (go_S U C)) := by
  have c2 : nI x * 8 = nI (x * 8) := pk_mul x 8
  intro d
  induction d with
  | zero =>
    intro i P Lp hi I hL
    exact ⟨P, Lp, U, C, lo, I, S, by omega, go_pe0 U C lo _, fun post hp => br_t (nI_le (a := 8) (by omega) (by omega)) hp⟩
  | succ d ih =>
    intro i P Lp hi I hL
    have hlp := I.2.1 x
    by_cases h0 : Lp x = 0
    · have z : go_N Lp (nI x).toNatClampNeg = 0 := by rw [go_rN Lp x rfl (by omega), h0]; exact nI_0
      exact ⟨P, Lp, U, C, lo, I, S, by omega, go_pe0 U C lo _, fun post hp => br_f (nI_ge (b := 8) (by omega) (by omega)) ⟨vp_in_nI hx (by omega), br_t z hp⟩⟩
    · have z : ¬ go_N Lp (nI x).toNatClampNeg = 0 := by rw [go_rN Lp x rfl (by omega)]; exact nI_ne0 (by omega) (by omega)
      have h1 : 0 < Lp x := by omega
      have hz : P (x * 8 + 0) < 16 := I.1 _
      have c3 : go_N P (nI x * 8).toNatClampNeg = nI (P (x * 8 + 0)) := go_rN P (x * 8) c2 (by omega)
      have I2 := go_rm8 hpc.2 I h1
      have l2 : go_up Lp x (Lp x - 1) x = Lp x - 1 := go_us
      cases hal : al (P (x * 8 + 0)) with
      | false =>
        obtain ⟨P', Lp', U', C', lo', I', S', hl', hpe, hX⟩ := ih (i + 1) (go_sh P (x * 8 + 0) (x * 8 + (Lp x - 1))) (go_up Lp x (Lp x - 1)) (by omega) I2 (by rw [l2]; omega)
        exact ⟨P', Lp', U', C', lo', I', S', hl', hpe, fun post hp => br_f (nI_ge (b := 8) (by omega) (by omega)) ⟨vp_in_nI hx (by omega), br_f z ⟨pk_in (x * 8) 128 (by omega) c2, nm_r c3 (go_rX18 nn ac pc tm md lo al A La P Lp E D W T U C hpc.2 I hx hz h1 rfl _ ⟨vp_in_nI hz (by omega), br_t (go_bz al _ hal) (nm_r (nI_1 i) (hX post hp))⟩)⟩⟩⟩
      | true =>
        by_cases hq : La x = 0
        · have q : go_N La (nI x).toNatClampNeg = 0 := by rw [go_rN La x rfl (by omega), hq]; exact nI_0
          obtain ⟨U', C', lo', S', hl', hpe, _, hX⟩ := go_send nn ac pc tm md lo al A La (go_sh P (x * 8 + 0) (x * 8 + (Lp x - 1))) (go_up Lp x (Lp x - 1)) E D W T U C (k := 5) (a := 1) S hl hx hz (by omega) (by omega) (by omega)
          exact ⟨_, _, U', C', lo', I2, S', hl', go_pew hpe (fun c hc => by rw [hc]; exact go_msn (by omega) (by omega) hx hz (by omega) (by omega)), fun post hp => br_f (nI_ge (b := 8) (by omega) (by omega)) ⟨vp_in_nI hx (by omega), br_f z ⟨pk_in (x * 8) 128 (by omega) c2, nm_r c3 (go_rX18 nn ac pc tm md lo al A La P Lp E D W T U C hpc.2 I hx hz h1 rfl _ ⟨vp_in_nI hz (by omega), br_f (go_bn al _ hal) ⟨vp_in_nI hx (by omega), br_t q (by unfold wX_repair_75; exact hX _ hp)⟩⟩)⟩⟩⟩
        · have q : ¬ go_N La (nI x).toNatClampNeg = 0 := by rw [go_rN La x rfl (by omega)]; exact nI_ne0 (by omega) (by omega)
          obtain ⟨U', C', lo', S', hl', hpe, _, hX⟩ := go_send nn ac pc tm md lo al A La (go_sh P (x * 8 + 0) (x * 8 + (Lp x - 1))) (go_up Lp x (Lp x - 1)) E D W T U C (k := 5) (a := 0) S hl hx hz (by omega) (by omega) (by omega)
          exact ⟨_, _, U', C', lo', I2, S', hl', go_pew hpe (fun c hc => by rw [hc]; exact go_msn (by omega) (by omega) hx hz (by omega) (by omega)), fun post hp => br_f (nI_ge (b := 8) (by omega) (by omega)) ⟨vp_in_nI hx (by omega), br_f z ⟨pk_in (x * 8) 128 (by omega) c2, nm_r c3 (go_rX18 nn ac pc tm md lo al A La P Lp E D W T U C hpc.2 I hx hz h1 rfl _ ⟨vp_in_nI hz (by omega), br_f (go_bn al _ hal) ⟨vp_in_nI hx (by omega), br_f q (by unfold wX_repair_75; exact hX _ hp)⟩⟩)⟩⟩⟩
end
section
variable (nn ac pc tm md lo : Nat) (al : Nat → Bool) (A La P Lp : Nat → Nat) (E D W : Nat → Bool) (T : Nat → Nat) (U : Nat → Bool) (C : Nat → Nat)
theorem go_repair {x : Nat} (hac : 2 ≤ ac ∧ ac ≤ 4) (hla : La x ≤ ac) (hpc : 1 ≤ pc ∧ pc ≤ 8) (I : go_IV8 pc P Lp) (S : go_IS U C) (hl : lo + 1 < 2 ^ 31) (hx : x < 16) : ∃ (P' Lp' : Nat → Nat) (U' : Nat → Bool) (C' : Nat → Nat) (lo' : Nat), go_IV8 pc P' Lp' ∧ go_IS U' C' ∧ lo' ≤ lo + 1 ∧ go_pe U C lo U' C' lo' (go_ms D) ∧ (∀ post : St2 → Prop, post (nI nn, nI ac, nI pc, nI tm, nI md, nI lo', go_B al, go_N A, go_N La, go_N P', go_N Lp', go_M E, go_M D, go_M W, go_N T, go_S U' C') → wpX_repair post (nI nn, nI ac, nI pc, nI tm, nI md, nI lo, go_B al, go_N A, go_N La, go_N P, go_N Lp, go_M E, go_M D, go_M W, go_N T, go_S U C) (nI x)) := by
  have hlp := I.2.1 x
  by_cases hf : La x = ac
  · have c1 : go_N La (nI x).toNatClampNeg = nI ac := by rw [go_rN La x rfl (by omega), hf]
    exact ⟨P, Lp, U, C, lo, I, S, by omega, go_pe0 U C lo _, fun post hp => ⟨vp_in_nI hx (by omega), br_t c1 hp⟩⟩
  · have c1 : ¬ go_N La (nI x).toNatClampNeg = nI ac := by rw [go_rN La x rfl (by omega), nI_eq (by omega) (by omega)]; exact hf
    obtain ⟨P', Lp', U', C', lo', I', S', hl', hpe, hX⟩ := go_rep nn ac pc tm md lo al A La E D W T U C hpc hac hla S hl hx 8 0 P Lp (by omega) I (by omega)
    exact ⟨P', Lp', U', C', lo', I', S', hl', hpe, fun post hp => ⟨vp_in_nI hx (by omega), br_f c1 ⟨_, hX post hp⟩⟩⟩
end
section
variable (nn ac pc tm md : Nat) (al : Nat → Bool) (A La P Lp : Nat → Nat) (E D W : Nat → Bool) (T : Nat → Nat)
theorem go_fwl {x m : Nat} {sv : Int32} (hA : ∀ j, A j < 16) (hL : La x ≤ 4) (hx : x < 16) (hm : m < 65536) (hmD : ∀ b, b < 16 → bt (nI m) b = true → D (x * 16 + b) = true) : ∀ d i (lo : Nat) (U : Nat → Bool) (C : Nat → Nat), i + d = La x → go_IS U C → lo + d < 2 ^ 31 → ∃ (U' : Nat → Bool) (C' : Nat → Nat) (lo' : Nat), go_IS U' C' ∧ lo' ≤ lo + d ∧ go_pe U C lo U' C' lo' (go_ms D) ∧ (lo' = lo → ∀ j, i ≤ j → j < La x → ¬ nI (A (x * 4 + j)) = sv → al (A (x * 4 + j)) = true → go_gt U' C' (go_cd 9 x (A (x * 4 + j)) m) ∨ go_gt U' C' (go_cd 10 x (A (x * 4 + j)) m)) ∧ (∀ post : St2 → Prop, post (nI nn, nI ac, nI pc, nI tm, nI md, nI lo', go_B al, go_N A, go_N La, go_N P, go_N Lp, go_M E, go_M D, go_M W, go_N T, go_S U' C') → wX_forward_11 post (nI x) sv (nI m) (nI (La x)) (d + 1) (nI i) (nI nn) (nI ac) (nI pc) (nI tm) (nI md) (nI lo) (go_B al) (go_N A) (go_N La) (go_N P) (go_N Lp) (go_M E) (go_M D) (go_M W) (go_N T) (go_S U C)) := by
  intro d
  have rl := go_rN (e := nI x) La x rfl (by omega)
  induction d with
  | zero =>
    intro i lo U C hi S hl
    exact ⟨U, C, lo, S, by omega, go_pe0 U C lo _, fun _ j h1 h2 => absurd h2 (by omega), fun post hp => br_t (nI_le (by omega) (by omega)) hp⟩
  | succ d ih =>
    intro i lo U C hi S hl
    have hz : A (x * 4 + i) < 16 := hA _
    have ra := go_rN (e := nI x * 4 + nI i) A (x * 4 + i) (go_ix4 x i) (by omega)
    by_cases hs : nI (A (x * 4 + i)) = sv
    · obtain ⟨U', C', lo', S', hl', hpe, hgt, hX⟩ := ih (i + 1) lo U C (by omega) S (by omega)
      refine ⟨U', C', lo', S', by omega, hpe, fun e j h1 h2 h3 h4 => ?_, fun post hp => br_f (nI_ge (by omega) (by omega)) ⟨pk_in (x * 4 + i) 64 (by omega) (go_ix4 x i), nm_r ra (br_t hs (nm_r (nI_1 i) (hX post hp)))⟩⟩
      by_cases q : j = i
      · rw [q] at h3; exact absurd hs h3
      · exact hgt e j (by omega) h2 h3 h4
    · cases hE : E (x * 16 + A (x * 4 + i)) with
      | false =>
        obtain ⟨U1, C1, lo1, S1, hl1, hpe1, hg1, hX1⟩ := go_send nn ac pc tm md lo al A La P Lp E D W T U C (k := 10) S (by omega) hx hz (by omega) (by omega) hm
        obtain ⟨U', C', lo', S', hl', hpe, hgt, hX⟩ := ih (i + 1) lo1 U1 C1 (by omega) S1 (by omega)
        have q1 := hpe1.2.2
        have q2 := hpe.2.2
        refine ⟨U', C', lo', S', by omega, go_pet (go_pew hpe1 (fun c hc => by rw [hc]; exact go_msn (by omega) (by omega) hx hz hm (by omega))) hpe, fun e j h1 h2 h3 h4 => ?_, fun post hp => br_f (nI_ge (by omega) (by omega)) ⟨pk_in (x * 4 + i) 64 (by omega) (go_ix4 x i), nm_r ra (br_f hs ⟨vp_in_nI hx (by omega), br_t (go_mz E x _ hz hE) (br_t rfl (by unfold wX_forward_74; exact hX1 _ (nm_r (nI_1 i) (hX post hp))))⟩)⟩⟩
        by_cases q : j = i
        · rw [q] at h4 ⊢; exact Or.inr (go_gtp hpe (hg1 (by omega) h4))
        · exact hgt (by omega) j (by omega) h2 h3 h4
      | true =>
        obtain ⟨U1, C1, lo1, S1, hl1, hpe1, hg1, hX1⟩ := go_send nn ac pc tm md lo al A La P Lp E D W T U C (k := 9) S (by omega) hx hz (by omega) (by omega) hm
        obtain ⟨U', C', lo', S', hl', hpe, hgt, hX⟩ := ih (i + 1) lo1 U1 C1 (by omega) S1 (by omega)
        have q1 := hpe1.2.2
        have q2 := hpe.2.2
        refine ⟨U', C', lo', S', by omega, go_pet (go_pew hpe1 (fun c hc => by rw [hc]; exact go_ms9 hx hz hm hmD)) hpe, fun e j h1 h2 h3 h4 => ?_, fun post hp => br_f (nI_ge (by omega) (by omega)) ⟨pk_in (x * 4 + i) 64 (by omega) (go_ix4 x i), nm_r ra (br_f hs ⟨vp_in_nI hx (by omega), br_f (go_mn E x _ hz hE) (br_f (by decide) (by unfold wX_forward_74; exact hX1 _ (nm_r (nI_1 i) (hX post hp))))⟩)⟩⟩
        by_cases q : j = i
        · rw [q] at h4 ⊢; exact Or.inl (go_gtp hpe (hg1 (by omega) h4))
        · exact hgt (by omega) j (by omega) h2 h3 h4
theorem go_jl {x y : Nat} (hA : ∀ j, A j < 16) (hL : La y ≤ 4) (hx : x < 16) (hy : y < 16) : ∀ d i (lo : Nat) (U : Nat → Bool) (C : Nat → Nat), i + d = La y → go_IS U C → lo + d < 2 ^ 31 → ∃ (U' : Nat → Bool) (C' : Nat → Nat) (lo' : Nat), go_IS U' C' ∧ lo' ≤ lo + d ∧ go_pe U C lo U' C' lo' (go_ms D) ∧ (∀ post : St2 → Prop, post (nI nn, nI ac, nI pc, nI tm, nI md, nI lo', go_B al, go_N A, go_N La, go_N P, go_N Lp, go_M E, go_M D, go_M W, go_N T, go_S U' C') → wX_onJoin_17 post (nI y) (nI x) (nI (La y)) (d + 1) (nI i) (nI nn) (nI ac) (nI pc) (nI tm) (nI md) (nI lo) (go_B al) (go_N A) (go_N La) (go_N P) (go_N Lp) (go_M E) (go_M D) (go_M W) (go_N T) (go_S U C)) := by
  intro d
  have rl := go_rN (e := nI y) La y rfl (by omega)
  obtain ⟨a, ha, ea⟩ := go_j48 x hx
  induction d with
  | zero =>
    intro i lo U C hi S hl
    exact ⟨U, C, lo, S, by omega, go_pe0 U C lo _, fun post hp => br_t (nI_le (by omega) (by omega)) hp⟩
  | succ d ih =>
    intro i lo U C hi S hl
    have hz : A (y * 4 + i) < 16 := hA _
    have ra := go_rN (e := nI y * 4 + nI i) A (y * 4 + i) (go_ix4 y i) (by omega)
    by_cases hs : A (y * 4 + i) = x
    · obtain ⟨U', C', lo', S', hl', hpe, hX⟩ := ih (i + 1) lo U C (by omega) S (by omega)
      exact ⟨U', C', lo', S', by omega, hpe, fun post hp => br_f (nI_ge (by omega) (by omega)) ⟨pk_in (y * 4 + i) 64 (by omega) (go_ix4 y i), nm_r ra (br_t (by rw [hs]) (nm_r (nI_1 i) (hX post hp)))⟩⟩
    · have hs' : ¬ nI (A (y * 4 + i)) = nI x := by rw [nI_eq (by omega) (by omega)]; exact hs
      obtain ⟨U1, C1, lo1, S1, hl1, hpe1, _, hX1⟩ := go_send nn ac pc tm md lo al A La P Lp E D W T U C (k := 2) S (by omega) hy hz (by omega) (by omega) ha
      obtain ⟨U', C', lo', S', hl', hpe, hX⟩ := ih (i + 1) lo1 U1 C1 (by omega) S1 (by omega)
      exact ⟨U', C', lo', S', by omega, go_pet (go_pew hpe1 (fun c hc => by rw [hc]; exact go_msn (by omega) (by omega) hy hz ha (by omega))) hpe, fun post hp => br_f (nI_ge (by omega) (by omega)) ⟨pk_in (y * 4 + i) 64 (by omega) (go_ix4 y i), nm_r ra (br_f hs' (by rw [ea]; exact hX1 _ (nm_r (nI_1 i) (hX post hp))))⟩⟩
end
section
variable (nn ac pc tm md lo : Nat) (al : Nat → Bool) (A La P Lp : Nat → Nat) (E D W : Nat → Bool) (T : Nat → Nat) (U : Nat → Bool) (C : Nat → Nat)
theorem go_fwd {x m : Nat} (sv : Int32) (hA : ∀ j, A j < 16) (hL : La x ≤ 4) (S : go_IS U C) (hl : lo + 4 < 2 ^ 31) (hx : x < 16) (hm : m < 65536) (hmD : ∀ b, b < 16 → bt (nI m) b = true → D (x * 16 + b) = true) : ∃ (U' : Nat → Bool) (C' : Nat → Nat) (lo' : Nat), go_IS U' C' ∧ lo' ≤ lo + 4 ∧ go_pe U C lo U' C' lo' (go_ms D) ∧ (lo' = lo → ∀ j, j < La x → ¬ nI (A (x * 4 + j)) = sv → al (A (x * 4 + j)) = true → go_gt U' C' (go_cd 9 x (A (x * 4 + j)) m) ∨ go_gt U' C' (go_cd 10 x (A (x * 4 + j)) m)) ∧ (∀ post : St2 → Prop, post (nI nn, nI ac, nI pc, nI tm, nI md, nI lo', go_B al, go_N A, go_N La, go_N P, go_N Lp, go_M E, go_M D, go_M W, go_N T, go_S U' C') → wpX_forward post (nI nn, nI ac, nI pc, nI tm, nI md, nI lo, go_B al, go_N A, go_N La, go_N P, go_N Lp, go_M E, go_M D, go_M W, go_N T, go_S U C) (nI x) sv (nI m)) := by
  obtain ⟨U', C', lo', S', hl', hpe, hgt, hX⟩ := go_fwl nn ac pc tm md al A La P Lp E D W T (sv := sv) hA hL hx hm hmD (La x) 0 lo U C (by omega) S (by omega)
  exact ⟨U', C', lo', S', by omega, hpe, fun e j h2 h3 h4 => hgt e j (by omega) h2 h3 h4, fun post hp => ⟨vp_in_nI hx (by omega), nm_r (go_rN La x rfl (by omega)) ⟨_, hX post hp⟩⟩⟩
theorem go_h1 {x y : Nat} (hac : 2 ≤ ac ∧ ac ≤ 4) (hpc : 1 ≤ pc ∧ pc ≤ 8) (Z : go_Z ac pc A La P Lp E T U C) (hl : lo + 10 < 2 ^ 31) (hx : x < 16) (hy : y < 16) : ∃ (A' La' P' Lp' : Nat → Nat) (E' : Nat → Bool) (U' : Nat → Bool) (C' : Nat → Nat) (lo' : Nat), go_Z ac pc A' La' P' Lp' E' T U' C' ∧ lo' ≤ lo + 10 ∧ go_pe U C lo U' C' lo' (go_ms D) ∧ go_lr al D A La A' La' U' C' lo lo' ∧ (∀ post : St2 → Prop, post (nI nn, nI ac, nI pc, nI tm, nI md, nI lo', go_B al, go_N A', go_N La', go_N P', go_N Lp', go_M E', go_M D, go_M W, go_N T, go_S U' C') → wpX_onJoin post (nI nn, nI ac, nI pc, nI tm, nI md, nI lo, go_B al, go_N A, go_N La, go_N P, go_N Lp, go_M E, go_M D, go_M W, go_N T, go_S U C) (nI y) (nI x)) := by
  obtain ⟨IA, JE, I, hT, S⟩ := Z
  obtain ⟨A1, La1, E1, P1, Lp1, U1, C1, lo1, IA1, JE1, I1, S1, hl1, hpe1, hlr1, hX1⟩ := go_addA nn ac pc tm md lo al A La P Lp E D W T U C true hac IA JE hpc I S (by omega) hy hx
  have hla := IA1.2.1 y
  obtain ⟨U', C', lo', S', hl', hpe, hX⟩ := go_jl nn ac pc tm md al A1 La1 P1 Lp1 E1 D W T (x := x) IA1.1 (by omega) hx hy (La1 y) 0 lo1 U1 C1 (by omega) S1 (by omega)
  refine ⟨A1, La1, P1, Lp1, E1, U', C', lo', ⟨IA1, JE1, I1, hT, S'⟩, by omega, go_pet hpe1 hpe, go_lrp hlr1 hpe1 hpe, fun post hp => ?_⟩
  unfold wpX_onJoin
  exact hX1 _ ⟨vp_in_nI hy (by omega), nm_r (go_rN La1 y rfl (by omega)) ⟨_, hX post hp⟩⟩
theorem go_f51 {x y w t : Nat} (hac : 2 ≤ ac ∧ ac ≤ 4) (hpc : 1 ≤ pc ∧ pc ≤ 8) (Z : go_Z ac pc A La P Lp E T U C) (hl : lo + 10 < 2 ^ 31) (hx : x < 16) (hy : y < 16) (hw : w < 16) (ht0 : 0 < t) (ht : t < 16) : ∃ (A' La' P' Lp' : Nat → Nat) (E' : Nat → Bool) (U' : Nat → Bool) (C' : Nat → Nat) (lo' : Nat), go_Z ac pc A' La' P' Lp' E' T U' C' ∧ lo' ≤ lo + 10 ∧ go_pe U C lo U' C' lo' (go_ms D) ∧ go_lr al D A La A' La' U' C' lo lo' ∧ (∀ post : St2 → Prop, post (nI nn, nI ac, nI pc, nI tm, nI md, nI lo', go_B al, go_N A', go_N La', go_N P', go_N Lp', go_M E', go_M D, go_M W, go_N T, go_S U' C') → wX_onForwardJoin_51 post (nI y) (nI x) (nI w) (nI t) (nI nn) (nI ac) (nI pc) (nI tm) (nI md) (nI lo) (go_B al) (go_N A) (go_N La) (go_N P) (go_N Lp) (go_M E) (go_M D) (go_M W) (go_N T) (go_S U C)) := by
  obtain ⟨IA, JE, I, hT, S⟩ := Z
  have hla := IA.2.1 y
  rcases go_first (fun i => A (y * 4 + i) ≠ x ∧ A (y * 4 + i) ≠ w) (La y) with h | ⟨i, hi, hAi, hAb⟩
  · obtain ⟨A1, La1, E1, P1, Lp1, U1, C1, lo1, IA1, JE1, I1, S1, hl1, hpe1, hlr1, hX1⟩ := go_addA nn ac pc tm md lo al A La P Lp E D W T U C true hac IA JE hpc I S (by omega) hy hw
    refine ⟨A1, La1, P1, Lp1, E1, U1, C1, lo1, ⟨IA1, JE1, I1, hT, S1⟩, by omega, hpe1, hlr1, fun post hp => ?_⟩
    unfold wX_onForwardJoin_51
    exact ⟨La y + 1, go_fx0 nn ac pc tm md lo al A La P Lp E D W T U C IA.1 (by omega) hx hy hw h _ (br_t rfl (hX1 _ hp)) _ 0 (by omega) (by omega)⟩
  · obtain ⟨a, ha, ea⟩ := go_fj w (t - 1) hw (by omega)
    have hz : A (y * 4 + i) < 16 := IA.1 _
    have e1 : nI w ||| ((nI t - 1) <<< ((4 : Int32) &&& 31)) = nI a := by
      rw [← ea]
      exact congrArg (fun z => nI w ||| (z <<< ((4 : Int32) &&& 31))) (pk_sub (a := t) (b := 1) (by omega))
    obtain ⟨U1, C1, lo1, S1, hl1, hpe1, _, hX1⟩ := go_send nn ac pc tm md lo al A La P Lp E D W T U C (k := 2) S (by omega) hy hz (by omega) (by omega) ha
    have hne : ¬ nI (A (y * 4 + i)) = -1 := by
      intro q
      have := congrArg (fun z => decide (z < 0)) q
      simp only [decide_eq_false (nI_pos (n := A (y * 4 + i)) (by omega))] at this
      exact absurd this (by decide)
    refine ⟨A, La, P, Lp, E, U1, C1, lo1, ⟨IA, JE, I, hT, S1⟩, by omega, go_pew hpe1 (fun c hc => by rw [hc]; exact go_msn (by omega) (by omega) hy hz ha (by omega)), go_lr0 _ _ _ _ _ _ _ _, fun post hp => ?_⟩
    unfold wX_onForwardJoin_51
    exact ⟨La y + 1, go_fx1 nn ac pc tm md lo al A La P Lp E D W T U C IA.1 (by omega) hx hy hw hi hAi hAb _ (br_f hne (by rw [e1]; exact hX1 _ hp)) _ 0 (by omega) (by omega)⟩
theorem go_h2 {x y a : Nat} (hac : 2 ≤ ac ∧ ac ≤ 4) (hpc : 1 ≤ pc ∧ pc ≤ 8) (Z : go_Z ac pc A La P Lp E T U C) (hl : lo + 10 < 2 ^ 31) (hx : x < 16) (hy : y < 16) (ha : a < 65536) : ∃ (A' La' P' Lp' : Nat → Nat) (E' : Nat → Bool) (U' : Nat → Bool) (C' : Nat → Nat) (lo' : Nat), go_Z ac pc A' La' P' Lp' E' T U' C' ∧ lo' ≤ lo + 10 ∧ go_pe U C lo U' C' lo' (go_ms D) ∧ go_lr al D A La A' La' U' C' lo lo' ∧ (∀ post : St2 → Prop, post (nI nn, nI ac, nI pc, nI tm, nI md, nI lo', go_B al, go_N A', go_N La', go_N P', go_N Lp', go_M E', go_M D, go_M W, go_N T, go_S U' C') → wpX_onForwardJoin post (nI nn, nI ac, nI pc, nI tm, nI md, nI lo, go_B al, go_N A, go_N La, go_N P, go_N Lp, go_M E, go_M D, go_M W, go_N T, go_S U C) (nI y) (nI x) (nI a)) := by
  have Z0 := Z
  obtain ⟨IA, JE, I, hT, S⟩ := Z
  have hla := IA.2.1 y
  have d1 := go_dw (c := a) (by omega)
  have d2 := go_d4 (c := a) (by omega)
  have hw : a % 2 ^ 4 < 16 := by omega
  have ht : a / 2 ^ 4 % 2 ^ 4 < 16 := by omega
  have rl := go_rN (e := nI y) La y rfl (by omega)
  generalize a % 2 ^ 4 = w at d1 hw
  generalize a / 2 ^ 4 % 2 ^ 4 = t at d2 ht
  by_cases ht0 : t = 0 ∨ La y ≤ 1
  · obtain ⟨A1, La1, E1, P1, Lp1, U1, C1, lo1, IA1, JE1, I1, S1, hl1, hpe1, hlr1, hX1⟩ := go_addA nn ac pc tm md lo al A La P Lp E D W T U C true hac IA JE hpc I S (by omega) hy hw
    have fX : ∀ post : St2 → Prop, post (nI nn, nI ac, nI pc, nI tm, nI md, nI lo1, go_B al, go_N A1, go_N La1, go_N P1, go_N Lp1, go_M E1, go_M D, go_M W, go_N T, go_S U1 C1) → wX_onForwardJoin_29 post (nI y) (nI w) (nI nn) (nI ac) (nI pc) (nI tm) (nI md) (nI lo) (go_B al) (go_N A) (go_N La) (go_N P) (go_N Lp) (go_M E) (go_M D) (go_M W) (go_N T) (go_S U C) := by
      intro post hp
      unfold wX_onForwardJoin_29
      exact hX1 _ hp
    refine ⟨A1, La1, P1, Lp1, E1, U1, C1, lo1, ⟨IA1, JE1, I1, hT, S1⟩, by omega, hpe1, hlr1, fun post hp => nm_r d1 (nm_r d2 (br_c (fun _ => fX post hp) (fun q => ⟨vp_in_nI hy (by omega), br_f ?_ (fX post hp)⟩)))⟩
    rw [rl]
    rcases ht0 with z | z
    · exact absurd (by rw [z]; exact nI_0) q
    · have := nI_leI (a := La y) (b := 1) (by omega) (by omega)
      exact Int32.not_lt.mpr (this.mpr z)
  · have h1 : 0 < t := by omega
    have h2 : 1 < La y := by omega
    have q1 : ¬ nI t = 0 := nI_ne0 h1 (by omega)
    have q2 : 1 < go_N La (nI y).toNatClampNeg := by rw [rl]; exact nI_lt (a := 1) h2 (by omega)
    by_cases ht1 : t = 1
    · obtain ⟨P1, Lp1, I1, hX1⟩ := go_addP nn ac pc tm md lo al A La P Lp E D W T U C hac.2 IA hpc I hy hw
      obtain ⟨A', La', P', Lp', E', U', C', lo', Z', hl', hpe, hlr, hX⟩ := go_f51 nn ac pc tm md lo al A La P1 Lp1 E D W T U C (x := x) hac hpc ⟨IA, JE, I1, hT, S⟩ hl hx hy hw h1 ht
      exact ⟨A', La', P', Lp', E', U', C', lo', Z', hl', hpe, hlr, fun post hp => nm_r d1 (nm_r d2 (br_f q1 ⟨vp_in_nI hy (by omega), br_t q2 (br_t (by rw [ht1]; rfl) (hX1 _ (hX post hp)))⟩))⟩
    · have q3 : ¬ nI t = 1 := fun q => ht1 ((nI_eq (a := t) (b := 1) (by omega) (by omega)).mp q)
      obtain ⟨A', La', P', Lp', E', U', C', lo', Z', hl', hpe, hlr, hX⟩ := go_f51 nn ac pc tm md lo al A La P Lp E D W T U C (x := x) hac hpc Z0 hl hx hy hw h1 ht
      exact ⟨A', La', P', Lp', E', U', C', lo', Z', hl', hpe, hlr, fun post hp => nm_r d1 (nm_r d2 (br_f q1 ⟨vp_in_nI hy (by omega), br_t q2 (br_f q3 (hX post hp))⟩))⟩
theorem go_h4 {x y : Nat} (hac : 2 ≤ ac ∧ ac ≤ 4) (hpc : 1 ≤ pc ∧ pc ≤ 8) (Z : go_Z ac pc A La P Lp E T U C) (hx : x < 16) (hy : y < 16) : ∃ (A' La' P' Lp' : Nat → Nat) (E' : Nat → Bool) (U' : Nat → Bool) (C' : Nat → Nat) (lo' : Nat), go_Z ac pc A' La' P' Lp' E' T U' C' ∧ lo' ≤ lo + 10 ∧ go_pe U C lo U' C' lo' (go_ms D) ∧ go_lr al D A La A' La' U' C' lo lo' ∧ (∀ post : St2 → Prop, post (nI nn, nI ac, nI pc, nI tm, nI md, nI lo', go_B al, go_N A', go_N La', go_N P', go_N Lp', go_M E', go_M D, go_M W, go_N T, go_S U' C') → wpX_onDisconnect post (nI nn, nI ac, nI pc, nI tm, nI md, nI lo, go_B al, go_N A, go_N La, go_N P, go_N Lp, go_M E, go_M D, go_M W, go_N T, go_S U C) (nI y) (nI x)) := by
  obtain ⟨IA, JE, I, hT, S⟩ := Z
  have hla := IA.2.1 y
  rcases go_first (fun i => A (y * 4 + i) = x) (La y) with hA | ⟨i, hi, hAi, hAb⟩
  · refine ⟨A, La, P, Lp, E, U, C, lo, ⟨IA, JE, I, hT, S⟩, by omega, go_pe0 U C lo _, go_lr0 _ _ _ _ _ _ _ _, fun post hp => ?_⟩
    unfold wpX_onDisconnect
    exact go_rX04 nn ac pc tm md lo al A La P Lp E D W T U C hac.2 IA JE hy hx hA _ (br_t rfl hp)
  · obtain ⟨P1, Lp1, I1, hX1⟩ := go_addP nn ac pc tm md lo al (go_sh A (y * 4 + i) (y * 4 + (La y - 1))) (go_up La y (La y - 1)) P Lp (go_up E (y * 16 + x) false) D W T U C hac.2 (go_rm4 hac.2 IA hi) hpc I hy hx
    refine ⟨_, _, P1, Lp1, _, U, C, lo, ⟨go_rm4 hac.2 IA hi, go_rmE hac.2 IA JE hi hAi, I1, hT, S⟩, by omega, go_pe0 U C lo _, fun z w g => Or.inl (go_lkr hac.2 IA hi z w g), fun post hp => ?_⟩
    unfold wpX_onDisconnect
    exact go_rX14 nn ac pc tm md lo al A La P Lp E D W T U C hac.2 IA hy hx hi hAi _ (br_f (by decide) (hX1 _ hp))
theorem go_h5 {x y a : Nat} (hac : 2 ≤ ac ∧ ac ≤ 4) (hpc : 1 ≤ pc ∧ pc ≤ 8) (Z : go_Z ac pc A La P Lp E T U C) (hl : lo + 10 < 2 ^ 31) (hx : x < 16) (hy : y < 16) (ha : a < 65536) : ∃ (A' La' P' Lp' : Nat → Nat) (E' : Nat → Bool) (U' : Nat → Bool) (C' : Nat → Nat) (lo' : Nat), go_Z ac pc A' La' P' Lp' E' T U' C' ∧ lo' ≤ lo + 10 ∧ go_pe U C lo U' C' lo' (go_ms D) ∧ go_lr al D A La A' La' U' C' lo lo' ∧ (∀ post : St2 → Prop, post (nI nn, nI ac, nI pc, nI tm, nI md, nI lo', go_B al, go_N A', go_N La', go_N P', go_N Lp', go_M E', go_M D, go_M W, go_N T, go_S U' C') → wpX_onNeighbor post (nI nn, nI ac, nI pc, nI tm, nI md, nI lo, go_B al, go_N A, go_N La, go_N P, go_N Lp, go_M E, go_M D, go_M W, go_N T, go_S U C) (nI y) (nI x) (nI a)) := by
  obtain ⟨IA, JE, I, hT, S⟩ := Z
  have hla := IA.2.1 y
  have rl := go_rN (e := nI y) La y rfl (by omega)
  by_cases h : a = 1 ∨ La y < ac
  · obtain ⟨A1, La1, E1, P1, Lp1, U1, C1, lo1, IA1, JE1, I1, S1, hl1, hpe1, hlr1, hX1⟩ := go_addA nn ac pc tm md lo al A La P Lp E D W T U C true hac IA JE hpc I S (by omega) hy hx
    have q : ¬ nI a = 1 → ¬ nI ac ≤ go_N La (nI y).toNatClampNeg := by
      intro q
      rw [rl]
      rcases h with z | z
      · exact absurd (by rw [z]; rfl) q
      · exact nI_ge z (by omega)
    have fX : ∀ post : St2 → Prop, post (nI nn, nI ac, nI pc, nI tm, nI md, nI lo1, go_B al, go_N A1, go_N La1, go_N P1, go_N Lp1, go_M E1, go_M D, go_M W, go_N T, go_S U1 C1) → wX_onNeighbor_18 post (nI y) (nI x) (nI nn) (nI ac) (nI pc) (nI tm) (nI md) (nI lo) (go_B al) (go_N A) (go_N La) (go_N P) (go_N Lp) (go_M E) (go_M D) (go_M W) (go_N T) (go_S U C) := by
      intro post hp
      unfold wX_onNeighbor_18
      exact hX1 _ hp
    exact ⟨A1, La1, P1, Lp1, E1, U1, C1, lo1, ⟨IA1, JE1, I1, hT, S1⟩, by omega, hpe1, hlr1, fun post hp => br_c (fun _ => fX post hp) (fun z => ⟨vp_in_nI hy (by omega), br_f (q z) (fX post hp)⟩)⟩
  · have q1 : ¬ nI a = 1 := fun q => h (Or.inl ((nI_eq (a := a) (b := 1) (by omega) (by omega)).mp q))
    have q2 : nI ac ≤ go_N La (nI y).toNatClampNeg := by rw [rl]; exact nI_le (by omega) (by omega)
    obtain ⟨U1, C1, lo1, S1, hl1, hpe1, _, hX1⟩ := go_send nn ac pc tm md lo al A La P Lp E D W T U C (k := 6) (a := 0) S (by omega) hy hx (by omega) (by omega) (by omega)
    exact ⟨A, La, P, Lp, E, U1, C1, lo1, ⟨IA, JE, I, hT, S1⟩, by omega, go_pew hpe1 (fun c hc => by rw [hc]; exact go_msn (by omega) (by omega) hy hx (by omega) (by omega)), go_lr0 _ _ _ _ _ _ _ _, fun post hp => br_f q1 ⟨vp_in_nI hy (by omega), br_t q2 (hX1 _ hp)⟩⟩
end
section
variable (nn ac pc tm md lo : Nat) (al : Nat → Bool) (A La : Nat → Nat) (E D W : Nat → Bool) (T : Nat → Nat) (U : Nat → Bool) (C : Nat → Nat)
theorem go_all {y a : Nat} (hn : nn ≤ 16) (hac : ac ≤ 4) (IA : go_IV4 ac A La) (hpc : 1 ≤ pc ∧ pc ≤ 8) (hy : y < 16) : ∀ d i (P Lp : Nat → Nat), i + d = nn → go_IV8 pc P Lp → ∃ (P' Lp' : Nat → Nat), go_IV8 pc P' Lp' ∧ (∀ post : St2 → Prop, post (nI nn, nI ac, nI pc, nI tm, nI md, nI lo, go_B al, go_N A, go_N La, go_N P', go_N Lp', go_M E, go_M D, go_M W, go_N T, go_S U C) → wX_addAllPassive_2 post (nI y) (nI a) (d + 1) (nI i) (nI nn) (nI ac) (nI pc) (nI tm) (nI md) (nI lo) (go_B al) (go_N A) (go_N La) (go_N P) (go_N Lp) (go_M E) (go_M D) (go_M W) (go_N T) (go_S U C)) := by
  intro d
  induction d with
  | zero =>
    intro i P Lp hi I
    exact ⟨P, Lp, I, fun post hp => br_t (nI_le (by omega) (by omega)) hp⟩
  | succ d ih =>
    intro i P Lp hi I
    have hi16 : i < 16 := by omega
    have hne : ¬ nI nn ≤ nI i := nI_ge (by omega) (by omega)
    cases z : bt (nI a) i with
    | false =>
      have hb := (go_bm a i hi16).mpr z
      obtain ⟨P', Lp', I', hX⟩ := ih (i + 1) P Lp (by omega) I
      exact ⟨P', Lp', I', fun post hp => br_f hne (br_t hb (nm_r (nI_1 i) (hX post hp)))⟩
    | true =>
      have hb : ¬ (nI a &&& ((1 : Int32) <<< (nI i &&& 31))) = 0 := fun q => by rw [(go_bm a i hi16).mp q] at z; exact absurd z (by decide)
      obtain ⟨P1, Lp1, I1, hX1⟩ := go_addP nn ac pc tm md lo al A La P Lp E D W T U C hac IA hpc I hy hi16
      obtain ⟨P', Lp', I', hX⟩ := ih (i + 1) P1 Lp1 (by omega) I1
      exact ⟨P', Lp', I', fun post hp => br_f hne (br_f hb (hX1 _ (nm_r (nI_1 i) (hX post hp))))⟩
end
section
variable (nn ac pc tm md lo : Nat) (al : Nat → Bool) (A La P Lp : Nat → Nat) (E D W : Nat → Bool) (T : Nat → Nat) (U : Nat → Bool) (C : Nat → Nat)
theorem go_h7 {x y a : Nat} (hn : 2 ≤ nn ∧ nn ≤ 16) (hac : 2 ≤ ac ∧ ac ≤ 4) (hpc : 1 ≤ pc ∧ pc ≤ 8) (Z : go_Z ac pc A La P Lp E T U C) (hl : lo + 10 < 2 ^ 31) (hx : x < 16) (hy : y < 16) : ∃ (A' La' P' Lp' : Nat → Nat) (E' : Nat → Bool) (U' : Nat → Bool) (C' : Nat → Nat) (lo' : Nat), go_Z ac pc A' La' P' Lp' E' T U' C' ∧ lo' ≤ lo + 10 ∧ go_pe U C lo U' C' lo' (go_ms D) ∧ go_lr al D A La A' La' U' C' lo lo' ∧ (∀ post : St2 → Prop, post (nI nn, nI ac, nI pc, nI tm, nI md, nI lo', go_B al, go_N A', go_N La', go_N P', go_N Lp', go_M E', go_M D, go_M W, go_N T, go_S U' C') → wpX_onShuffle post (nI nn, nI ac, nI pc, nI tm, nI md, nI lo, go_B al, go_N A, go_N La, go_N P, go_N Lp, go_M E, go_M D, go_M W, go_N T, go_S U C) (nI y) (nI x) (nI a)) := by
  obtain ⟨IA, JE, I, hT, S⟩ := Z
  have hlp := I.2.1 y
  obtain ⟨r, hr, er⟩ := go_16 (go_w16 I.1 (y * 8) (Lp y))
  obtain ⟨P1, Lp1, I1, hX1⟩ := go_all nn ac pc tm md lo al A La E D W T U C (a := a) hn.2 hac.2 IA hpc hy nn 0 P Lp (by omega) I
  obtain ⟨U2, C2, lo2, S2, hl2, hpe2, _, hX2⟩ := go_send nn ac pc tm md lo al A La P1 Lp1 E D W T U C (k := 8) S (by omega) hy hx (by omega) (by omega) hr
  refine ⟨A, La, P1, Lp1, E, U2, C2, lo2, ⟨IA, JE, I1, hT, S2⟩, by omega, go_pew hpe2 (fun c hc => by rw [hc]; exact go_msn (by omega) (by omega) hy hx hr (by omega)), go_lr0 _ _ _ _ _ _ _ _, fun post hp => ?_⟩
  unfold wpX_onShuffle
  refine ⟨Lp y + 1, go_pmX nn ac pc tm md lo al A La P Lp E D W T U C I.1 (by omega) hy _ ⟨_, hX1 _ ?_⟩ _ 0 (by omega) (by omega)⟩
  rw [er]
  exact hX2 _ hp
theorem go_h8 {y a : Nat} (hn : 2 ≤ nn ∧ nn ≤ 16) (hac : 2 ≤ ac ∧ ac ≤ 4) (hpc : 1 ≤ pc ∧ pc ≤ 8) (Z : go_Z ac pc A La P Lp E T U C) (hy : y < 16) : ∃ (A' La' P' Lp' : Nat → Nat) (E' : Nat → Bool) (U' : Nat → Bool) (C' : Nat → Nat) (lo' : Nat), go_Z ac pc A' La' P' Lp' E' T U' C' ∧ lo' ≤ lo + 10 ∧ go_pe U C lo U' C' lo' (go_ms D) ∧ go_lr al D A La A' La' U' C' lo lo' ∧ (∀ post : St2 → Prop, post (nI nn, nI ac, nI pc, nI tm, nI md, nI lo', go_B al, go_N A', go_N La', go_N P', go_N Lp', go_M E', go_M D, go_M W, go_N T, go_S U' C') → wpX_addAllPassive post (nI nn, nI ac, nI pc, nI tm, nI md, nI lo, go_B al, go_N A, go_N La, go_N P, go_N Lp, go_M E, go_M D, go_M W, go_N T, go_S U C) (nI y) (nI a)) := by
  obtain ⟨IA, JE, I, hT, S⟩ := Z
  obtain ⟨P1, Lp1, I1, hX1⟩ := go_all nn ac pc tm md lo al A La E D W T U C (a := a) hn.2 hac.2 IA hpc hy nn 0 P Lp (by omega) I
  exact ⟨A, La, P1, Lp1, E, U, C, lo, ⟨IA, JE, I1, hT, S⟩, by omega, go_pe0 U C lo _, go_lr0 _ _ _ _ _ _ _ _, fun post hp => ⟨_, hX1 post hp⟩⟩
end
end
section
theorem go_ovr {α : Type} (f : Nat → α) (v : α) (y : Nat) (g : Int32) (z b : Nat) (hb : b < 16) : go_ov f v y g 16 (z * 16 + b) = if z = y ∧ bt g b = true then v else f (z * 16 + b) := by
  unfold go_ov
  by_cases e : z = y
  · rw [e]
    by_cases q : bt g b = true
    · rw [if_pos ⟨by omega, by omega, by rw [Nat.add_sub_cancel_left]; exact q⟩, if_pos ⟨rfl, q⟩]
    · rw [if_neg (fun h => q (by have := h.2.2; rw [Nat.add_sub_cancel_left] at this; exact this)), if_neg (fun h => q h.2)]
  · rw [if_neg (fun h => e (by have := h.1; have := h.2.1; omega)), if_neg (fun h => e h.1)]
theorem go_oWr (f : Nat → Bool) (y : Nat) (g : Int32) (z b x : Nat) (hb : b < 16) (hx : x < 16) : go_oW f y g 16 ((z * 16 + b) * 16 + x) = if z = y ∧ bt g b = true then false else f ((z * 16 + b) * 16 + x) := by
  unfold go_oW
  rw [show ((z * 16 + b) * 16 + x) / 16 = z * 16 + b by omega]
  by_cases e : z = y
  · rw [e]
    by_cases q : bt g b = true
    · rw [if_pos ⟨by omega, by omega, by rw [Nat.add_sub_cancel_left]; exact q⟩, if_pos ⟨rfl, q⟩]
    · rw [if_neg (fun h => q (by have := h.2.2; rw [Nat.add_sub_cancel_left] at this; exact this)), if_neg (fun h => q h.2)]
  · rw [if_neg (fun h => e (by have := h.1; have := h.2.1; omega)), if_neg (fun h => e h.1)]
theorem go_ix256 (y b p : Nat) : nI y * 256 + nI b * 16 + nI p = nI ((y * 16 + b) * 16 + p) := by
  show nI y * nI 256 + nI b * nI 16 + nI p = _
  rw [pk_mul, pk_mul, nI_add, nI_add]
  exact congrArg nI (by omega)
theorem go_abit (a : Nat) (D : Nat → Bool) (y b : Nat) (hb : b < 16) : bt (nI a &&& (go_M D y ^^^ (-1))) b = (bt (nI a) b && !D (y * 16 + b)) := by
  rw [b_and, b_xor, b_m1 b (by omega), go_Mb D y b (by omega), decide_eq_true hb, Bool.true_and, Bool.xor_true]
theorem go_bfalse {p q : Bool} (h : (p && !q) = false) (hp : p = true) : q = true := by
  rw [hp] at h
  cases q
  · exact absurd h (by decide)
  · rfl
/-- what holds of every link but for the message (k from x to y with a) that is being handled -/
def go_in1 (al : Nat → Bool) (A La : Nat → Nat) (D W : Nat → Bool) (T : Nat → Nat) (U : Nat → Bool) (C : Nat → Nat) (x y a : Nat) : Prop := ∀ x' y' b, x' < 16 → y' < 16 → b < 16 → al x' = true → al y' = true → go_lk A La x' y' → D (x' * 16 + b) = true → go_ok D W T U C x' y' b ∨ (x' = x ∧ y' = y ∧ bt (nI a) b = true)
section
variable (nn ac pc tm md lo : Nat) (al : Nat → Bool) (A La P Lp : Nat → Nat) (E D W : Nat → Bool) (T : Nat → Nat) (U : Nat → Bool) (C : Nat → Nat)
theorem go_h9 {x y a : Nat} (hac : 2 ≤ ac ∧ ac ≤ 4) (Z : go_Z ac pc A La P Lp E T U C) (hl : lo + 10 < 2 ^ 31) (hx : x < 16) (hy : y < 16) (ha : a < 65536) (hms : ∀ b, b < 16 → bt (nI a) b = true → D (x * 16 + b) = true) : ∃ (E' D' W' : Nat → Bool) (T' : Nat → Nat) (U' : Nat → Bool) (C' : Nat → Nat) (lo' : Nat), go_Z ac pc A La P Lp E' T' U' C' ∧ lo' ≤ lo + 10 ∧ (∀ j, D j = true → D' j = true) ∧ (∀ z b, b < 16 → D' (z * 16 + b) = true → D (z * 16 + b) = true ∨ D (x * 16 + b) = true) ∧ go_pe U C lo U' C' lo' (go_ms D') ∧ (lo' = lo → go_in1 al A La D W T U C x y a → go_inv al A La D' W' T' U' C') ∧ (∀ post : St2 → Prop, post (nI nn, nI ac, nI pc, nI tm, nI md, nI lo', go_B al, go_N A, go_N La, go_N P, go_N Lp, go_M E', go_M D', go_M W', go_N T', go_S U' C') → wpX_onGossip post (nI nn, nI ac, nI pc, nI tm, nI md, nI lo, go_B al, go_N A, go_N La, go_N P, go_N Lp, go_M E, go_M D, go_M W, go_N T, go_S U C) (nI y) (nI x) (nI a)) := by
  obtain ⟨IA, JE, I, hT, S⟩ := Z
  have hla := IA.2.1 y
  obtain ⟨g, hg, eg⟩ := go_and16n ha (go_M D y ^^^ (-1))
  have eX : nI a &&& (go_M D (nI y).toNatClampNeg ^^^ (-1)) = nI g := by rw [go_rM D y]; exact eg
  have hgb : ∀ b, b < 16 → bt (nI g) b = (bt (nI a) b && !D (y * 16 + b)) := fun b hb => by rw [← eg]; exact go_abit a D y b hb
  have hga : ∀ b, b < 16 → bt (nI g) b = true → bt (nI a) b = true := fun b hb q => by
    rw [hgb b hb] at q
    exact (Bool.and_eq_true_iff.mp q).1
  by_cases g0 : g = 0
  · have q : nI g = 0 := by rw [g0]; exact nI_0
    obtain ⟨U1, C1, lo1, S1, hl1, hpe1, _, hX1⟩ := go_send nn ac pc tm md lo al A La P Lp (go_up E (y * 16 + x) false) D W T U C (k := 12) (a := 0) S (by omega) hy hx (by omega) (by omega) (by omega)
    refine ⟨go_up E (y * 16 + x) false, D, W, T, U1, C1, lo1, ⟨IA, go_Eclr JE _, I, hT, S1⟩, by omega, fun _ h => h, fun _ _ _ h => Or.inl h, go_pew hpe1 (fun c hc => by rw [hc]; exact go_msn (by omega) (by omega) hy hx (by omega) (by omega)), fun e H x' y' b hx' hy' hb ax ay l d => ?_, fun post hp => ⟨vp_in_nI hy (by omega), nm_r eX (br_t q ⟨vp_in_nI hy (by omega), vp_in_nI hy (by omega), nm_r (go_uMc E y x hx) (hX1 _ hp)⟩)⟩⟩
    rcases H x' y' b hx' hy' hb ax ay l d with h | ⟨h1, h2, h3⟩
    · exact go_okp hpe1 h
    · rw [h2]
      have w := hgb b hb
      rw [q, b_0] at w
      exact Or.inl (go_bfalse w.symm h3)
  · have q : ¬ nI g = 0 := nI_ne0 (by omega) (by omega)
    have hD : upd (go_M D) (nI y).toNatClampNeg (go_M D (nI y).toNatClampNeg ||| nI g) = go_M (go_ov D true y (nI g) 16) := by
      rw [nI_clamp (by omega)]
      exact go_Dor D y (nI g) (fun i h1 _ => go_n16 hg h1)
    have hT' : ∀ j, go_ov T 0 y (nI g) 16 j ≤ 8 := by
      intro j
      unfold go_ov
      split
      · omega
      · exact hT j
    have hDD : ∀ j, D j = true → go_ov D true y (nI g) 16 j = true := by
      intro j h
      unfold go_ov
      split
      · rfl
      · exact h
    have hmD : ∀ b, b < 16 → bt (nI g) b = true → go_ov D true y (nI g) 16 (y * 16 + b) = true := fun b hb h => by
      rw [go_ovr D true y (nI g) y b hb, if_pos ⟨rfl, h⟩]
    have key : ∀ E' : Nat → Bool, go_IE A La E' → (∀ Q : St2 → Prop, Q (nI nn, nI ac, nI pc, nI tm, nI md, nI lo, go_B al, go_N A, go_N La, go_N P, go_N Lp, go_M E', go_M (go_ov D true y (nI g) 16), go_M (go_oW W y (nI g) 16), go_N (go_ov T 0 y (nI g) 16), go_S U C) → wpX_makeEager Q (nI nn, nI ac, nI pc, nI tm, nI md, nI lo, go_B al, go_N A, go_N La, go_N P, go_N Lp, go_M E, go_M (go_ov D true y (nI g) 16), go_M (go_oW W y (nI g) 16), go_N (go_ov T 0 y (nI g) 16), go_S U C) (nI y) (nI x)) → ∃ (E' D' W' : Nat → Bool) (T' : Nat → Nat) (U' : Nat → Bool) (C' : Nat → Nat) (lo' : Nat), go_Z ac pc A La P Lp E' T' U' C' ∧ lo' ≤ lo + 10 ∧ (∀ j, D j = true → D' j = true) ∧ (∀ z b, b < 16 → D' (z * 16 + b) = true → D (z * 16 + b) = true ∨ D (x * 16 + b) = true) ∧ go_pe U C lo U' C' lo' (go_ms D') ∧ (lo' = lo → go_in1 al A La D W T U C x y a → go_inv al A La D' W' T' U' C') ∧ (∀ post : St2 → Prop, post (nI nn, nI ac, nI pc, nI tm, nI md, nI lo', go_B al, go_N A, go_N La, go_N P, go_N Lp, go_M E', go_M D', go_M W', go_N T', go_S U' C') → wpX_onGossip post (nI nn, nI ac, nI pc, nI tm, nI md, nI lo, go_B al, go_N A, go_N La, go_N P, go_N Lp, go_M E, go_M D, go_M W, go_N T, go_S U C) (nI y) (nI x) (nI a)) := by
      intro E' JE' hM
      obtain ⟨U1, C1, lo1, S1, hl1, hpe1, hgt1, hX1⟩ := go_fwd nn ac pc tm md lo al A La P Lp E' (go_ov D true y (nI g) 16) (go_oW W y (nI g) 16) (go_ov T 0 y (nI g) 16) U C (nI x) IA.1 (by omega) S (by omega) hy hg hmD
      refine ⟨E', go_ov D true y (nI g) 16, go_oW W y (nI g) 16, go_ov T 0 y (nI g) 16, U1, C1, lo1, ⟨IA, JE', I, hT', S1⟩, by omega, hDD, fun z b hb h => ?_, hpe1, fun e H x' y' b hx' hy' hb ax ay l d => ?_, fun post hp => ⟨vp_in_nI hy (by omega), nm_r eX (br_f q ⟨vp_in_nI hy (by omega), vp_in_nI hy (by omega), nm_r hD (go_stop nn ac pc tm md lo al A La P Lp E (go_ov D true y (nI g) 16) W T U C hy _ (hM _ (hX1 _ hp)))⟩)⟩⟩
      · rw [go_ovr D true y (nI g) z b hb] at h
        by_cases w : z = y ∧ bt (nI g) b = true
        · exact Or.inr (hms b hb (hga b hb w.2))
        · rw [if_neg w] at h; exact Or.inl h
      · by_cases c1 : y' = y ∧ bt (nI g) b = true
        · exact Or.inl (by rw [go_ovr D true y (nI g) y' b hb, if_pos c1])
        · have keep : go_ok D W T U C x' y' b → go_ok (go_ov D true y (nI g) 16) (go_oW W y (nI g) 16) (go_ov T 0 y (nI g) 16) U1 C1 x' y' b := by
            intro h
            rcases go_okp hpe1 h with h | h | h | h | h
            · exact Or.inl (hDD _ h)
            · exact Or.inr (Or.inl h)
            · exact Or.inr (Or.inr (Or.inl h))
            · refine Or.inr (Or.inr (Or.inr (Or.inl ⟨?_, ?_⟩)))
              · rw [go_oWr W y (nI g) y' b x' hb hx', if_neg c1]; exact h.1
              · rw [go_ovr T 0 y (nI g) y' b hb, if_neg c1]; exact h.2
            · exact Or.inr (Or.inr (Or.inr (Or.inr h)))
          rw [go_ovr D true y (nI g) x' b hb] at d
          by_cases c2 : x' = y ∧ bt (nI g) b = true
          · obtain ⟨i, hi, hAi⟩ := l
            rw [c2.1] at hi hAi ⊢
            by_cases c3 : y' = x
            · rw [c3]
              exact Or.inl (hDD _ (hms b hb (hga b hb c2.2)))
            · have nsv : ¬ nI (A (y * 4 + i)) = nI x := by
                rw [hAi, nI_eq (by omega) (by omega)]; exact c3
              rcases hgt1 e i hi nsv (by rw [hAi]; exact ay) with w | w
              · rw [hAi] at w
                exact Or.inr (Or.inl (go_gth (by omega) (by omega) hy hy' hg hb c2.2 w))
              · rw [hAi] at w
                exact Or.inr (Or.inr (Or.inl (go_gth (by omega) (by omega) hy hy' hg hb c2.2 w)))
          · rw [if_neg c2] at d
            rcases H x' y' b hx' hy' hb ax ay l d with h | ⟨h1, h2, h3⟩
            · exact keep h
            · have w := hgb b hb
              have c4 : bt (nI g) b = false := by
                cases hh : bt (nI g) b with
                | false => rfl
                | true => exact absurd ⟨h2, hh⟩ c1
              rw [c4] at w
              rw [h2]
              exact Or.inl (hDD _ (go_bfalse w.symm h3))
    rcases go_first (fun i => A (y * 4 + i) = x) (La y) with hA | ⟨i, hi, hAi, hAb⟩
    · exact key E JE (fun Q hQ => go_me0 nn ac pc tm md lo al A La P Lp E (go_ov D true y (nI g) 16) (go_oW W y (nI g) 16) (go_ov T 0 y (nI g) 16) U C IA.1 (by omega) hy hx hA Q hQ)
    · exact key (go_up E (y * 16 + x) true) (go_Eset JE hx hi hAi) (fun Q hQ => go_me1 nn ac pc tm md lo al A La P Lp E (go_ov D true y (nI g) 16) (go_oW W y (nI g) 16) (go_ov T 0 y (nI g) 16) U C IA.1 (by omega) hy hx hi hAi Q hQ)
theorem go_h11 {x y a : Nat} (hac : 2 ≤ ac ∧ ac ≤ 4) (Z : go_Z ac pc A La P Lp E T U C) (hl : lo + 10 < 2 ^ 31) (hx : x < 16) (hy : y < 16) (ha : a < 65536) : ∃ (E' : Nat → Bool) (U' : Nat → Bool) (C' : Nat → Nat) (lo' : Nat), go_Z ac pc A La P Lp E' T U' C' ∧ lo' ≤ lo + 10 ∧ go_pe U C lo U' C' lo' (go_ms D) ∧ (lo' = lo → go_in1 al A La D W T U C y x a → go_inv al A La D W T U' C') ∧ (∀ post : St2 → Prop, post (nI nn, nI ac, nI pc, nI tm, nI md, nI lo', go_B al, go_N A, go_N La, go_N P, go_N Lp, go_M E', go_M D, go_M W, go_N T, go_S U' C') → wpX_onGraft post (nI nn, nI ac, nI pc, nI tm, nI md, nI lo, go_B al, go_N A, go_N La, go_N P, go_N Lp, go_M E, go_M D, go_M W, go_N T, go_S U C) (nI y) (nI x) (nI a)) := by
  obtain ⟨IA, JE, I, hT, S⟩ := Z
  have hla := IA.2.1 y
  obtain ⟨g, hg, eg⟩ := go_and16n ha (go_M D y)
  have eX : nI a &&& go_M D (nI y).toNatClampNeg = nI g := by rw [go_rM D y]; exact eg
  have hgb : ∀ b, b < 16 → bt (nI g) b = (bt (nI a) b && D (y * 16 + b)) := fun b hb => by rw [← eg, b_and, go_Mb D y b (by omega), decide_eq_true hb, Bool.true_and]
  have key : ∀ E' : Nat → Bool, ∃ (U' : Nat → Bool) (C' : Nat → Nat) (lo' : Nat), go_IS U' C' ∧ lo' ≤ lo + 10 ∧ go_pe U C lo U' C' lo' (go_ms D) ∧ (lo' = lo → go_in1 al A La D W T U C y x a → go_inv al A La D W T U' C') ∧ (∀ post : St2 → Prop, post (nI nn, nI ac, nI pc, nI tm, nI md, nI lo', go_B al, go_N A, go_N La, go_N P, go_N Lp, go_M E', go_M D, go_M W, go_N T, go_S U' C') → (vp_in (nI y) 16 ∧ (∀ z : Int32, z = nI a &&& (go_M D (nI y).toNatClampNeg) → (((z = 0 → post (nI nn, nI ac, nI pc, nI tm, nI md, nI lo, go_B al, go_N A, go_N La, go_N P, go_N Lp, go_M E', go_M D, go_M W, go_N T, go_S U C)) ∧ (¬ z = 0 → wpX_send post (nI nn, nI ac, nI pc, nI tm, nI md, nI lo, go_B al, go_N A, go_N La, go_N P, go_N Lp, go_M E', go_M D, go_M W, go_N T, go_S U C) (nI y) (nI x) 9 z)))))) := by
    intro E'
    by_cases g0 : g = 0
    · have q : nI g = 0 := by rw [g0]; exact nI_0
      refine ⟨U, C, lo, S, by omega, go_pe0 U C lo _, fun e H x' y' b hx' hy' hb ax ay l d => ?_, fun post hp => ⟨vp_in_nI hy (by omega), nm_r eX (br_t q hp)⟩⟩
      rcases H x' y' b hx' hy' hb ax ay l d with h | ⟨h1, h2, h3⟩
      · exact h
      · have w := hgb b hb
        rw [q, b_0, h3] at w
        rw [h1] at d
        rw [d] at w
        exact absurd w (by decide)
    · have q : ¬ nI g = 0 := nI_ne0 (by omega) (by omega)
      obtain ⟨U1, C1, lo1, S1, hl1, hpe1, hgt1, hX1⟩ := go_send nn ac pc tm md lo al A La P Lp E' D W T U C (k := 9) S (by omega) hy hx (by omega) (by omega) hg
      refine ⟨U1, C1, lo1, S1, by omega, go_pew hpe1 (fun c hc => by rw [hc]; exact go_ms9 hy hx hg (fun b hb h => by rw [hgb b hb] at h; exact (Bool.and_eq_true_iff.mp h).2)), fun e H x' y' b hx' hy' hb ax ay l d => ?_, fun post hp => ⟨vp_in_nI hy (by omega), nm_r eX (br_f q (hX1 _ hp))⟩⟩
      rcases H x' y' b hx' hy' hb ax ay l d with h | ⟨h1, h2, h3⟩
      · exact go_okp hpe1 h
      · have w := hgb b hb
        rw [h1] at d
        rw [h3, d] at w
        rw [h2] at ay
        rw [h1, h2]
        exact Or.inr (Or.inl (go_gth (by omega) (by omega) hy hx hg hb w (hgt1 e ay)))
  rcases go_first (fun i => A (y * 4 + i) = x) (La y) with hA | ⟨i, hi, hAi, hAb⟩
  · obtain ⟨U', C', lo', S', hl', hpe, hiv, hX⟩ := key E
    refine ⟨E, U', C', lo', ⟨IA, JE, I, hT, S'⟩, hl', hpe, hiv, fun post hp => ?_⟩
    unfold wpX_onGraft
    exact go_me0 nn ac pc tm md lo al A La P Lp E D W T U C IA.1 (by omega) hy hx hA _ (hX _ hp)
  · obtain ⟨U', C', lo', S', hl', hpe, hiv, hX⟩ := key (go_up E (y * 16 + x) true)
    refine ⟨go_up E (y * 16 + x) true, U', C', lo', ⟨IA, go_Eset JE hx hi hAi, I, hT, S'⟩, hl', hpe, hiv, fun post hp => ?_⟩
    unfold wpX_onGraft
    exact go_me1 nn ac pc tm md lo al A La P Lp E D W T U C IA.1 (by omega) hy hx hi hAi _ (hX _ hp)
end
section
variable (nn ac pc tm md lo : Nat) (al : Nat → Bool) (A La P Lp : Nat → Nat) (E D : Nat → Bool) (U : Nat → Bool) (C : Nat → Nat)
theorem go_hil {x y a m : Nat} (htm : 1 ≤ tm ∧ tm ≤ 8) (hx : x < 16) (hy : y < 16) (hm : ∀ b, b < 16 → bt (nI m) b = (bt (nI a) b && !D (y * 16 + b))) : ∀ d b (W : Nat → Bool) (T : Nat → Nat), b + d = 16 → (∀ j, T j ≤ 8) → ∃ (W' : Nat → Bool) (T' : Nat → Nat), (∀ j, T' j ≤ 8) ∧ (∀ j, W j = true → W' j = true) ∧ (∀ j, 0 < T j → 0 < T' j) ∧ (∀ c, b ≤ c → c < 16 → bt (nI m) c = true → W' ((y * 16 + c) * 16 + x) = true ∧ 0 < T' (y * 16 + c)) ∧ (∀ post : St2 → Prop, post (nI nn, nI ac, nI pc, nI tm, nI md, nI lo, go_B al, go_N A, go_N La, go_N P, go_N Lp, go_M E, go_M D, go_M W', go_N T', go_S U C) → wX_onIhave_15 post (nI y) (nI x) (nI m) (nI nn) (nI ac) (nI pc) (nI tm) (nI md) (nI lo) (d + 1) (nI b) (go_B al) (go_N A) (go_N La) (go_N P) (go_N Lp) (go_M E) (go_M D) (go_M W) (go_N T) (go_S U C)) := by
  intro d
  induction d with
  | zero =>
    intro b W T hb hT
    exact ⟨W, T, hT, fun _ h => h, fun _ h => h, fun c h1 h2 => absurd h2 (by omega), fun post hp => br_t (nI_le (a := 16) (by omega) (by omega)) hp⟩
  | succ d ih =>
    intro b W T hb hT
    have h16 : b < 16 := by omega
    have hne : ¬ (16 : Int32) ≤ nI b := nI_ge (b := 16) h16 (by omega)
    have ix := go_ix16 y b
    cases zm : bt (nI m) b with
    | false =>
      obtain ⟨W', T', hT', hW1, hT1, hset, hX⟩ := ih (b + 1) W T (by omega) hT
      refine ⟨W', T', hT', hW1, hT1, fun c h1 h2 h3 => ?_, fun post hp => br_f hne (br_t ((go_bm m b h16).mpr zm) (nm_r (nI_1 b) (hX post hp)))⟩
      by_cases q : c = b
      · rw [q, zm] at h3; exact absurd h3 (by decide)
      · exact hset c (by omega) h2 h3
    | true =>
      have qm : ¬ (nI m &&& ((1 : Int32) <<< (nI b &&& 31))) = 0 := fun q => by rw [(go_bm m b h16).mp q] at zm; exact absurd zm (by decide)
      have rT := go_rN (e := nI (y * 16 + b)) T (y * 16 + b) rfl (by omega)
      have hTb := hT (y * 16 + b)
      have hv : vp_in (nI (y * 16 + b)) 256 := vp_in_nI (by omega) (by omega)
      have hWu : ∀ j, W j = true → go_up W ((y * 16 + b) * 16 + x) true j = true := fun j h => by
        by_cases q : j = (y * 16 + b) * 16 + x
        · rw [q]; exact go_us
        · rw [go_un q]; exact h
      by_cases t0 : T (y * 16 + b) = 0
      · have hT2 : ∀ j, go_up T (y * 16 + b) tm j ≤ 8 := by
          intro j
          by_cases e : j = y * 16 + b
          · rw [e, go_us]; omega
          · rw [go_un e]; exact hT j
        have hTu : ∀ j, 0 < T j → 0 < go_up T (y * 16 + b) tm j := fun j h => by
          by_cases q : j = y * 16 + b
          · rw [q, go_us]; omega
          · rw [go_un q]; exact h
        obtain ⟨W', T', hT', hW1, hT1, hset, hX⟩ := ih (b + 1) (go_up W ((y * 16 + b) * 16 + x) true) (go_up T (y * 16 + b) tm) (by omega) hT2
        refine ⟨W', T', hT', fun j h => hW1 j (hWu j h), fun j h => hT1 j (hTu j h), fun c h1 h2 h3 => ?_, fun post hp => br_f hne (br_f qm (nm_r ix ⟨hv, hv, nm_r (go_uMs W (y * 16 + b) x hx) ⟨hv, br_t (by rw [rT, t0]; exact nI_0) ⟨hv, nm_r (go_uN T (y * 16 + b) tm rfl) (nm_r (nI_1 b) (hX post hp))⟩⟩⟩))⟩
        by_cases q : c = b
        · rw [q]; exact ⟨hW1 _ go_us, hT1 _ (by rw [go_us]; omega)⟩
        · exact hset c (by omega) h2 h3
      · obtain ⟨W', T', hT', hW1, hT1, hset, hX⟩ := ih (b + 1) (go_up W ((y * 16 + b) * 16 + x) true) T (by omega) hT
        refine ⟨W', T', hT', fun j h => hW1 j (hWu j h), hT1, fun c h1 h2 h3 => ?_, fun post hp => br_f hne (br_f qm (nm_r ix ⟨hv, hv, nm_r (go_uMs W (y * 16 + b) x hx) ⟨hv, br_f (by rw [rT]; exact nI_ne0 (by omega) (by omega)) (nm_r (nI_1 b) (hX post hp))⟩⟩))⟩
        by_cases q : c = b
        · rw [q]; exact ⟨hW1 _ go_us, hT1 _ (by omega)⟩
        · exact hset c (by omega) h2 h3
end
section
variable (nn ac pc tm md lo : Nat) (al : Nat → Bool) (A La P Lp : Nat → Nat) (E D W : Nat → Bool) (T : Nat → Nat) (U : Nat → Bool) (C : Nat → Nat)
theorem go_h10 {x y a : Nat} (htm : 1 ≤ tm ∧ tm ≤ 8) (Z : go_Z ac pc A La P Lp E T U C) (hx : x < 16) (hy : y < 16) (ha : a < 65536) : ∃ (W' : Nat → Bool) (T' : Nat → Nat), go_Z ac pc A La P Lp E T' U C ∧ (go_in1 al A La D W T U C x y a → go_inv al A La D W' T' U C) ∧ (∀ post : St2 → Prop, post (nI nn, nI ac, nI pc, nI tm, nI md, nI lo, go_B al, go_N A, go_N La, go_N P, go_N Lp, go_M E, go_M D, go_M W', go_N T', go_S U C) → wpX_onIhave post (nI nn, nI ac, nI pc, nI tm, nI md, nI lo, go_B al, go_N A, go_N La, go_N P, go_N Lp, go_M E, go_M D, go_M W, go_N T, go_S U C) (nI y) (nI x) (nI a)) := by
  obtain ⟨IA, JE, I, hT, S⟩ := Z
  obtain ⟨m, hm, em⟩ := go_and16n ha (go_M D y ^^^ (-1))
  have eX : nI a &&& (go_M D (nI y).toNatClampNeg ^^^ (-1)) = nI m := by rw [go_rM D y]; exact em
  have hb : ∀ b, b < 16 → bt (nI m) b = (bt (nI a) b && !D (y * 16 + b)) := fun b h16 => by rw [← em]; exact go_abit a D y b h16
  obtain ⟨W', T', hT', hW1, hT1, hset, hX⟩ := go_hil nn ac pc tm md lo al A La P Lp E D U C htm hx hy hb 16 0 W T (by omega) hT
  refine ⟨W', T', ⟨IA, JE, I, hT', S⟩, fun H x' y' b hx' hy' hb' ax ay l d => ?_, fun post hp => ⟨vp_in_nI hy (by omega), nm_r eX ⟨_, hX post hp⟩⟩⟩
  rcases H x' y' b hx' hy' hb' ax ay l d with h | ⟨h1, h2, h3⟩
  · rcases h with h | h | h | h | h
    · exact Or.inl h
    · exact Or.inr (Or.inl h)
    · exact Or.inr (Or.inr (Or.inl h))
    · exact Or.inr (Or.inr (Or.inr (Or.inl ⟨hW1 _ h.1, hT1 _ h.2⟩)))
    · exact Or.inr (Or.inr (Or.inr (Or.inr h)))
  · rw [h1, h2]
    cases hD : D (y * 16 + b) with
    | true => exact Or.inl hD
    | false => exact Or.inr (Or.inr (Or.inr (Or.inl (hset b (by omega) hb' (by rw [hb b hb', h3, hD]; rfl)))))
end
end
section
theorem go_lk0 {A La : Nat → Nat} {n z w : Nat} (h : go_lk A (go_up La n 0) z w) (hz : z ≠ n) : go_lk A La z w := by
  obtain ⟨i, h1, h2⟩ := h
  rw [go_un hz] at h1
  exact ⟨i, h1, h2⟩
theorem go_hsr {U : Nat → Bool} {C : Nat → Nat} {n k x y b : Nat} (hx : x ≠ n) (hy : y ≠ n) (h : go_hs U C k x y b) : go_hs (go_rU U C n 64) C k x y b := by
  obtain ⟨s, hs, hU, h1, h2, h3, h4⟩ := h
  refine ⟨s, hs, ?_, h1, h2, h3, h4⟩
  unfold go_rU
  rw [if_neg]
  · exact hU
  · intro q
    rcases q.2 with q | q
    · exact hx (h2.symm.trans q)
    · exact hy (h3.symm.trans q)
theorem go_msp {D D' : Nat → Bool} {U U' : Nat → Bool} {C C' : Nat → Nat} {lo lo' : Nat} (h : ∀ s, U s = true → go_ms D (C s)) (hD : ∀ j, D j = true → D' j = true) (p : go_pe U C lo U' C' lo' (go_ms D')) : ∀ s, U' s = true → go_ms D' (C' s) := by
  intro s hs
  rcases p.2.1 s hs with ⟨a, e⟩ | a
  · rw [e]; exact go_msm hD (h s a)
  · exact a
section
variable (nn ac pc tm md : Nat) (al : Nat → Bool) (D W : Nat → Bool) (T : Nat → Nat)
theorem go_crl {x : Nat} (hn : nn ≤ 16) (hac : 2 ≤ ac ∧ ac ≤ 4) (hpc : 1 ≤ pc ∧ pc ≤ 8) (hT : ∀ j, T j ≤ 8) (hx : x < 16) : ∀ d i (lo : Nat) (A La P Lp : Nat → Nat) (E : Nat → Bool) (U : Nat → Bool) (C : Nat → Nat), i + d = nn → go_Z ac pc A La P Lp E T U C → lo + d < 2 ^ 31 → ∃ (A' La' P' Lp' : Nat → Nat) (E' : Nat → Bool) (U' : Nat → Bool) (C' : Nat → Nat) (lo' : Nat), go_Z ac pc A' La' P' Lp' E' T U' C' ∧ lo' ≤ lo + d ∧ go_pe U C lo U' C' lo' (go_ms D) ∧ (∀ z w, go_lk A' La' z w → go_lk A La z w) ∧ (∀ post : Int32 → St2 → Prop, post 1 (nI nn, nI ac, nI pc, nI tm, nI md, nI lo', go_B al, go_N A', go_N La', go_N P', go_N Lp', go_M E', go_M D, go_M W, go_N T, go_S U' C') → wX_crash_29 post (nI x) (d + 1) (nI i) (nI nn) (nI ac) (nI pc) (nI tm) (nI md) (nI lo) (go_B al) (go_N A) (go_N La) (go_N P) (go_N Lp) (go_M E) (go_M D) (go_M W) (go_N T) (go_S U C)) := by
  intro d
  induction d with
  | zero =>
    intro i lo A La P Lp E U C hi Z hl
    exact ⟨A, La, P, Lp, E, U, C, lo, Z, by omega, go_pe0 U C lo _, fun _ _ h => h, fun post hp => br_t (nI_le (by omega) (by omega)) hp⟩
  | succ d ih =>
    intro i lo A La P Lp E U C hi Z hl
    have Z0 := Z
    obtain ⟨IA, JE, I, _, S⟩ := Z
    have hi16 : i < 16 := by omega
    have hla := IA.2.1 i
    have hne : ¬ nI nn ≤ nI i := nI_ge (by omega) (by omega)
    have hv : vp_in (nI i) 16 := vp_in_nI hi16 (by omega)
    cases hal : al i with
    | false =>
      obtain ⟨A', La', P', Lp', E', U', C', lo', Z', hl', hpe, hlk, hX⟩ := ih (i + 1) lo A La P Lp E U C (by omega) Z0 (by omega)
      exact ⟨A', La', P', Lp', E', U', C', lo', Z', by omega, hpe, hlk, fun post hp => br_f hne ⟨hv, br_t (go_bz al i hal) (nm_r (nI_1 i) (hX post hp))⟩⟩
    | true =>
      rcases go_first (fun j => A (i * 4 + j) = x) (La i) with hA | ⟨j, hj, hAj, hAb⟩
      · obtain ⟨A', La', P', Lp', E', U', C', lo', Z', hl', hpe, hlk, hX⟩ := ih (i + 1) lo A La P Lp E U C (by omega) Z0 (by omega)
        exact ⟨A', La', P', Lp', E', U', C', lo', Z', by omega, hpe, hlk, fun post hp => br_f hne ⟨hv, br_f (go_bn al i hal) (go_rX04 nn ac pc tm md lo al A La P Lp E D W T U C hac.2 IA JE hi16 hx hA _ (br_t rfl (nm_r (nI_1 i) (hX post hp))))⟩⟩
      · have I2 := go_rm4 hac.2 IA hj
        have J2 := go_rmE hac.2 IA JE hj hAj
        obtain ⟨P1, Lp1, U1, C1, lo1, I1, S1, hl1, hpe1, hX1⟩ := go_repair nn ac pc tm md lo al (go_sh A (i * 4 + j) (i * 4 + (La i - 1))) (go_up La i (La i - 1)) P Lp (go_up E (i * 16 + x) false) D W T U C hac (I2.2.1 i) hpc I S (by omega) hi16
        obtain ⟨A', La', P', Lp', E', U', C', lo', Z', hl', hpe, hlk, hX⟩ := ih (i + 1) lo1 _ _ P1 Lp1 _ U1 C1 (by omega) ⟨I2, J2, I1, hT, S1⟩ (by omega)
        exact ⟨A', La', P', Lp', E', U', C', lo', Z', by omega, go_pet hpe1 hpe, fun z w h => go_lkr hac.2 IA hj z w (hlk z w h), fun post hp => br_f hne ⟨hv, br_f (go_bn al i hal) (go_rX14 nn ac pc tm md lo al A La P Lp E D W T U C hac.2 IA hi16 hx hj hAj _ (br_f (by decide) (hX1 _ (nm_r (nI_1 i) (hX post hp)))))⟩⟩
end
section
variable (nn ac pc tm md lo : Nat) (al : Nat → Bool) (A La P Lp : Nat → Nat) (E D W : Nat → Bool) (T : Nat → Nat) (U : Nat → Bool) (C : Nat → Nat)
theorem go_crash {x : Nat} (hn : 2 ≤ nn ∧ nn ≤ 16) (hac : 2 ≤ ac ∧ ac ≤ 4) (hpc : 1 ≤ pc ∧ pc ≤ 8) (Z : go_Z ac pc A La P Lp E T U C) (hl : lo + 20 < 2 ^ 31) (MS : ∀ s, U s = true → go_ms D (C s)) (hx : x < nn) (hal : al x = true) : ∃ (A' La' P' Lp' : Nat → Nat) (E' W' : Nat → Bool) (T' : Nat → Nat) (U' : Nat → Bool) (C' : Nat → Nat) (lo' : Nat), go_Z ac pc A' La' P' Lp' E' T' U' C' ∧ lo' ≤ lo + 20 ∧ lo ≤ lo' ∧ (∀ s, U' s = true → go_ms D (C' s)) ∧ (lo' = lo → go_inv al A La D W T U C → go_inv (go_up al x false) A' La' D W' T' U' C') ∧ (∀ post : Int32 → St2 → Prop, post 1 (nI nn, nI ac, nI pc, nI tm, nI md, nI lo', go_B (go_up al x false), go_N A', go_N La', go_N P', go_N Lp', go_M E', go_M D, go_M W', go_N T', go_S U' C') → wpX_crash post (nI nn, nI ac, nI pc, nI tm, nI md, nI lo, go_B al, go_N A, go_N La, go_N P, go_N Lp, go_M E, go_M D, go_M W, go_N T, go_S U C) (nI x)) := by
  obtain ⟨IA, JE, I, hT, S⟩ := Z
  have hx16 : x < 16 := by omega
  have hT' : ∀ j, go_ov T 0 x (nI 65535) 16 j ≤ 8 := by
    intro j
    unfold go_ov
    split
    · omega
    · exact hT j
  have hv : vp_in (nI x) 16 := vp_in_nI hx16 (by omega)
  obtain ⟨A', La', P', Lp', E', U', C', lo', Z', hl', hpe, hlk, hX⟩ := go_crl nn ac pc tm md (go_up al x false) D (go_oW W x (nI 65535) 16) (go_ov T 0 x (nI 65535) 16) (x := x) hn.2 hac hpc hT' hx16 nn 0 lo A (go_up La x 0) P (go_up Lp x 0) (go_z E false (x * 16) (x * 16 + 16)) (go_rU U C x 64) C (by omega) ⟨go_cl4 IA x, go_Erow JE x, go_cl8 I x, hT', go_rUS S x 64⟩ (by omega)
  have MS1 : ∀ s, go_rU U C x 64 s = true → go_ms D (C s) := by
    intro s h
    unfold go_rU at h
    split at h
    · exact absurd h (by decide)
    · exact MS s h
  refine ⟨A', La', P', Lp', E', go_oW W x (nI 65535) 16, go_ov T 0 x (nI 65535) 16, U', C', lo', Z', by omega, hpe.2.2, go_msp MS1 (fun _ h => h) hpe, fun e H x' y' b hx' hy' hb ax ay l d => ?_, fun post hp => ?_⟩
  · have ex : x' ≠ x := fun q => by rw [q, go_us] at ax; exact absurd ax (by decide)
    have ey : y' ≠ x := fun q => by rw [q, go_us] at ay; exact absurd ay (by decide)
    rw [go_un ex] at ax
    rw [go_un ey] at ay
    have l1 := go_lk0 (hlk x' y' l) ex
    refine go_okp hpe ?_
    rcases H x' y' b hx' hy' hb ax ay l1 d with h | h | h | h | h
    · exact Or.inl h
    · exact Or.inr (Or.inl (go_hsr ex ey h))
    · exact Or.inr (Or.inr (Or.inl (go_hsr ex ey h)))
    · refine Or.inr (Or.inr (Or.inr (Or.inl ⟨?_, ?_⟩)))
      · rw [go_oWr W x (nI 65535) y' b x' hb hx', if_neg (fun q => ey q.1)]; exact h.1
      · rw [go_ovr T 0 x (nI 65535) y' b hb, if_neg (fun q => ey q.1)]; exact h.2
    · exact Or.inr (Or.inr (Or.inr (Or.inr (go_hsr ey ex h))))
  · unfold wpX_crash
    refine go_alX nn ac pc tm md lo al A La P Lp E D W T U C hn.2 hx hal _ (br_f (by decide) ⟨hv, nm_r (go_uB al x false rfl) (go_fpX nn ac pc tm md lo (go_up al x false) A La P Lp E D W T U C hx16 _ ⟨65, ?_⟩)⟩)
    have w : ∀ Q : St2 → Prop, Q (nI nn, nI ac, nI pc, nI tm, nI md, nI lo, go_B (go_up al x false), go_N A, go_N (go_up La x 0), go_N P, go_N (go_up Lp x 0), go_M (go_z E false (x * 16) (x * 16 + 16)), go_M D, go_M (go_oW W x (nI 65535) 16), go_N (go_ov T 0 x (nI 65535) 16), go_S (go_rU U C x 64) C) → wX_removeMessagesOf_2 Q (nI x) (nI nn) (nI ac) (nI pc) (nI tm) (nI md) (nI lo) 65 (nI 0) (go_B (go_up al x false)) (go_N A) (go_N (go_up La x 0)) (go_N P) (go_N (go_up Lp x 0)) (go_M (go_z E false (x * 16) (x * 16 + 16))) (go_M D) (go_M (go_oW W x (nI 65535) 16)) (go_N (go_ov T 0 x (nI 65535) 16)) (go_S U C) := by
      intro Q hQ
      have w := go_rmX nn ac pc tm md lo (go_up al x false) A (go_up La x 0) P (go_up Lp x 0) (go_z E false (x * 16) (x * 16 + 16)) D (go_oW W x (nI 65535) 16) (go_ov T 0 x (nI 65535) 16) U C S hx16 Q hQ 65 0 (by omega) (by omega)
      rw [go_rU0] at w
      exact w
    exact w _ ⟨_, hX post hp⟩
end
end
section
/-- the timer of cell c is set to t, and cell c's announcers to those of W' : what a link rests on is kept -/
theorem go_oks {D W W' : Nat → Bool} {T T' : Nat → Nat} {U U' : Nat → Bool} {C C' : Nat → Nat} {lo lo' n q : Nat} {N : Nat → Prop} (hn : n < 16) (hq : q < 16) (p : go_pe U C lo U' C' lo' N) (hW : ∀ c, c ≠ n * 16 + q → ∀ x, x < 16 → W' (c * 16 + x) = W (c * 16 + x)) (hT : ∀ c, c ≠ n * 16 + q → T' c = T c) {x y b : Nat} (hx : x < 16) (hb : b < 16) (h : go_ok D W T U C x y b) (hc : y = n → b = q → W ((n * 16 + q) * 16 + x) = true → 0 < T (n * 16 + q) → go_ok D W' T' U' C' x n q) : go_ok D W' T' U' C' x y b := by
  by_cases e : y * 16 + b = n * 16 + q
  · have e1 : y = n := by omega
    have e2 : b = q := by omega
    rcases go_okp p h with g | g | g | g | g
    · exact Or.inl g
    · exact Or.inr (Or.inl g)
    · exact Or.inr (Or.inr (Or.inl g))
    · rw [e1, e2] at g ⊢
      exact hc e1 e2 g.1 g.2
    · exact Or.inr (Or.inr (Or.inr (Or.inr g)))
  · rcases go_okp p h with g | g | g | g | g
    · exact Or.inl g
    · exact Or.inr (Or.inl g)
    · exact Or.inr (Or.inr (Or.inl g))
    · refine Or.inr (Or.inr (Or.inr (Or.inl ⟨?_, ?_⟩)))
      · rw [hW _ e x hx]; exact g.1
      · rw [hT _ e]; exact g.2
    · exact Or.inr (Or.inr (Or.inr (Or.inr g)))
section
variable (nn ac pc tm md lo : Nat) (al : Nat → Bool) (A La P Lp : Nat → Nat) (E D W : Nat → Bool) (T : Nat → Nat) (U : Nat → Bool) (C : Nat → Nat)
theorem go_graft {x b i0 : Nat} (hac : 2 ≤ ac ∧ ac ≤ 4) (htm : 1 ≤ tm ∧ tm ≤ 8) (IA : go_IV4 ac A La) (JE : go_IE A La E) (hT : ∀ j, T j ≤ 8) (S : go_IS U C) (hl : lo + 1 < 2 ^ 31) (hx : x < 16) (hb : b < 16) (h0 : i0 < 16) (hW : W ((x * 16 + b) * 16 + i0) = true) (hWb : ∀ j, j < i0 → W ((x * 16 + b) * 16 + j) = false) : ∃ (E' W' : Nat → Bool) (T' : Nat → Nat) (U' : Nat → Bool) (C' : Nat → Nat) (lo' : Nat), go_IE A La E' ∧ (∀ j, T' j ≤ 8) ∧ go_IS U' C' ∧ lo' ≤ lo + 1 ∧ go_pe U C lo U' C' lo' (go_ms D) ∧ (lo' = lo → al i0 = true → go_hs U' C' 11 x i0 b) ∧ (∀ j, j ≠ (x * 16 + b) * 16 + i0 → W' j = W j) ∧ (∀ c, c ≠ x * 16 + b → T' c = T c) ∧ (∀ p, p < 16 → W' ((x * 16 + b) * 16 + p) = true → 0 < T' (x * 16 + b)) ∧ (∀ post : St2 → Prop, post (nI nn, nI ac, nI pc, nI tm, nI md, nI lo', go_B al, go_N A, go_N La, go_N P, go_N Lp, go_M E', go_M D, go_M W', go_N T', go_S U' C') → wpX_graftNextAnnouncer post (nI nn, nI ac, nI pc, nI tm, nI md, nI lo, go_B al, go_N A, go_N La, go_N P, go_N Lp, go_M E, go_M D, go_M W, go_N T, go_S U C) (nI x) (nI b)) := by
  have hla := IA.2.1 x
  have hv : vp_in (nI (x * 16 + b)) 256 := vp_in_nI (by omega) (by omega)
  obtain ⟨a, ha0, ha, ea⟩ := go_1n b hb
  have hab : bt (nI a) b = true := by rw [← ea, go_1b b (by omega) (by omega)]; exact decide_eq_true rfl
  have key : ∀ E' : Nat → Bool, go_IE A La E' → (∀ Q : St2 → Prop, Q (nI nn, nI ac, nI pc, nI tm, nI md, nI lo, go_B al, go_N A, go_N La, go_N P, go_N Lp, go_M E', go_M D, go_M (go_up W ((x * 16 + b) * 16 + i0) false), go_N T, go_S U C) → wpX_makeEager Q (nI nn, nI ac, nI pc, nI tm, nI md, nI lo, go_B al, go_N A, go_N La, go_N P, go_N Lp, go_M E, go_M D, go_M (go_up W ((x * 16 + b) * 16 + i0) false), go_N T, go_S U C) (nI x) (nI i0)) → ∃ (E' W' : Nat → Bool) (T' : Nat → Nat) (U' : Nat → Bool) (C' : Nat → Nat) (lo' : Nat), go_IE A La E' ∧ (∀ j, T' j ≤ 8) ∧ go_IS U' C' ∧ lo' ≤ lo + 1 ∧ go_pe U C lo U' C' lo' (go_ms D) ∧ (lo' = lo → al i0 = true → go_hs U' C' 11 x i0 b) ∧ (∀ j, j ≠ (x * 16 + b) * 16 + i0 → W' j = W j) ∧ (∀ c, c ≠ x * 16 + b → T' c = T c) ∧ (∀ p, p < 16 → W' ((x * 16 + b) * 16 + p) = true → 0 < T' (x * 16 + b)) ∧ (∀ post : St2 → Prop, post (nI nn, nI ac, nI pc, nI tm, nI md, nI lo', go_B al, go_N A, go_N La, go_N P, go_N Lp, go_M E', go_M D, go_M W', go_N T', go_S U' C') → wpX_graftNextAnnouncer post (nI nn, nI ac, nI pc, nI tm, nI md, nI lo, go_B al, go_N A, go_N La, go_N P, go_N Lp, go_M E, go_M D, go_M W, go_N T, go_S U C) (nI x) (nI b)) := by
    intro E' JE' hM
    obtain ⟨U1, C1, lo1, S1, hl1, hpe1, hgt1, hX1⟩ := go_send nn ac pc tm md lo al A La P Lp E' D (go_up W ((x * 16 + b) * 16 + i0) false) T U C (k := 11) S hl hx h0 (by omega) (by omega) ha
    have hpe2 : go_pe U C lo U1 C1 lo1 (go_ms D) := go_pew hpe1 (fun c hc => by rw [hc]; exact go_msn (by omega) (by omega) hx h0 ha (by omega))
    have hhs : lo1 = lo → al i0 = true → go_hs U1 C1 11 x i0 b := fun e ai => go_gth (by omega) (by omega) hx h0 ha hb hab (hgt1 e ai)
    rw [← ea] at hX1
    have rW := go_rM (e := nI (x * 16 + b)) (go_up W ((x * 16 + b) * 16 + i0) false) (x * 16 + b) rfl (by omega)
    rcases go_first (fun p => go_up W ((x * 16 + b) * 16 + i0) false ((x * 16 + b) * 16 + p) = true) 16 with hf | ⟨j0, hj0, hjt, _⟩
    · have hf' : ∀ p, p < 16 → go_up W ((x * 16 + b) * 16 + i0) false ((x * 16 + b) * 16 + p) = false := fun p hp => by have := hf p hp; simpa using this
      have z : go_M (go_up W ((x * 16 + b) * 16 + i0) false) (nI (x * 16 + b)).toNatClampNeg = 0 := by rw [rW]; exact (go_M0 _ _).mpr hf'
      exact ⟨E', go_up W ((x * 16 + b) * 16 + i0) false, T, U1, C1, lo1, JE', hT, S1, hl1, hpe2, hhs, fun j hj => go_un hj, fun _ _ => rfl, fun p hp q => absurd q (hf p hp), fun post hp => nm_r (go_ix16 x b) ⟨hv, ⟨17, go_low h0 (fun j hj => go_mz W (x * 16 + b) j (by omega) (hWb j hj)) (go_mn W (x * 16 + b) i0 h0 hW) _ ⟨hv, hv, nm_r (go_uMc W (x * 16 + b) i0 h0) (hM _ (hX1 _ ⟨hv, br_t z hp⟩))⟩ 17 0 (by omega) (by omega)⟩⟩⟩
    · have z : ¬ go_M (go_up W ((x * 16 + b) * 16 + i0) false) (nI (x * 16 + b)).toNatClampNeg = 0 := by
        rw [rW, go_M0]
        intro q
        rw [q j0 hj0] at hjt
        exact absurd hjt (by decide)
      have hT2 : ∀ j, go_up T (x * 16 + b) tm j ≤ 8 := by
        intro j
        by_cases e : j = x * 16 + b
        · rw [e, go_us]; omega
        · rw [go_un e]; exact hT j
      exact ⟨E', go_up W ((x * 16 + b) * 16 + i0) false, go_up T (x * 16 + b) tm, U1, C1, lo1, JE', hT2, S1, hl1, hpe2, hhs, fun j hj => go_un hj, fun c hc => go_un hc, fun p hp q => by rw [go_us]; omega, fun post hp => nm_r (go_ix16 x b) ⟨hv, ⟨17, go_low h0 (fun j hj => go_mz W (x * 16 + b) j (by omega) (hWb j hj)) (go_mn W (x * 16 + b) i0 h0 hW) _ ⟨hv, hv, nm_r (go_uMc W (x * 16 + b) i0 h0) (hM _ (hX1 _ ⟨hv, br_f z ⟨hv, nm_r (go_uN T (x * 16 + b) tm rfl) hp⟩⟩))⟩ 17 0 (by omega) (by omega)⟩⟩⟩
  rcases go_first (fun i => A (x * 4 + i) = i0) (La x) with hA | ⟨i, hi, hAi, hAb⟩
  · exact key E JE (fun Q hQ => go_me0 nn ac pc tm md lo al A La P Lp E D (go_up W ((x * 16 + b) * 16 + i0) false) T U C IA.1 (by omega) hx h0 hA Q hQ)
  · exact key (go_up E (x * 16 + i0) true) (go_Eset JE h0 hi hAi) (fun Q hQ => go_me1 nn ac pc tm md lo al A La P Lp E D (go_up W ((x * 16 + b) * 16 + i0) false) T U C IA.1 (by omega) hx h0 hi hAi Q hQ)
end
section
variable (nn ac pc tm md : Nat) (al : Nat → Bool) (A La P Lp : Nat → Nat) (D : Nat → Bool)
theorem go_tkl {x : Nat} (hac : 2 ≤ ac ∧ ac ≤ 4) (htm : 1 ≤ tm ∧ tm ≤ 8) (IA : go_IV4 ac A La) (hx : x < 16) (hal : al x = true) : ∀ d b (cnt lo : Nat) (E W : Nat → Bool) (T : Nat → Nat) (U : Nat → Bool) (C : Nat → Nat), b + d = 16 → go_IE A La E → (∀ j, T j ≤ 8) → go_IS U C → lo + d < 2 ^ 31 → ∃ (cnt' lo' : Nat) (E' W' : Nat → Bool) (T' : Nat → Nat) (U' : Nat → Bool) (C' : Nat → Nat), go_IE A La E' ∧ (∀ j, T' j ≤ 8) ∧ go_IS U' C' ∧ lo' ≤ lo + d ∧ go_pe U C lo U' C' lo' (go_ms D) ∧ (lo' = lo → go_inv al A La D W T U C → go_inv al A La D W' T' U' C') ∧ (∀ (post : Int32 → St2 → Prop) (J : Int32 → Int32 → Int32 → Int32 → Int32 → Int32 → Int32 → Int32 → (Nat → Int32) → (Nat → Int32) → (Nat → Int32) → (Nat → Int32) → (Nat → Int32) → (Nat → Int32) → (Nat → Int32) → (Nat → Int32) → (Nat → Int32) → (Nat → Int32) → Prop), J (nI cnt') (nI (x + 1)) (nI nn) (nI ac) (nI pc) (nI tm) (nI md) (nI lo') (go_B al) (go_N A) (go_N La) (go_N P) (go_N Lp) (go_M E') (go_M D) (go_M W') (go_N T') (go_S U' C') → wX_tick_14 post J (nI x) (d + 1) (nI cnt) (nI b) (nI nn) (nI ac) (nI pc) (nI tm) (nI md) (nI lo) (go_B al) (go_N A) (go_N La) (go_N P) (go_N Lp) (go_M E) (go_M D) (go_M W) (go_N T) (go_S U C)) := by
  intro d
  induction d with
  | zero =>
    intro b cnt lo E W T U C hb JE hT S hl
    exact ⟨cnt, lo, E, W, T, U, C, JE, hT, S, by omega, go_pe0 U C lo _, fun _ h => h, fun post J hJ => br_t (nI_le (a := 16) (by omega) (by omega)) (nm_r (nI_1 x) hJ)⟩
  | succ d ih =>
    intro b cnt lo E W T U C hb JE hT S hl
    have hb16 : b < 16 := by omega
    have hne : ¬ (16 : Int32) ≤ nI b := nI_ge (b := 16) hb16 (by omega)
    have hv : vp_in (nI x) 16 := vp_in_nI hx (by omega)
    have h8 := hT (x * 16 + b)
    by_cases t0 : T (x * 16 + b) = 0
    · obtain ⟨cnt', lo', E', W', T', U', C', JE', hT', S', hl', hpe, hiv, hX⟩ := ih (b + 1) cnt lo E W T U C (by omega) JE hT S (by omega)
      exact ⟨cnt', lo', E', W', T', U', C', JE', hT', S', by omega, hpe, hiv, fun post J hJ => br_f hne ⟨hv, br_f (go_bn al x hal) (go_cd0 nn ac pc tm md lo al A La P Lp E D W T U C hx hb16 t0 _ (br_t rfl (nm_r (nI_1 b) (hX post J hJ))))⟩⟩
    · have hT1 : ∀ j, go_up T (x * 16 + b) (T (x * 16 + b) - 1) j ≤ 8 := by
        intro j
        by_cases e : j = x * 16 + b
        · rw [e, go_us]; omega
        · rw [go_un e]; exact hT j
      by_cases t1 : T (x * 16 + b) = 1
      · have e0 : T (x * 16 + b) - 1 = 0 := by omega
        rw [e0] at hT1
        rcases go_first (fun p => W ((x * 16 + b) * 16 + p) = true) 16 with hf | ⟨i0, h0, hW, hWb⟩
        · have hf' : ∀ p, p < 16 → W ((x * 16 + b) * 16 + p) = false := fun p hp => by have := hf p hp; simpa using this
          obtain ⟨cnt', lo', E', W', T', U', C', JE', hT', S', hl', hpe, hiv, hX⟩ := ih (b + 1) cnt lo E W (go_up T (x * 16 + b) 0) U C (by omega) JE hT1 S (by omega)
          refine ⟨cnt', lo', E', W', T', U', C', JE', hT', S', by omega, hpe, fun e H => hiv e (fun x' y' b' hx' hy' hb' ax ay l d' => ?_), fun post J hJ => br_f hne ⟨hv, br_f (go_bn al x hal) (go_cd2 nn ac pc tm md lo al A La P Lp E D W T U C hx hb16 t1 ((go_M0 W _).mpr hf') _ (br_t rfl (nm_r (nI_1 b) (hX post J hJ))))⟩⟩
          exact go_oks hx hb16 (go_pe0 U C lo (go_ms D)) (fun _ _ _ _ => rfl) (fun c hc => go_un hc) hx' hb' (H x' y' b' hx' hy' hb' ax ay l d') (fun _ _ w _ => absurd w (by rw [hf' x' hx']; decide))
        · have hWb' : ∀ j, j < i0 → W ((x * 16 + b) * 16 + j) = false := fun j hj => by have := hWb j hj; simpa using this
          have hM : ¬ go_M W (x * 16 + b) = 0 := by
            rw [go_M0]
            intro q
            rw [q i0 h0] at hW
            exact absurd hW (by decide)
          obtain ⟨E1, W1, T1, U1, C1, lo1, JE1, hT1', S1, hl1, hpe1, hhs1, hW1, hTc1, hTp1, hX1⟩ := go_graft nn ac pc tm md lo al A La P Lp E D W (go_up T (x * 16 + b) 0) U C hac htm IA JE hT1 S (by omega) hx hb16 h0 hW hWb'
          obtain ⟨cnt', lo', E', W', T', U', C', JE', hT', S', hl', hpe, hiv, hX⟩ := ih (b + 1) (cnt + 1) lo1 E1 W1 T1 U1 C1 (by omega) JE1 hT1' S1 (by omega)
          have q1 := hpe1.2.2
          have q2 := hpe.2.2
          refine ⟨cnt', lo', E', W', T', U', C', JE', hT', S', by omega, go_pet hpe1 hpe, fun e H => hiv (by omega) (fun x' y' b' hx' hy' hb' ax ay l d' => ?_), fun post J hJ => br_f hne ⟨hv, br_f (go_bn al x hal) (go_cd3 nn ac pc tm md lo al A La P Lp E D W T U C hx hb16 t1 hM _ (br_f (by decide) (hX1 _ (nm_r (nI_1 cnt) (nm_r (nI_1 b) (hX post J hJ))))))⟩⟩
          refine go_oks hx hb16 hpe1 (fun c hc z hz => hW1 _ (by omega)) (fun c hc => (hTc1 c hc).trans (go_un hc)) hx' hb' (H x' y' b' hx' hy' hb' ax ay l d') (fun _ _ w _ => ?_)
          by_cases ex : x' = i0
          · rw [ex] at ax ⊢
            exact Or.inr (Or.inr (Or.inr (Or.inr (hhs1 (by omega) ax))))
          · have ww : W1 ((x * 16 + b) * 16 + x') = true := (hW1 _ (by omega)).trans w
            exact Or.inr (Or.inr (Or.inr (Or.inl ⟨ww, hTp1 x' hx' ww⟩)))
      · obtain ⟨cnt', lo', E', W', T', U', C', JE', hT', S', hl', hpe, hiv, hX⟩ := ih (b + 1) cnt lo E W (go_up T (x * 16 + b) (T (x * 16 + b) - 1)) U C (by omega) JE hT1 S (by omega)
        refine ⟨cnt', lo', E', W', T', U', C', JE', hT', S', by omega, hpe, fun e H => hiv e (fun x' y' b' hx' hy' hb' ax ay l d' => ?_), fun post J hJ => br_f hne ⟨hv, br_f (go_bn al x hal) (go_cd1 nn ac pc tm md lo al A La P Lp E D W T U C hT hx hb16 (by omega) _ (br_t rfl (nm_r (nI_1 b) (hX post J hJ))))⟩⟩
        exact go_oks hx hb16 (go_pe0 U C lo (go_ms D)) (fun _ _ _ _ => rfl) (fun c hc => go_un hc) hx' hb' (H x' y' b' hx' hy' hb' ax ay l d') (fun _ _ w _ => Or.inr (Or.inr (Or.inr (Or.inl ⟨w, by show 0 < go_up T (x * 16 + b) (T (x * 16 + b) - 1) (x * 16 + b); rw [go_us]; omega⟩))))
theorem go_tko (hn : nn ≤ 16) (hac : 2 ≤ ac ∧ ac ≤ 4) (htm : 1 ≤ tm ∧ tm ≤ 8) (IA : go_IV4 ac A La) : ∀ d i (cnt lo : Nat) (E W : Nat → Bool) (T : Nat → Nat) (U : Nat → Bool) (C : Nat → Nat), i + d = nn → go_IE A La E → (∀ j, T j ≤ 8) → go_IS U C → lo + 16 * d < 2 ^ 31 → ∃ (cnt' lo' : Nat) (E' W' : Nat → Bool) (T' : Nat → Nat) (U' : Nat → Bool) (C' : Nat → Nat), go_IE A La E' ∧ (∀ j, T' j ≤ 8) ∧ go_IS U' C' ∧ lo' ≤ lo + 16 * d ∧ go_pe U C lo U' C' lo' (go_ms D) ∧ (lo' = lo → go_inv al A La D W T U C → go_inv al A La D W' T' U' C') ∧ (∀ (post : Int32 → St2 → Prop), post (nI cnt') (nI nn, nI ac, nI pc, nI tm, nI md, nI lo', go_B al, go_N A, go_N La, go_N P, go_N Lp, go_M E', go_M D, go_M W', go_N T', go_S U' C') → wX_tick_4 post (d + 1) (nI cnt) (nI i) (nI nn) (nI ac) (nI pc) (nI tm) (nI md) (nI lo) (go_B al) (go_N A) (go_N La) (go_N P) (go_N Lp) (go_M E) (go_M D) (go_M W) (go_N T) (go_S U C)) := by
  intro d
  induction d with
  | zero =>
    intro i cnt lo E W T U C hi JE hT S hl
    exact ⟨cnt, lo, E, W, T, U, C, JE, hT, S, by omega, go_pe0 U C lo _, fun _ h => h, fun post hp => br_t (nI_le (by omega) (by omega)) hp⟩
  | succ d ih =>
    intro i cnt lo E W T U C hi JE hT S hl
    have hi16 : i < 16 := by omega
    have hne : ¬ nI nn ≤ nI i := nI_ge (by omega) (by omega)
    cases hal : al i with
    | false =>
      obtain ⟨cnt', lo', E', W', T', U', C', JE', hT', S', hl', hpe, hiv, hX⟩ := ih (i + 1) cnt lo E W T U C (by omega) JE hT S (by omega)
      exact ⟨cnt', lo', E', W', T', U', C', JE', hT', S', by omega, hpe, hiv, fun post hp => br_f hne ⟨17, go_tkD nn ac pc tm md lo al A La P Lp E D W T U C hi16 hal post _ (hX post hp) 17 0 (by omega) (by omega)⟩⟩
    | true =>
      obtain ⟨cnt1, lo1, E1, W1, T1, U1, C1, JE1, hT1, S1, hl1, hpe1, hiv1, hX1⟩ := go_tkl nn ac pc tm md al A La P Lp D (x := i) hac htm IA hi16 hal 16 0 cnt lo E W T U C (by omega) JE hT S (by omega)
      obtain ⟨cnt', lo', E', W', T', U', C', JE', hT', S', hl', hpe, hiv, hX⟩ := ih (i + 1) cnt1 lo1 E1 W1 T1 U1 C1 (by omega) JE1 hT1 S1 (by omega)
      have q1 := hpe1.2.2
      have q2 := hpe.2.2
      exact ⟨cnt', lo', E', W', T', U', C', JE', hT', S', by omega, go_pet hpe1 hpe, fun e H => hiv (by omega) (hiv1 (by omega) H), fun post hp => br_f hne ⟨_, hX1 post _ (hX post hp)⟩⟩
end
end
section
theorem go_rem1 {U : Nat → Bool} {C : Nat → Nat} {k x y b : Nat} (s : Nat) (h : go_hs U C k x y b) : go_hs (go_up U s false) C k x y b ∨ (C s / 2 ^ 24 = k ∧ C s / 2 ^ 20 % 2 ^ 4 = x ∧ C s / 2 ^ 16 % 2 ^ 4 = y ∧ bt (nI (C s)) b = true) := by
  obtain ⟨t, ht, hU, h1, h2, h3, h4⟩ := h
  by_cases e : t = s
  · rw [e] at h1 h2 h3 h4
    exact Or.inr ⟨h1, h2, h3, h4⟩
  · exact Or.inl ⟨t, ht, (go_un e).trans hU, h1, h2, h3, h4⟩
theorem go_okrem {D W : Nat → Bool} {T : Nat → Nat} {U : Nat → Bool} {C : Nat → Nat} {s x' y' b : Nat} (hc : C s < 2 ^ 31) (hb : b < 16) (h : go_ok D W T U C x' y' b) : go_ok D W T (go_up U s false) C x' y' b ∨ ((C s / 2 ^ 24 = 9 ∨ C s / 2 ^ 24 = 10) ∧ x' = C s / 2 ^ 20 % 2 ^ 4 ∧ y' = C s / 2 ^ 16 % 2 ^ 4 ∧ bt (nI (C s % 2 ^ 16)) b = true) ∨ (C s / 2 ^ 24 = 11 ∧ x' = C s / 2 ^ 16 % 2 ^ 4 ∧ y' = C s / 2 ^ 20 % 2 ^ 4 ∧ bt (nI (C s % 2 ^ 16)) b = true) := by
  rw [go_lowb hc hb]
  rcases h with h | h | h | h | h
  · exact Or.inl (Or.inl h)
  · rcases go_rem1 s h with g | ⟨g1, g2, g3, g4⟩
    · exact Or.inl (Or.inr (Or.inl g))
    · exact Or.inr (Or.inl ⟨Or.inl g1, g2.symm, g3.symm, g4⟩)
  · rcases go_rem1 s h with g | ⟨g1, g2, g3, g4⟩
    · exact Or.inl (Or.inr (Or.inr (Or.inl g)))
    · exact Or.inr (Or.inl ⟨Or.inr g1, g2.symm, g3.symm, g4⟩)
  · exact Or.inl (Or.inr (Or.inr (Or.inr (Or.inl h))))
  · rcases go_rem1 s h with g | ⟨g1, g2, g3, g4⟩
    · exact Or.inl (Or.inr (Or.inr (Or.inr (Or.inr g))))
    · exact Or.inr (Or.inr ⟨g1, g3.symm, g2.symm, g4⟩)
theorem go_iv0 {al : Nat → Bool} {A La : Nat → Nat} {D W : Nat → Bool} {T : Nat → Nat} {U : Nat → Bool} {C : Nat → Nat} {s : Nat} (hc : C s < 2 ^ 31) (h9 : C s / 2 ^ 24 ≠ 9) (h10 : C s / 2 ^ 24 ≠ 10) (h11 : C s / 2 ^ 24 ≠ 11) (H : go_inv al A La D W T U C) : go_inv al A La D W T (go_up U s false) C := by
  intro x' y' b hx' hy' hb ax ay l d
  rcases go_okrem (s := s) hc hb (H x' y' b hx' hy' hb ax ay l d) with h | h | h
  · exact h
  · exact absurd h.1 (by omega)
  · exact absurd h.1 h11
theorem go_iv1 {al : Nat → Bool} {A La : Nat → Nat} {D W : Nat → Bool} {T : Nat → Nat} {U : Nat → Bool} {C : Nat → Nat} {s : Nat} (hc : C s < 2 ^ 31) (h11 : C s / 2 ^ 24 ≠ 11) (H : go_inv al A La D W T U C) : go_in1 al A La D W T (go_up U s false) C (C s / 2 ^ 20 % 2 ^ 4) (C s / 2 ^ 16 % 2 ^ 4) (C s % 2 ^ 16) := by
  intro x' y' b hx' hy' hb ax ay l d
  rcases go_okrem (s := s) hc hb (H x' y' b hx' hy' hb ax ay l d) with h | h | h
  · exact Or.inl h
  · exact Or.inr h.2
  · exact absurd h.1 h11
theorem go_iv2 {al : Nat → Bool} {A La : Nat → Nat} {D W : Nat → Bool} {T : Nat → Nat} {U : Nat → Bool} {C : Nat → Nat} {s : Nat} (hc : C s < 2 ^ 31) (h9 : C s / 2 ^ 24 ≠ 9) (h10 : C s / 2 ^ 24 ≠ 10) (H : go_inv al A La D W T U C) : go_in1 al A La D W T (go_up U s false) C (C s / 2 ^ 16 % 2 ^ 4) (C s / 2 ^ 20 % 2 ^ 4) (C s % 2 ^ 16) := by
  intro x' y' b hx' hy' hb ax ay l d
  rcases go_okrem (s := s) hc hb (H x' y' b hx' hy' hb ax ay l d) with h | h | h
  · exact Or.inl h
  · exact absurd h.1 (by omega)
  · exact Or.inr h.2
section
variable (nn ac pc tm md lo : Nat) (al : Nat → Bool) (A La P Lp : Nat → Nat) (E D W : Nat → Bool) (T : Nat → Nat) (U : Nat → Bool) (C : Nat → Nat)
theorem go_deliver {s : Nat} (hn : 2 ≤ nn ∧ nn ≤ 16) (hac : 2 ≤ ac ∧ ac ≤ 4) (hpc : 1 ≤ pc ∧ pc ≤ 8) (htm : 1 ≤ tm ∧ tm ≤ 8) (Z : go_Z ac pc A La P Lp E T U C) (hl : lo + 10 < 2 ^ 31) (KD : ∀ z b, b < 16 → D (z * 16 + b) = true → b < md) (MS : ∀ t, U t = true → go_ms D (C t)) (hs : s < 64) (hU : U s = true) : ∃ (A' La' P' Lp' : Nat → Nat) (E' D' W' : Nat → Bool) (T' : Nat → Nat) (U' : Nat → Bool) (C' : Nat → Nat) (lo' : Nat), go_Z ac pc A' La' P' Lp' E' T' U' C' ∧ lo' ≤ lo + 10 ∧ lo ≤ lo' ∧ (∀ j, D j = true → D' j = true) ∧ (∀ z b, b < 16 → D' (z * 16 + b) = true → b < md) ∧ (∀ t, U' t = true → go_ms D' (C' t)) ∧ (lo' = lo → go_inv al A La D W T U C → go_inv al A' La' D' W' T' U' C') ∧ (∀ post : Int32 → St2 → Prop, post 1 (nI nn, nI ac, nI pc, nI tm, nI md, nI lo', go_B al, go_N A', go_N La', go_N P', go_N Lp', go_M E', go_M D', go_M W', go_N T', go_S U' C') → wpX_deliver post (nI nn, nI ac, nI pc, nI tm, nI md, nI lo, go_B al, go_N A, go_N La, go_N P, go_N Lp, go_M E, go_M D, go_M W, go_N T, go_S U C) (nI s)) := by
  have S0 := Z.2.2.2.2
  have Z1 : go_Z ac pc A La P Lp E T (go_up U s false) C := ⟨Z.1, Z.2.1, Z.2.2.1, Z.2.2.2.1, go_ISf S0 s⟩
  have hc := (S0 s).1
  have MS1 : ∀ t, go_up U s false t = true → go_ms D (C t) := by
    intro t h
    by_cases e : t = s
    · rw [e, go_us] at h; exact absurd h (by decide)
    · rw [go_un e] at h; exact MS t h
  have hv : vp_in (nI s) 64 := vp_in_nI hs (by omega)
  have rS : go_S U C (nI s).toNatClampNeg = nI (C s) := go_rS s hU
  have d24 := go_d24 hc
  have d20 := go_d20 hc
  have d16 := go_d16 hc
  have d0 := go_d0 hc
  have hx : C s / 2 ^ 20 % 2 ^ 4 < 16 := by omega
  have hy : C s / 2 ^ 16 % 2 ^ 4 < 16 := by omega
  have ha : C s % 2 ^ 16 < 65536 := by omega
  have hk : C s / 2 ^ 24 < 128 := by omega
  have hms : C s / 2 ^ 24 = 9 → ∀ b, b < 16 → bt (nI (C s % 2 ^ 16)) b = true → D (C s / 2 ^ 20 % 2 ^ 4 * 16 + b) = true := fun q b hb h => MS s hU q b hb (by rw [← go_lowb hc hb]; exact h)
  have IV0 := fun h9 h10 h11 => go_iv0 (al := al) (A := A) (La := La) (D := D) (W := W) (T := T) (U := U) (s := s) hc h9 h10 h11
  have IV1 := fun h11 => go_iv1 (al := al) (A := A) (La := La) (D := D) (W := W) (T := T) (U := U) (s := s) hc h11
  have IV2 := fun h9 h10 => go_iv2 (al := al) (A := A) (La := La) (D := D) (W := W) (T := T) (U := U) (s := s) hc h9 h10
  generalize C s / 2 ^ 20 % 2 ^ 4 = x at d20 hx hms IV1 IV2
  generalize C s / 2 ^ 16 % 2 ^ 4 = y at d16 hy IV1 IV2
  generalize C s % 2 ^ 16 = a at d0 ha hms IV1 IV2
  generalize C s / 2 ^ 24 = k at d24 hk hms IV0 IV1 IV2
  by_cases k1 : k = 1
  · have dx : nI (C s) >>> ((24 : Int32) &&& 31) = 1 := by rw [d24, k1]; rfl
    obtain ⟨A', La', P', Lp', E', U', C', lo', Z', hl', hpe, hlr, hX⟩ := go_h1 nn ac pc tm md lo al A La P Lp E D W T (go_up U s false) C hac hpc Z1 hl hx hy
    refine ⟨A', La', P', Lp', E', D, W, T, U', C', lo', Z', hl', hpe.2.2, fun _ h => h, KD, go_msp MS1 (fun _ h => h) hpe, fun e H => go_ivr (IV0 (by omega) (by omega) (by omega) H) hpe hlr e, fun post hp => ?_⟩
    unfold wpX_deliver
    exact go_usX nn ac pc tm md lo al A La P Lp E D W T U C S0 hs hU _ (br_f (by decide) ⟨hv, nm_r rS ⟨hv, nm_r (go_uSf U C s) (nm_r d20 (nm_r d16 (nm_r d0 (nm_r dx (br_f (by decide) (br_f (by decide) (br_t rfl (hX _ hp))))))))⟩⟩)
  by_cases k2 : k = 2
  · have dx : nI (C s) >>> ((24 : Int32) &&& 31) = 2 := by rw [d24, k2]; rfl
    obtain ⟨A', La', P', Lp', E', U', C', lo', Z', hl', hpe, hlr, hX⟩ := go_h2 nn ac pc tm md lo al A La P Lp E D W T (go_up U s false) C hac hpc Z1 hl hx hy ha
    refine ⟨A', La', P', Lp', E', D, W, T, U', C', lo', Z', hl', hpe.2.2, fun _ h => h, KD, go_msp MS1 (fun _ h => h) hpe, fun e H => go_ivr (IV0 (by omega) (by omega) (by omega) H) hpe hlr e, fun post hp => ?_⟩
    unfold wpX_deliver
    exact go_usX nn ac pc tm md lo al A La P Lp E D W T U C S0 hs hU _ (br_f (by decide) ⟨hv, nm_r rS ⟨hv, nm_r (go_uSf U C s) (nm_r d20 (nm_r d16 (nm_r d0 (nm_r dx (br_f (by decide) (br_f (by decide) (br_f (by decide) (br_t rfl (hX _ hp)))))))))⟩⟩)
  by_cases k3 : k = 3
  · have dx : nI (C s) >>> ((24 : Int32) &&& 31) = 3 := by rw [d24, k3]; rfl
    obtain ⟨A', La', E', P', Lp', U', C', lo', IA', JE', I', S', hl', hpe, hlr, hX⟩ := go_addA nn ac pc tm md lo al A La P Lp E D W T (go_up U s false) C false hac Z1.1 Z1.2.1 hpc Z1.2.2.1 Z1.2.2.2.2 (by omega) hy hx
    refine ⟨A', La', P', Lp', E', D, W, T, U', C', lo', ⟨IA', JE', I', Z1.2.2.2.1, S'⟩, by omega, hpe.2.2, fun _ h => h, KD, go_msp MS1 (fun _ h => h) hpe, fun e H => go_ivr (IV0 (by omega) (by omega) (by omega) H) hpe hlr e, fun post hp => ?_⟩
    unfold wpX_deliver
    exact go_usX nn ac pc tm md lo al A La P Lp E D W T U C S0 hs hU _ (br_f (by decide) ⟨hv, nm_r rS ⟨hv, nm_r (go_uSf U C s) (nm_r d20 (nm_r d16 (nm_r d0 (nm_r dx (br_f (by decide) (br_f (by decide) (br_f (by decide) (br_f (by decide) (br_t rfl (hX _ hp))))))))))⟩⟩)
  by_cases k4 : k = 4
  · have dx : nI (C s) >>> ((24 : Int32) &&& 31) = 4 := by rw [d24, k4]; rfl
    obtain ⟨A', La', P', Lp', E', U', C', lo', Z', hl', hpe, hlr, hX⟩ := go_h4 nn ac pc tm md lo al A La P Lp E D W T (go_up U s false) C hac hpc Z1 hx hy
    refine ⟨A', La', P', Lp', E', D, W, T, U', C', lo', Z', hl', hpe.2.2, fun _ h => h, KD, go_msp MS1 (fun _ h => h) hpe, fun e H => go_ivr (IV0 (by omega) (by omega) (by omega) H) hpe hlr e, fun post hp => ?_⟩
    unfold wpX_deliver
    exact go_usX nn ac pc tm md lo al A La P Lp E D W T U C S0 hs hU _ (br_f (by decide) ⟨hv, nm_r rS ⟨hv, nm_r (go_uSf U C s) (nm_r d20 (nm_r d16 (nm_r d0 (nm_r dx (br_f (by decide) (br_f (by decide) (br_f (by decide) (br_f (by decide) (br_f (by decide) (br_t rfl (hX _ hp)))))))))))⟩⟩)
  by_cases k5 : k = 5
  · have dx : nI (C s) >>> ((24 : Int32) &&& 31) = 5 := by rw [d24, k5]; rfl
    obtain ⟨A', La', P', Lp', E', U', C', lo', Z', hl', hpe, hlr, hX⟩ := go_h5 nn ac pc tm md lo al A La P Lp E D W T (go_up U s false) C hac hpc Z1 hl hx hy ha
    refine ⟨A', La', P', Lp', E', D, W, T, U', C', lo', Z', hl', hpe.2.2, fun _ h => h, KD, go_msp MS1 (fun _ h => h) hpe, fun e H => go_ivr (IV0 (by omega) (by omega) (by omega) H) hpe hlr e, fun post hp => ?_⟩
    unfold wpX_deliver
    exact go_usX nn ac pc tm md lo al A La P Lp E D W T U C S0 hs hU _ (br_f (by decide) ⟨hv, nm_r rS ⟨hv, nm_r (go_uSf U C s) (nm_r d20 (nm_r d16 (nm_r d0 (nm_r dx (br_f (by decide) (br_f (by decide) (br_f (by decide) (br_f (by decide) (br_f (by decide) (br_f (by decide) (br_t rfl (hX _ hp))))))))))))⟩⟩)
  by_cases k6 : k = 6
  · have dx : nI (C s) >>> ((24 : Int32) &&& 31) = 6 := by rw [d24, k6]; rfl
    obtain ⟨P1, Lp1, I1, hX1⟩ := go_addP nn ac pc tm md lo al A La P Lp E D W T (go_up U s false) C hac.2 Z1.1 hpc Z1.2.2.1 hy hx
    obtain ⟨P', Lp', U', C', lo', I', S', hl', hpe, hX⟩ := go_repair nn ac pc tm md lo al A La P1 Lp1 E D W T (go_up U s false) C hac (Z1.1.2.1 y) hpc I1 Z1.2.2.2.2 (by omega) hy
    refine ⟨A, La, P', Lp', E, D, W, T, U', C', lo', ⟨Z1.1, Z1.2.1, I', Z1.2.2.2.1, S'⟩, by omega, hpe.2.2, fun _ h => h, KD, go_msp MS1 (fun _ h => h) hpe, fun e H => go_ivp hpe (IV0 (by omega) (by omega) (by omega) H), fun post hp => ?_⟩
    unfold wpX_deliver
    exact go_usX nn ac pc tm md lo al A La P Lp E D W T U C S0 hs hU _ (br_f (by decide) ⟨hv, nm_r rS ⟨hv, nm_r (go_uSf U C s) (nm_r d20 (nm_r d16 (nm_r d0 (nm_r dx (br_f (by decide) (br_f (by decide) (br_f (by decide) (br_f (by decide) (br_f (by decide) (br_f (by decide) (br_f (by decide) (br_t rfl (hX1 _ (hX _ hp))))))))))))))⟩⟩)
  by_cases k7 : k = 7
  · have dx : nI (C s) >>> ((24 : Int32) &&& 31) = 7 := by rw [d24, k7]; rfl
    obtain ⟨A', La', P', Lp', E', U', C', lo', Z', hl', hpe, hlr, hX⟩ := go_h7 nn ac pc tm md lo al A La P Lp E D W T (go_up U s false) C (a := a) hn hac hpc Z1 hl hx hy
    refine ⟨A', La', P', Lp', E', D, W, T, U', C', lo', Z', hl', hpe.2.2, fun _ h => h, KD, go_msp MS1 (fun _ h => h) hpe, fun e H => go_ivr (IV0 (by omega) (by omega) (by omega) H) hpe hlr e, fun post hp => ?_⟩
    unfold wpX_deliver
    exact go_usX nn ac pc tm md lo al A La P Lp E D W T U C S0 hs hU _ (br_f (by decide) ⟨hv, nm_r rS ⟨hv, nm_r (go_uSf U C s) (nm_r d20 (nm_r d16 (nm_r d0 (nm_r dx (br_f (by decide) (br_f (by decide) (br_f (by decide) (br_f (by decide) (br_f (by decide) (br_f (by decide) (br_f (by decide) (br_f (by decide) (br_t rfl (hX _ hp))))))))))))))⟩⟩)
  by_cases k8 : k = 8
  · have dx : nI (C s) >>> ((24 : Int32) &&& 31) = 8 := by rw [d24, k8]; rfl
    obtain ⟨A', La', P', Lp', E', U', C', lo', Z', hl', hpe, hlr, hX⟩ := go_h8 nn ac pc tm md lo al A La P Lp E D W T (go_up U s false) C (a := a) hn hac hpc Z1 hy
    refine ⟨A', La', P', Lp', E', D, W, T, U', C', lo', Z', hl', hpe.2.2, fun _ h => h, KD, go_msp MS1 (fun _ h => h) hpe, fun e H => go_ivr (IV0 (by omega) (by omega) (by omega) H) hpe hlr e, fun post hp => ?_⟩
    unfold wpX_deliver
    exact go_usX nn ac pc tm md lo al A La P Lp E D W T U C S0 hs hU _ (br_f (by decide) ⟨hv, nm_r rS ⟨hv, nm_r (go_uSf U C s) (nm_r d20 (nm_r d16 (nm_r d0 (nm_r dx (br_f (by decide) (br_f (by decide) (br_f (by decide) (br_f (by decide) (br_f (by decide) (br_f (by decide) (br_f (by decide) (br_f (by decide) (br_f (by decide) (br_t rfl (hX _ hp)))))))))))))))⟩⟩)
  by_cases k9 : k = 9
  · have dx : nI (C s) >>> ((24 : Int32) &&& 31) = 9 := by rw [d24, k9]; rfl
    obtain ⟨E', D', W', T', U', C', lo', Z', hl', hDD, hD2, hpe, hiv, hX⟩ := go_h9 nn ac pc tm md lo al A La P Lp E D W T (go_up U s false) C hac Z1 hl hx hy ha (hms k9)
    refine ⟨A, La, P, Lp, E', D', W', T', U', C', lo', Z', hl', hpe.2.2, hDD, fun z b hb h => (hD2 z b hb h).elim (KD z b hb) (KD x b hb), go_msp MS1 hDD hpe, fun e H => hiv e (IV1 (by omega) H), fun post hp => ?_⟩
    unfold wpX_deliver
    exact go_usX nn ac pc tm md lo al A La P Lp E D W T U C S0 hs hU _ (br_f (by decide) ⟨hv, nm_r rS ⟨hv, nm_r (go_uSf U C s) (nm_r d20 (nm_r d16 (nm_r d0 (nm_r dx (br_f (by decide) (br_f (by decide) (br_f (by decide) (br_f (by decide) (br_f (by decide) (br_f (by decide) (br_f (by decide) (br_f (by decide) (br_f (by decide) (br_f (by decide) (br_t rfl (hX _ hp))))))))))))))))⟩⟩)
  by_cases k10 : k = 10
  · have dx : nI (C s) >>> ((24 : Int32) &&& 31) = 10 := by rw [d24, k10]; rfl
    obtain ⟨W', T', Z', hiv, hX⟩ := go_h10 nn ac pc tm md lo al A La P Lp E D W T (go_up U s false) C htm Z1 hx hy ha
    refine ⟨A, La, P, Lp, E, D, W', T', go_up U s false, C, lo, Z', by omega, Nat.le_refl _, fun _ h => h, KD, MS1, fun e H => hiv (IV1 (by omega) H), fun post hp => ?_⟩
    unfold wpX_deliver
    exact go_usX nn ac pc tm md lo al A La P Lp E D W T U C S0 hs hU _ (br_f (by decide) ⟨hv, nm_r rS ⟨hv, nm_r (go_uSf U C s) (nm_r d20 (nm_r d16 (nm_r d0 (nm_r dx (br_f (by decide) (br_f (by decide) (br_f (by decide) (br_f (by decide) (br_f (by decide) (br_f (by decide) (br_f (by decide) (br_f (by decide) (br_f (by decide) (br_f (by decide) (br_f (by decide) (br_t rfl (hX _ hp)))))))))))))))))⟩⟩)
  by_cases k11 : k = 11
  · have dx : nI (C s) >>> ((24 : Int32) &&& 31) = 11 := by rw [d24, k11]; rfl
    obtain ⟨E', U', C', lo', Z', hl', hpe, hiv, hX⟩ := go_h11 nn ac pc tm md lo al A La P Lp E D W T (go_up U s false) C hac Z1 hl hx hy ha
    refine ⟨A, La, P, Lp, E', D, W, T, U', C', lo', Z', hl', hpe.2.2, fun _ h => h, KD, go_msp MS1 (fun _ h => h) hpe, fun e H => hiv e (IV2 (by omega) (by omega) H), fun post hp => ?_⟩
    unfold wpX_deliver
    exact go_usX nn ac pc tm md lo al A La P Lp E D W T U C S0 hs hU _ (br_f (by decide) ⟨hv, nm_r rS ⟨hv, nm_r (go_uSf U C s) (nm_r d20 (nm_r d16 (nm_r d0 (nm_r dx (br_f (by decide) (br_f (by decide) (br_f (by decide) (br_f (by decide) (br_f (by decide) (br_f (by decide) (br_f (by decide) (br_f (by decide) (br_f (by decide) (br_f (by decide) (br_f (by decide) (br_f (by decide) (br_t rfl (hX _ hp))))))))))))))))))⟩⟩)
  by_cases k12 : k = 12
  · have dx : nI (C s) >>> ((24 : Int32) &&& 31) = 12 := by rw [d24, k12]; rfl
    refine ⟨A, La, P, Lp, go_up E (y * 16 + x) false, D, W, T, go_up U s false, C, lo, ⟨Z1.1, go_Eclr Z1.2.1 _, Z1.2.2.1, Z1.2.2.2.1, Z1.2.2.2.2⟩, by omega, Nat.le_refl _, fun _ h => h, KD, MS1, fun e H => IV0 (by omega) (by omega) (by omega) H, fun post hp => ?_⟩
    unfold wpX_deliver
    exact go_usX nn ac pc tm md lo al A La P Lp E D W T U C S0 hs hU _ (br_f (by decide) ⟨hv, nm_r rS ⟨hv, nm_r (go_uSf U C s) (nm_r d20 (nm_r d16 (nm_r d0 (nm_r dx (br_f (by decide) (br_f (by decide) (br_f (by decide) (br_f (by decide) (br_f (by decide) (br_f (by decide) (br_f (by decide) (br_f (by decide) (br_f (by decide) (br_f (by decide) (br_f (by decide) (br_f (by decide) (br_f (by decide) (br_t rfl ⟨vp_in_nI hy (by omega), vp_in_nI hy (by omega), nm_r (go_uMc E y x hx) hp⟩))))))))))))))))))⟩⟩)
  refine ⟨A, La, P, Lp, E, D, W, T, go_up U s false, C, lo, Z1, by omega, Nat.le_refl _, fun _ h => h, KD, MS1, fun e H => IV0 k9 k10 k11 H, fun post hp => ?_⟩
  unfold wpX_deliver
  refine go_usX nn ac pc tm md lo al A La P Lp E D W T U C S0 hs hU _ (br_f (by decide) ⟨hv, nm_r rS ⟨hv, nm_r (go_uSf U C s) (nm_r d20 (nm_r d16 (nm_r d0 (nm_r d24 ?_))))⟩⟩)
  rcases Nat.eq_zero_or_pos k with q | q
  · exact br_t (by rw [q]; decide) hp
  · exact br_f (Int32.not_lt.mpr (nI_le (a := 1) q (by omega))) (br_t (nI_lt (a := 12) (by omega) (by omega)) hp)
end
end
section
def go_G (nn ac pc tm md lo : Nat) (al : Nat → Bool) (A La P Lp : Nat → Nat) (E D W : Nat → Bool) (T : Nat → Nat) (U : Nat → Bool) (C : Nat → Nat) : Prop := ((2 ≤ nn ∧ nn ≤ 16) ∧ (2 ≤ ac ∧ ac ≤ 4) ∧ (1 ≤ pc ∧ pc ≤ 8) ∧ (1 ≤ tm ∧ tm ≤ 8)) ∧ md ≤ 16 ∧ go_Z ac pc A La P Lp E T U C ∧ (∀ z b, b < 16 → D (z * 16 + b) = true → b < md) ∧ (∀ t, U t = true → go_ms D (C t)) ∧ (lo = 0 → go_inv al A La D W T U C)
theorem go_cls (v : Int32) (nn : Nat) (hn : nn < 2 ^ 31) : (v < 0 ∨ nI nn ≤ v) ∨ ∃ j, j < nn ∧ v = nI j := by
  rcases pk_ix v hn with h | h | h
  · exact Or.inl (Or.inl h)
  · exact Or.inl (Or.inr h)
  · exact Or.inr h
section
variable (nn ac pc tm md lo : Nat) (al : Nat → Bool) (A La P Lp : Nat → Nat) (E D W : Nat → Bool) (T : Nat → Nat) (U : Nat → Bool) (C : Nat → Nat)
theorem go_cJ (v1 v2 : Int32) (G : go_G nn ac pc tm md lo al A La P Lp E D W T U C) (hl : lo + 300 < 2 ^ 31) : ∃ (al' : Nat → Bool) (A' La' P' Lp' : Nat → Nat) (E' D' W' : Nat → Bool) (T' : Nat → Nat) (U' : Nat → Bool) (C' : Nat → Nat) (lo' : Nat), go_G nn ac pc tm md lo' al' A' La' P' Lp' E' D' W' T' U' C' ∧ lo' ≤ lo + 300 ∧ (∀ j, D j = true → D' j = true) ∧ ∃ r : Int32, ∀ post : Int32 → St2 → Prop, post r (nI nn, nI ac, nI pc, nI tm, nI md, nI lo', go_B al', go_N A', go_N La', go_N P', go_N Lp', go_M E', go_M D', go_M W', go_N T', go_S U' C') → wpX_join post (nI nn, nI ac, nI pc, nI tm, nI md, nI lo, go_B al, go_N A, go_N La, go_N P, go_N Lp, go_M E, go_M D, go_M W, go_N T, go_S U C) v1 v2 := by
  have G0 := G
  obtain ⟨⟨hn, hac, hpc, htm⟩, hmd, Z, KD, MS, IV⟩ := G
  have stay : (∀ post : Int32 → St2 → Prop, post 0 (nI nn, nI ac, nI pc, nI tm, nI md, nI lo, go_B al, go_N A, go_N La, go_N P, go_N Lp, go_M E, go_M D, go_M W, go_N T, go_S U C) → wpX_join post (nI nn, nI ac, nI pc, nI tm, nI md, nI lo, go_B al, go_N A, go_N La, go_N P, go_N Lp, go_M E, go_M D, go_M W, go_N T, go_S U C) v1 v2) → ∃ (al' : Nat → Bool) (A' La' P' Lp' : Nat → Nat) (E' D' W' : Nat → Bool) (T' : Nat → Nat) (U' : Nat → Bool) (C' : Nat → Nat) (lo' : Nat), go_G nn ac pc tm md lo' al' A' La' P' Lp' E' D' W' T' U' C' ∧ lo' ≤ lo + 300 ∧ (∀ j, D j = true → D' j = true) ∧ ∃ r : Int32, ∀ post : Int32 → St2 → Prop, post r (nI nn, nI ac, nI pc, nI tm, nI md, nI lo', go_B al', go_N A', go_N La', go_N P', go_N Lp', go_M E', go_M D', go_M W', go_N T', go_S U' C') → wpX_join post (nI nn, nI ac, nI pc, nI tm, nI md, nI lo, go_B al, go_N A, go_N La, go_N P, go_N Lp, go_M E, go_M D, go_M W, go_N T, go_S U C) v1 v2 := fun h => ⟨al, A, La, P, Lp, E, D, W, T, U, C, lo, G0, by omega, fun _ h => h, 0, h⟩
  rcases go_cls v1 nn (by omega) with h1 | ⟨j1, hj1, rfl⟩
  · refine stay (fun post hp => ?_)
    unfold wpX_join
    exact go_alX0 nn ac pc tm md lo al A La P Lp E D W T U C hn.2 (Or.inl h1) _ (br_t rfl hp)
  cases ha1 : al j1 with
  | false =>
    refine stay (fun post hp => ?_)
    unfold wpX_join
    exact go_alX0 nn ac pc tm md lo al A La P Lp E D W T U C hn.2 (Or.inr ⟨j1, hj1, rfl, ha1⟩) _ (br_t rfl hp)
  | true =>
    rcases go_cls v2 nn (by omega) with h2 | ⟨j2, hj2, rfl⟩
    · refine stay (fun post hp => ?_)
      unfold wpX_join
      exact go_alX nn ac pc tm md lo al A La P Lp E D W T U C hn.2 hj1 ha1 _ (br_f (by decide) (go_alX0 nn ac pc tm md lo al A La P Lp E D W T U C hn.2 (Or.inl h2) _ (br_t rfl hp)))
    cases ha2 : al j2 with
    | false =>
      refine stay (fun post hp => ?_)
      unfold wpX_join
      exact go_alX nn ac pc tm md lo al A La P Lp E D W T U C hn.2 hj1 ha1 _ (br_f (by decide) (go_alX0 nn ac pc tm md lo al A La P Lp E D W T U C hn.2 (Or.inr ⟨j2, hj2, rfl, ha2⟩) _ (br_t rfl hp)))
    | true =>
      by_cases e : nI j1 = nI j2
      · refine stay (fun post hp => ?_)
        unfold wpX_join
        exact go_alX nn ac pc tm md lo al A La P Lp E D W T U C hn.2 hj1 ha1 _ (br_f (by decide) (go_alX nn ac pc tm md lo al A La P Lp E D W T U C hn.2 hj2 ha2 _ (br_f (by decide) (br_t e hp))))
      · obtain ⟨U', C', lo', S', hl', hpe, _, hX⟩ := go_send nn ac pc tm md lo al A La P Lp E D W T U C (k := 1) (a := 0) Z.2.2.2.2 (by omega) (show j1 < 16 by omega) (show j2 < 16 by omega) (by omega) (by omega) (by omega)
        have hpe2 : go_pe U C lo U' C' lo' (go_ms D) := go_pew hpe (fun c hc => by rw [hc]; exact go_msn (by omega) (by omega) (by omega) (by omega) (by omega) (by omega))
        have q := hpe.2.2
        refine ⟨al, A, La, P, Lp, E, D, W, T, U', C', lo', ⟨⟨hn, hac, hpc, htm⟩, hmd, ⟨Z.1, Z.2.1, Z.2.2.1, Z.2.2.2.1, S'⟩, KD, go_msp MS (fun _ h => h) hpe2, fun e0 => go_ivp hpe (IV (by omega))⟩, by omega, fun _ h => h, 1, fun post hp => ?_⟩
        unfold wpX_join
        exact go_alX nn ac pc tm md lo al A La P Lp E D W T U C hn.2 hj1 ha1 _ (br_f (by decide) (go_alX nn ac pc tm md lo al A La P Lp E D W T U C hn.2 hj2 ha2 _ (br_f (by decide) (br_f e (hX _ hp)))))
theorem go_cS (v1 : Int32) (G : go_G nn ac pc tm md lo al A La P Lp E D W T U C) (hl : lo + 300 < 2 ^ 31) : ∃ (al' : Nat → Bool) (A' La' P' Lp' : Nat → Nat) (E' D' W' : Nat → Bool) (T' : Nat → Nat) (U' : Nat → Bool) (C' : Nat → Nat) (lo' : Nat), go_G nn ac pc tm md lo' al' A' La' P' Lp' E' D' W' T' U' C' ∧ lo' ≤ lo + 300 ∧ (∀ j, D j = true → D' j = true) ∧ ∃ r : Int32, ∀ post : Int32 → St2 → Prop, post r (nI nn, nI ac, nI pc, nI tm, nI md, nI lo', go_B al', go_N A', go_N La', go_N P', go_N Lp', go_M E', go_M D', go_M W', go_N T', go_S U' C') → wpX_shuffle post (nI nn, nI ac, nI pc, nI tm, nI md, nI lo, go_B al, go_N A, go_N La, go_N P, go_N Lp, go_M E, go_M D, go_M W, go_N T, go_S U C) v1 := by
  have G0 := G
  obtain ⟨⟨hn, hac, hpc, htm⟩, hmd, Z, KD, MS, IV⟩ := G
  have stay : (∀ post : Int32 → St2 → Prop, post 0 (nI nn, nI ac, nI pc, nI tm, nI md, nI lo, go_B al, go_N A, go_N La, go_N P, go_N Lp, go_M E, go_M D, go_M W, go_N T, go_S U C) → wpX_shuffle post (nI nn, nI ac, nI pc, nI tm, nI md, nI lo, go_B al, go_N A, go_N La, go_N P, go_N Lp, go_M E, go_M D, go_M W, go_N T, go_S U C) v1) → ∃ (al' : Nat → Bool) (A' La' P' Lp' : Nat → Nat) (E' D' W' : Nat → Bool) (T' : Nat → Nat) (U' : Nat → Bool) (C' : Nat → Nat) (lo' : Nat), go_G nn ac pc tm md lo' al' A' La' P' Lp' E' D' W' T' U' C' ∧ lo' ≤ lo + 300 ∧ (∀ j, D j = true → D' j = true) ∧ ∃ r : Int32, ∀ post : Int32 → St2 → Prop, post r (nI nn, nI ac, nI pc, nI tm, nI md, nI lo', go_B al', go_N A', go_N La', go_N P', go_N Lp', go_M E', go_M D', go_M W', go_N T', go_S U' C') → wpX_shuffle post (nI nn, nI ac, nI pc, nI tm, nI md, nI lo, go_B al, go_N A, go_N La, go_N P, go_N Lp, go_M E, go_M D, go_M W, go_N T, go_S U C) v1 := fun h => ⟨al, A, La, P, Lp, E, D, W, T, U, C, lo, G0, by omega, fun _ h => h, 0, h⟩
  rcases go_cls v1 nn (by omega) with h1 | ⟨x, hx, rfl⟩
  · refine stay (fun post hp => ?_)
    unfold wpX_shuffle
    exact go_alX0 nn ac pc tm md lo al A La P Lp E D W T U C hn.2 (Or.inl h1) _ (br_t rfl hp)
  have hv : vp_in (nI x) 16 := vp_in_nI (by omega) (by omega)
  have hla := Z.1.2.1 x
  have hlp := Z.2.2.1.2.1 x
  cases hal : al x with
  | false =>
    refine stay (fun post hp => ?_)
    unfold wpX_shuffle
    exact go_alX0 nn ac pc tm md lo al A La P Lp E D W T U C hn.2 (Or.inr ⟨x, hx, rfl, hal⟩) _ (br_t rfl hp)
  | true =>
    by_cases h0 : La x = 0
    · have z : go_N La (nI x).toNatClampNeg = 0 := by rw [go_rN La x rfl (by omega), h0]; exact nI_0
      refine stay (fun post hp => ?_)
      unfold wpX_shuffle
      exact go_alX nn ac pc tm md lo al A La P Lp E D W T U C hn.2 hx hal _ (br_f (by decide) ⟨hv, br_t z hp⟩)
    · have hx16 : x < 16 := by omega
      have hq : A (x * 4 + 0) < 16 := Z.1.1 _
      have c2 : nI x * 4 = nI (x * 4) := pk_mul x 4
      have c3 : go_N A (nI x * 4).toNatClampNeg = nI (A (x * 4 + 0)) := go_rN A (x * 4) c2 (by omega)
      have z : ¬ go_N La (nI x).toNatClampNeg = 0 := by rw [go_rN La x rfl (by omega)]; exact nI_ne0 (by omega) (by omega)
      obtain ⟨m, hm, em⟩ := go_16 (x := ((go_w A (x * 4) (La x) ||| go_w P (x * 8) (Lp x)) ||| ((1 : Int32) <<< (nI x &&& 31))) &&& (((1 : Int32) <<< (nI (A (x * 4 + 0)) &&& 31)) ^^^ (-1))) (fun i h1 h2 => by
        rw [b_and, b_or, b_or, go_w16 Z.1.1 _ _ i h1 h2, go_w16 Z.2.2.1.1 _ _ i h1 h2, go_1b x (by omega) h2, decide_eq_false (by omega)]
        rfl)
      obtain ⟨U', C', lo', S', hl', hpe, _, hX⟩ := go_send nn ac pc tm md lo al A La P Lp E D W T U C (k := 7) Z.2.2.2.2 (by omega) hx16 hq (by omega) (by omega) hm
      have hpe2 : go_pe U C lo U' C' lo' (go_ms D) := go_pew hpe (fun c hc => by rw [hc]; exact go_msn (by omega) (by omega) hx16 hq hm (by omega))
      have q := hpe.2.2
      rw [← em] at hX
      refine ⟨al, A, La, P, Lp, E, D, W, T, U', C', lo', ⟨⟨hn, hac, hpc, htm⟩, hmd, ⟨Z.1, Z.2.1, Z.2.2.1, Z.2.2.2.1, S'⟩, KD, go_msp MS (fun _ h => h) hpe2, fun e0 => go_ivp hpe (IV (by omega))⟩, by omega, fun _ h => h, 1, fun post hp => ?_⟩
      unfold wpX_shuffle
      exact go_alX nn ac pc tm md lo al A La P Lp E D W T U C hn.2 hx hal _ (br_f (by decide) ⟨hv, br_f z ⟨pk_in (x * 4) 64 (by omega) c2, nm_r c3 ⟨La x + 1, go_amX nn ac pc tm md lo al A La P Lp E D W T U C Z.1.1 (by omega) hx16 _ ⟨Lp x + 1, go_pmX nn ac pc tm md lo al A La P Lp E D W T U C Z.2.2.1.1 (by omega) hx16 _ (fun z ez => by subst ez; exact hX _ hp) _ 0 (by omega) (by omega)⟩ _ 0 (by omega) (by omega)⟩⟩⟩)
theorem go_cC (v1 : Int32) (G : go_G nn ac pc tm md lo al A La P Lp E D W T U C) (hl : lo + 300 < 2 ^ 31) : ∃ (al' : Nat → Bool) (A' La' P' Lp' : Nat → Nat) (E' D' W' : Nat → Bool) (T' : Nat → Nat) (U' : Nat → Bool) (C' : Nat → Nat) (lo' : Nat), go_G nn ac pc tm md lo' al' A' La' P' Lp' E' D' W' T' U' C' ∧ lo' ≤ lo + 300 ∧ (∀ j, D j = true → D' j = true) ∧ ∃ r : Int32, ∀ post : Int32 → St2 → Prop, post r (nI nn, nI ac, nI pc, nI tm, nI md, nI lo', go_B al', go_N A', go_N La', go_N P', go_N Lp', go_M E', go_M D', go_M W', go_N T', go_S U' C') → wpX_crash post (nI nn, nI ac, nI pc, nI tm, nI md, nI lo, go_B al, go_N A, go_N La, go_N P, go_N Lp, go_M E, go_M D, go_M W, go_N T, go_S U C) v1 := by
  have G0 := G
  obtain ⟨⟨hn, hac, hpc, htm⟩, hmd, Z, KD, MS, IV⟩ := G
  have stay : (∀ post : Int32 → St2 → Prop, post 0 (nI nn, nI ac, nI pc, nI tm, nI md, nI lo, go_B al, go_N A, go_N La, go_N P, go_N Lp, go_M E, go_M D, go_M W, go_N T, go_S U C) → wpX_crash post (nI nn, nI ac, nI pc, nI tm, nI md, nI lo, go_B al, go_N A, go_N La, go_N P, go_N Lp, go_M E, go_M D, go_M W, go_N T, go_S U C) v1) → ∃ (al' : Nat → Bool) (A' La' P' Lp' : Nat → Nat) (E' D' W' : Nat → Bool) (T' : Nat → Nat) (U' : Nat → Bool) (C' : Nat → Nat) (lo' : Nat), go_G nn ac pc tm md lo' al' A' La' P' Lp' E' D' W' T' U' C' ∧ lo' ≤ lo + 300 ∧ (∀ j, D j = true → D' j = true) ∧ ∃ r : Int32, ∀ post : Int32 → St2 → Prop, post r (nI nn, nI ac, nI pc, nI tm, nI md, nI lo', go_B al', go_N A', go_N La', go_N P', go_N Lp', go_M E', go_M D', go_M W', go_N T', go_S U' C') → wpX_crash post (nI nn, nI ac, nI pc, nI tm, nI md, nI lo, go_B al, go_N A, go_N La, go_N P, go_N Lp, go_M E, go_M D, go_M W, go_N T, go_S U C) v1 := fun h => ⟨al, A, La, P, Lp, E, D, W, T, U, C, lo, G0, by omega, fun _ h => h, 0, h⟩
  rcases go_cls v1 nn (by omega) with h1 | ⟨x, hx, rfl⟩
  · refine stay (fun post hp => ?_)
    unfold wpX_crash
    exact go_alX0 nn ac pc tm md lo al A La P Lp E D W T U C hn.2 (Or.inl h1) _ (br_t rfl hp)
  cases hal : al x with
  | false =>
    refine stay (fun post hp => ?_)
    unfold wpX_crash
    exact go_alX0 nn ac pc tm md lo al A La P Lp E D W T U C hn.2 (Or.inr ⟨x, hx, rfl, hal⟩) _ (br_t rfl hp)
  | true =>
    obtain ⟨A', La', P', Lp', E', W', T', U', C', lo', Z', hl', hlo, MS', hiv, hX⟩ := go_crash nn ac pc tm md lo al A La P Lp E D W T U C hn hac hpc Z (by omega) MS hx hal
    exact ⟨go_up al x false, A', La', P', Lp', E', D, W', T', U', C', lo', ⟨⟨hn, hac, hpc, htm⟩, hmd, Z', KD, MS', fun e0 => hiv (by omega) (IV (by omega))⟩, by omega, fun _ h => h, 1, hX⟩
theorem go_cD (v1 : Int32) (G : go_G nn ac pc tm md lo al A La P Lp E D W T U C) (hl : lo + 300 < 2 ^ 31) : ∃ (al' : Nat → Bool) (A' La' P' Lp' : Nat → Nat) (E' D' W' : Nat → Bool) (T' : Nat → Nat) (U' : Nat → Bool) (C' : Nat → Nat) (lo' : Nat), go_G nn ac pc tm md lo' al' A' La' P' Lp' E' D' W' T' U' C' ∧ lo' ≤ lo + 300 ∧ (∀ j, D j = true → D' j = true) ∧ ∃ r : Int32, ∀ post : Int32 → St2 → Prop, post r (nI nn, nI ac, nI pc, nI tm, nI md, nI lo', go_B al', go_N A', go_N La', go_N P', go_N Lp', go_M E', go_M D', go_M W', go_N T', go_S U' C') → wpX_deliver post (nI nn, nI ac, nI pc, nI tm, nI md, nI lo, go_B al, go_N A, go_N La, go_N P, go_N Lp, go_M E, go_M D, go_M W, go_N T, go_S U C) v1 := by
  have G0 := G
  obtain ⟨⟨hn, hac, hpc, htm⟩, hmd, Z, KD, MS, IV⟩ := G
  have stay : (∀ post : Int32 → St2 → Prop, post 0 (nI nn, nI ac, nI pc, nI tm, nI md, nI lo, go_B al, go_N A, go_N La, go_N P, go_N Lp, go_M E, go_M D, go_M W, go_N T, go_S U C) → wpX_deliver post (nI nn, nI ac, nI pc, nI tm, nI md, nI lo, go_B al, go_N A, go_N La, go_N P, go_N Lp, go_M E, go_M D, go_M W, go_N T, go_S U C) v1) → ∃ (al' : Nat → Bool) (A' La' P' Lp' : Nat → Nat) (E' D' W' : Nat → Bool) (T' : Nat → Nat) (U' : Nat → Bool) (C' : Nat → Nat) (lo' : Nat), go_G nn ac pc tm md lo' al' A' La' P' Lp' E' D' W' T' U' C' ∧ lo' ≤ lo + 300 ∧ (∀ j, D j = true → D' j = true) ∧ ∃ r : Int32, ∀ post : Int32 → St2 → Prop, post r (nI nn, nI ac, nI pc, nI tm, nI md, nI lo', go_B al', go_N A', go_N La', go_N P', go_N Lp', go_M E', go_M D', go_M W', go_N T', go_S U' C') → wpX_deliver post (nI nn, nI ac, nI pc, nI tm, nI md, nI lo, go_B al, go_N A, go_N La, go_N P, go_N Lp, go_M E, go_M D, go_M W, go_N T, go_S U C) v1 := fun h => ⟨al, A, La, P, Lp, E, D, W, T, U, C, lo, G0, by omega, fun _ h => h, 0, h⟩
  rcases go_cls v1 64 (by omega) with h1 | ⟨s, hs, rfl⟩
  · refine stay (fun post hp => ?_)
    unfold wpX_deliver
    exact go_usX0 nn ac pc tm md lo al A La P Lp E D W T U C Z.2.2.2.2 (Or.inl h1) _ (br_t rfl hp)
  cases hU : U s with
  | false =>
    refine stay (fun post hp => ?_)
    unfold wpX_deliver
    exact go_usX0 nn ac pc tm md lo al A La P Lp E D W T U C Z.2.2.2.2 (Or.inr ⟨s, hs, rfl, hU⟩) _ (br_t rfl hp)
  | true =>
    obtain ⟨A', La', P', Lp', E', D', W', T', U', C', lo', Z', hl', hlo, hDD, KD', MS', hiv, hX⟩ := go_deliver nn ac pc tm md lo al A La P Lp E D W T U C hn hac hpc htm Z (by omega) KD MS hs hU
    exact ⟨al, A', La', P', Lp', E', D', W', T', U', C', lo', ⟨⟨hn, hac, hpc, htm⟩, hmd, Z', KD', MS', fun e0 => hiv (by omega) (IV (by omega))⟩, by omega, hDD, 1, hX⟩
theorem go_cP (v1 : Int32) (G : go_G nn ac pc tm md lo al A La P Lp E D W T U C) (hl : lo + 300 < 2 ^ 31) : ∃ (al' : Nat → Bool) (A' La' P' Lp' : Nat → Nat) (E' D' W' : Nat → Bool) (T' : Nat → Nat) (U' : Nat → Bool) (C' : Nat → Nat) (lo' : Nat), go_G nn ac pc tm md lo' al' A' La' P' Lp' E' D' W' T' U' C' ∧ lo' = lo ∧ (∀ j, D j = true → D' j = true) ∧ ∃ r : Int32, ∀ post : Int32 → St2 → Prop, post r (nI nn, nI ac, nI pc, nI tm, nI md, nI lo', go_B al', go_N A', go_N La', go_N P', go_N Lp', go_M E', go_M D', go_M W', go_N T', go_S U' C') → wpX_drop post (nI nn, nI ac, nI pc, nI tm, nI md, nI lo, go_B al, go_N A, go_N La, go_N P, go_N Lp, go_M E, go_M D, go_M W, go_N T, go_S U C) v1 := by
  have G0 := G
  obtain ⟨⟨hn, hac, hpc, htm⟩, hmd, Z, KD, MS, IV⟩ := G
  have stay : (∀ post : Int32 → St2 → Prop, post 0 (nI nn, nI ac, nI pc, nI tm, nI md, nI lo, go_B al, go_N A, go_N La, go_N P, go_N Lp, go_M E, go_M D, go_M W, go_N T, go_S U C) → wpX_drop post (nI nn, nI ac, nI pc, nI tm, nI md, nI lo, go_B al, go_N A, go_N La, go_N P, go_N Lp, go_M E, go_M D, go_M W, go_N T, go_S U C) v1) → ∃ (al' : Nat → Bool) (A' La' P' Lp' : Nat → Nat) (E' D' W' : Nat → Bool) (T' : Nat → Nat) (U' : Nat → Bool) (C' : Nat → Nat) (lo' : Nat), go_G nn ac pc tm md lo' al' A' La' P' Lp' E' D' W' T' U' C' ∧ lo' = lo ∧ (∀ j, D j = true → D' j = true) ∧ ∃ r : Int32, ∀ post : Int32 → St2 → Prop, post r (nI nn, nI ac, nI pc, nI tm, nI md, nI lo', go_B al', go_N A', go_N La', go_N P', go_N Lp', go_M E', go_M D', go_M W', go_N T', go_S U' C') → wpX_drop post (nI nn, nI ac, nI pc, nI tm, nI md, nI lo, go_B al, go_N A, go_N La, go_N P, go_N Lp, go_M E, go_M D, go_M W, go_N T, go_S U C) v1 := fun h => ⟨al, A, La, P, Lp, E, D, W, T, U, C, lo, G0, rfl, fun _ h => h, 0, h⟩
  rcases go_cls v1 64 (by omega) with h1 | ⟨s, hs, rfl⟩
  · refine stay (fun post hp => ?_)
    unfold wpX_drop
    exact go_usX0 nn ac pc tm md lo al A La P Lp E D W T U C Z.2.2.2.2 (Or.inl h1) _ (br_t rfl hp)
  cases hU : U s with
  | false =>
    refine stay (fun post hp => ?_)
    unfold wpX_drop
    exact go_usX0 nn ac pc tm md lo al A La P Lp E D W T U C Z.2.2.2.2 (Or.inr ⟨s, hs, rfl, hU⟩) _ (br_t rfl hp)
  | true =>
    have hc := (Z.2.2.2.2 s).1
    have hv : vp_in (nI s) 64 := vp_in_nI hs (by omega)
    have dX : go_S U C (nI s).toNatClampNeg >>> ((24 : Int32) &&& 31) = nI (C s / 2 ^ 24) := by rw [go_rS s hU]; exact go_d24 hc
    have hk : C s / 2 ^ 24 < 128 := by omega
    by_cases q9 : nI (C s / 2 ^ 24) = 9
    · refine stay (fun post hp => ?_)
      unfold wpX_drop
      exact go_usX nn ac pc tm md lo al A La P Lp E D W T U C Z.2.2.2.2 hs hU _ (br_f (by decide) ⟨hv, nm_r dX (br_t q9 hp)⟩)
    by_cases q10 : nI (C s / 2 ^ 24) = 10
    · refine stay (fun post hp => ?_)
      unfold wpX_drop
      exact go_usX nn ac pc tm md lo al A La P Lp E D W T U C Z.2.2.2.2 hs hU _ (br_f (by decide) ⟨hv, nm_r dX (br_f q9 (br_t q10 hp))⟩)
    by_cases q11 : nI (C s / 2 ^ 24) = 11
    · refine stay (fun post hp => ?_)
      unfold wpX_drop
      exact go_usX nn ac pc tm md lo al A La P Lp E D W T U C Z.2.2.2.2 hs hU _ (br_f (by decide) ⟨hv, nm_r dX (br_f q9 (br_f q10 (br_t q11 hp)))⟩)
    by_cases q12 : nI (C s / 2 ^ 24) = 12
    · refine stay (fun post hp => ?_)
      unfold wpX_drop
      exact go_usX nn ac pc tm md lo al A La P Lp E D W T U C Z.2.2.2.2 hs hU _ (br_f (by decide) ⟨hv, nm_r dX (br_f q9 (br_f q10 (br_f q11 (br_t q12 hp))))⟩)
    · have MS1 : ∀ t, go_up U s false t = true → go_ms D (C t) := by
        intro t h
        by_cases e : t = s
        · rw [e, go_us] at h; exact absurd h (by decide)
        · rw [go_un e] at h; exact MS t h
      refine ⟨al, A, La, P, Lp, E, D, W, T, go_up U s false, C, lo, ⟨⟨hn, hac, hpc, htm⟩, hmd, ⟨Z.1, Z.2.1, Z.2.2.1, Z.2.2.2.1, go_ISf Z.2.2.2.2 s⟩, KD, MS1, fun e0 => go_iv0 hc (fun q => q9 (by rw [q]; rfl)) (fun q => q10 (by rw [q]; rfl)) (fun q => q11 (by rw [q]; rfl)) (IV e0)⟩, rfl, fun _ h => h, 1, fun post hp => ?_⟩
      unfold wpX_drop
      exact go_usX nn ac pc tm md lo al A La P Lp E D W T U C Z.2.2.2.2 hs hU _ (br_f (by decide) ⟨hv, nm_r dX (br_f q9 (br_f q10 (br_f q11 (br_f q12 ⟨hv, nm_r (go_uSf U C s) hp⟩))))⟩)
theorem go_cT (G : go_G nn ac pc tm md lo al A La P Lp E D W T U C) (hl : lo + 300 < 2 ^ 31) : ∃ (al' : Nat → Bool) (A' La' P' Lp' : Nat → Nat) (E' D' W' : Nat → Bool) (T' : Nat → Nat) (U' : Nat → Bool) (C' : Nat → Nat) (lo' : Nat), go_G nn ac pc tm md lo' al' A' La' P' Lp' E' D' W' T' U' C' ∧ lo' ≤ lo + 300 ∧ (∀ j, D j = true → D' j = true) ∧ ∃ r : Int32, ∀ post : Int32 → St2 → Prop, post r (nI nn, nI ac, nI pc, nI tm, nI md, nI lo', go_B al', go_N A', go_N La', go_N P', go_N Lp', go_M E', go_M D', go_M W', go_N T', go_S U' C') → wpX_tick post (nI nn, nI ac, nI pc, nI tm, nI md, nI lo, go_B al, go_N A, go_N La, go_N P, go_N Lp, go_M E, go_M D, go_M W, go_N T, go_S U C) := by
  obtain ⟨⟨hn, hac, hpc, htm⟩, hmd, Z, KD, MS, IV⟩ := G
  obtain ⟨cnt', lo', E', W', T', U', C', JE', hT', S', hl', hpe, hiv, hX⟩ := go_tko nn ac pc tm md al A La P Lp D hn.2 hac htm Z.1 nn 0 0 lo E W T U C (by omega) Z.2.1 Z.2.2.2.1 Z.2.2.2.2 (by omega)
  have q := hpe.2.2
  exact ⟨al, A, La, P, Lp, E', D, W', T', U', C', lo', ⟨⟨hn, hac, hpc, htm⟩, hmd, ⟨Z.1, JE', Z.2.2.1, hT', S'⟩, KD, go_msp MS (fun _ h => h) hpe, fun e0 => hiv (by omega) (IV (by omega))⟩, by omega, fun _ h => h, nI cnt', fun post hp => ⟨_, hX post hp⟩⟩
theorem go_cB (x : Nat) (G : go_G nn ac pc tm md lo al A La P Lp E D W T U C) (hl : lo + 300 < 2 ^ 31) (hx : x < nn) : (∀ post : Int32 → St2 → Prop, post (-1) (nI nn, nI ac, nI pc, nI tm, nI md, nI lo, go_B al, go_N A, go_N La, go_N P, go_N Lp, go_M E, go_M D, go_M W, go_N T, go_S U C) → wpX_broadcast post (nI nn, nI ac, nI pc, nI tm, nI md, nI lo, go_B al, go_N A, go_N La, go_N P, go_N Lp, go_M E, go_M D, go_M W, go_N T, go_S U C) (nI x)) ∨ ∃ (D' : Nat → Bool) (U' : Nat → Bool) (C' : Nat → Nat) (lo' : Nat), md < 16 ∧ go_G nn ac pc tm (md + 1) lo' al A La P Lp E D' W T U' C' ∧ lo' ≤ lo + 300 ∧ (∀ j, D j = true → D' j = true) ∧ D' (x * 16 + md) = true ∧ ∀ post : Int32 → St2 → Prop, post (nI md) (nI nn, nI ac, nI pc, nI tm, nI (md + 1), nI lo', go_B al, go_N A, go_N La, go_N P, go_N Lp, go_M E, go_M D', go_M W, go_N T, go_S U' C') → wpX_broadcast post (nI nn, nI ac, nI pc, nI tm, nI md, nI lo, go_B al, go_N A, go_N La, go_N P, go_N Lp, go_M E, go_M D, go_M W, go_N T, go_S U C) (nI x) := by
  obtain ⟨⟨hn, hac, hpc, htm⟩, hmd, Z, KD, MS, IV⟩ := G
  have hv : vp_in (nI x) 16 := vp_in_nI (by omega) (by omega)
  have hx16 : x < 16 := by omega
  have hla := Z.1.2.1 x
  cases hal : al x with
  | false =>
    refine Or.inl (fun post hp => ?_)
    unfold wpX_broadcast
    exact go_alX0 nn ac pc tm md lo al A La P Lp E D W T U C hn.2 (Or.inr ⟨x, hx, rfl, hal⟩) _ (br_t rfl hp)
  | true =>
    by_cases h16 : md < 16
    · have c : nI md < 16 := nI_lt (b := 16) h16 (by omega)
      obtain ⟨a, _, ha, ea⟩ := go_1n md h16
      have hab : ∀ b, b < 16 → bt (nI a) b = true → b = md := fun b hb h => by
        rw [← ea, go_1b md (by omega) (by omega)] at h
        exact of_decide_eq_true h
      have hamd : bt (nI a) md = true := by rw [← ea, go_1b md (by omega) (by omega)]; exact decide_eq_true rfl
      have hDD : ∀ j, D j = true → go_up D (x * 16 + md) true j = true := fun j h => by
        by_cases q : j = x * 16 + md
        · rw [q]; exact go_us
        · rw [go_un q]; exact h
      obtain ⟨U', C', lo', S', hl', hpe, hgt, hX⟩ := go_fwd nn ac pc tm (md + 1) lo al A La P Lp E (go_up D (x * 16 + md) true) W T U C (-1) Z.1.1 (by omega) Z.2.2.2.2 (by omega) hx16 ha (fun b hb h => by rw [hab b hb h]; exact go_us)
      rw [← ea] at hX
      have q := hpe.2.2
      refine Or.inr ⟨go_up D (x * 16 + md) true, U', C', lo', h16, ⟨⟨hn, hac, hpc, htm⟩, h16, ⟨Z.1, Z.2.1, Z.2.2.1, Z.2.2.2.1, S'⟩, fun z b hb h => ?_, go_msp MS hDD hpe, fun e0 x' y' b hx' hy' hb ax ay l d => ?_⟩, by omega, hDD, go_us, fun post hp => ?_⟩
      · by_cases e : z * 16 + b = x * 16 + md
        · omega
        · rw [go_un e] at h
          have := KD z b hb h
          omega
      · by_cases e : x' * 16 + b = x * 16 + md
        · have e1 : x' = x := by omega
          have e2 : b = md := by omega
          obtain ⟨i, hi, hAi⟩ := l
          rw [e1] at hi hAi ⊢
          rw [e2]
          have nsv : ¬ nI (A (x * 4 + i)) = -1 := by
            intro w
            have := congrArg (fun z => decide (z < 0)) w
            simp only [decide_eq_false (nI_pos (n := A (x * 4 + i)) (by have := Z.1.1 (x * 4 + i); omega))] at this
            exact absurd this (by decide)
          rcases hgt (by omega) i hi nsv (by rw [hAi]; exact ay) with w | w
          · rw [hAi] at w
            exact Or.inr (Or.inl (go_gth (by omega) (by omega) hx16 hy' ha h16 hamd w))
          · rw [hAi] at w
            exact Or.inr (Or.inr (Or.inl (go_gth (by omega) (by omega) hx16 hy' ha h16 hamd w)))
        · rw [go_un e] at d
          rcases go_okp hpe (IV (by omega) x' y' b hx' hy' hb ax ay l d) with h | h | h | h | h
          · exact Or.inl (hDD _ h)
          · exact Or.inr (Or.inl h)
          · exact Or.inr (Or.inr (Or.inl h))
          · exact Or.inr (Or.inr (Or.inr (Or.inl h)))
          · exact Or.inr (Or.inr (Or.inr (Or.inr h)))
      · unfold wpX_broadcast
        exact go_alX nn ac pc tm md lo al A La P Lp E D W T U C hn.2 hx hal _ (br_f (by decide) (br_t c (nm_r (nI_1 md) ⟨hv, hv, nm_r (go_uMs D x md h16) (hX _ hp)⟩)))
    · have c : ¬ nI md < 16 := nI_nlt (b := 16) (by omega) (by omega)
      refine Or.inl (fun post hp => ?_)
      unfold wpX_broadcast
      exact go_alX nn ac pc tm md lo al A La P Lp E D W T U C hn.2 hx hal _ (br_f (by decide) (br_f c hp))
end
end
section
def go_bl (x : Int64) (i : Nat) : Bool := x.toBitVec.getLsbD i
theorem go_blext {x y : Int64} (h : ∀ i, i < 64 → go_bl x i = go_bl y i) : x = y := Int64.toBitVec_inj.mp (BitVec.eq_of_getLsbD_eq (fun i hi => h i hi))
theorem go_blor (x y : Int64) (i : Nat) : go_bl (x ||| y) i = (go_bl x i || go_bl y i) := by unfold go_bl; rw [Int64.toBitVec_or, BitVec.getLsbD_or]
theorem go_bland (x y : Int64) (i : Nat) : go_bl (x &&& y) i = (go_bl x i && go_bl y i) := by unfold go_bl; rw [Int64.toBitVec_and, BitVec.getLsbD_and]
theorem go_blxor (x y : Int64) (i : Nat) : go_bl (x ^^^ y) i = (go_bl x i ^^ go_bl y i) := by unfold go_bl; rw [Int64.toBitVec_xor, BitVec.getLsbD_xor]
theorem go_blm1 : ∀ i, i < 64 → go_bl (-1) i = true := by decide +kernel
theorem go_bl15 : ∀ i, i < 64 → go_bl 15 i = decide (i < 4) := by decide +kernel
theorem go_bl0 (i : Nat) : go_bl 0 i = false := BitVec.getLsbD_zero
theorem go_blbig {x : Int64} {i : Nat} (h : 64 ≤ i) : go_bl x i = false := BitVec.getLsbD_of_ge _ _ h
theorem go_sc : ∀ n, n < 64 → (((nI n).toInt64 &&& 63).toBitVec.smod 64).toNat = n := by decide +kernel
theorem go_su : ∀ n, n < 64 → (((nI n).toInt64.toUInt64 &&& Int64.toUInt64 63).toBitVec % 64).toNat = n := by decide +kernel
theorem go_blshl (n : Nat) (hn : n < 64) (x : Int64) {i : Nat} (hi : i < 64) : go_bl (x <<< ((nI n).toInt64 &&& 63)) i = (decide (n ≤ i) && go_bl x (i - n)) := by
  unfold go_bl
  rw [Int64.toBitVec_shiftLeft]
  show (x.toBitVec <<< (((nI n).toInt64 &&& 63).toBitVec.smod 64).toNat).getLsbD i = _
  rw [go_sc n hn, BitVec.getLsbD_shiftLeft]
  rcases Nat.lt_or_ge i n with h | h
  · simp [h, Nat.not_le.mpr h]
  · simp [hi, h, Nat.not_lt.mpr h]
theorem go_blushr (n : Nat) (hn : n < 64) (x : Int64) (i : Nat) : go_bl ((x.toUInt64 >>> ((nI n).toInt64.toUInt64 &&& Int64.toUInt64 63)).toInt64) i = go_bl x (n + i) := by
  show (x.toUInt64 >>> ((nI n).toInt64.toUInt64 &&& Int64.toUInt64 63)).toBitVec.getLsbD i = x.toUInt64.toBitVec.getLsbD (n + i)
  rw [UInt64.toBitVec_shiftRight]
  show (x.toUInt64.toBitVec >>> (((nI n).toInt64.toUInt64 &&& Int64.toUInt64 63).toBitVec % 64).toNat).getLsbD i = _
  rw [go_su n hn, BitVec.getLsbD_ushiftRight]
theorem go_bl32 (x : Int64) {i : Nat} (hi : i < 32) : bt x.toInt32 i = go_bl x i := by
  show (x.toBitVec.signExtend 32).getLsbD i = x.toBitVec.getLsbD i
  rw [BitVec.getLsbD_signExtend]
  simp [hi, show i < 64 by omega]
theorem go_bl64 (x : Int32) {i : Nat} (hi : i < 64) : go_bl x.toInt64 i = if i < 32 then bt x i else bt x 31 := by
  show (x.toBitVec.signExtend 64).getLsbD i = _
  rw [BitVec.getLsbD_signExtend, BitVec.msb_eq_getLsbD_last]
  by_cases h : i < 32
  · simp [hi, h, bt]
  · simp [hi, h, bt]
theorem go_bx (x y : Int64) : (x &&& (y ^^^ (-1))) = 0 ↔ ∀ i, i < 64 → go_bl x i = true → go_bl y i = true := by
  constructor
  · intro h i hi hx
    have e := congrArg (fun z => go_bl z i) h
    simp only [go_bland, go_blxor, go_blm1 i hi, go_bl0, hx] at e
    cases hy : go_bl y i with
    | true => rfl
    | false => rw [hy] at e; exact absurd e (by decide)
  · intro h
    apply go_blext
    intro i hi
    rw [go_bland, go_blxor, go_blm1 i hi, go_bl0]
    cases hx : go_bl x i with
    | false => rfl
    | true => rw [h i hi hx]; rfl
theorem go_sb1 (m : Int32) (b : Nat) (hb : b < 32) : ((m >>> (nI b &&& 31)) &&& 1) = 0 ↔ bt m b = false := by
  constructor
  · intro h
    have e := congrArg (fun z => bt z 0) h
    simp only [b_and, b_0, b_sshr b hb m (show 0 < 32 by omega)] at e
    rw [if_pos (by omega)] at e
    have e1 : bt 1 0 = true := by decide
    rw [e1, Bool.and_true] at e
    exact e
  · intro h
    apply b_ext
    intro i hi
    rw [b_and, b_0, go_b1 i hi]
    by_cases q : i = 0
    · rw [q, b_sshr b hb m (show 0 < 32 by omega), if_pos (by omega)]
      rw [show b + 0 = b from rfl, h]
      rfl
    · rw [decide_eq_false q, Bool.and_false]
theorem go_gq (W : Nat → Bool) (c t : Nat) (ht : t ≤ 8) : (go_M W c ||| (nI t <<< ((16 : Int32) &&& 31))) >>> ((16 : Int32) &&& 31) = nI t := by
  obtain ⟨m, hm, em⟩ := go_Mn W c
  rw [em, pk_shlN (n := t) ((16 : Int32) &&& 31) 16 (by decide) (by omega), go_or]
  have e : m ||| t * 2 ^ 16 = 2 ^ 16 * t + m := by
    have h := Nat.two_pow_add_eq_or_of_lt (i := 16) (b := m) (by omega) t
    rw [h, Nat.or_comm, Nat.mul_comm t]
  rw [e, pk_shrN (by omega) ((16 : Int32) &&& 31) 16 (by decide)]
  exact congrArg nI (by omega)
theorem go_16b {a : Nat} (ha : a < 16) {i : Nat} (hi : 4 ≤ i) : bt (nI a) i = false := by
  have e := pk_andN (n := a) (by omega) (m := 15) 4 (by decide)
  rw [Nat.mod_eq_of_lt (show a < 2 ^ 4 from ha)] at e
  rcases Nat.lt_or_ge i 32 with h | h
  · rw [← e, b_and, (by decide +kernel : ∀ i, i < 32 → bt 15 i = decide (i < 4)) i h, decide_eq_false (by omega), Bool.and_false]
  · exact b_big h
/-- the sources: four bits a broadcast -/
def go_sr (x7 : Int64) (md : Nat) (src : Nat → Nat) : Prop := ∀ i, i < 64 → go_bl x7 i = (decide (i / 4 < md) && bt (nI (src (i / 4))) (i % 4))
theorem go_srr {x7 : Int64} {md b : Nat} {src : Nat → Nat} (h : go_sr x7 md src) (hb : b < md) (h16 : b < 16) (hs : src b < 16) : (((x7.toUInt64 >>> ((nI (4 * b)).toInt64.toUInt64 &&& Int64.toUInt64 63)).toInt64) &&& 15).toInt32 = nI (src b) := by
  apply b_ext
  intro i hi
  rw [go_bl32 _ hi, go_bland, go_blushr (4 * b) (by omega), go_bl15 i (by omega)]
  by_cases q : i < 4
  · rw [h (4 * b + i) (by omega), show (4 * b + i) / 4 = b by omega, show (4 * b + i) % 4 = i by omega, decide_eq_true hb, decide_eq_true q, Bool.true_and, Bool.and_true]
  · rw [decide_eq_false q, Bool.and_false, go_16b hs (by omega)]
theorem go_srb {x7 : Int64} {md a : Nat} {src : Nat → Nat} (h : go_sr x7 md src) (hm : md < 16) (ha : a < 16) : go_sr (x7 ||| ((nI a).toInt64 <<< ((nI (4 * md)).toInt64 &&& 63))) (md + 1) (go_up src md a) := by
  intro i hi
  rw [go_blor, h i hi, go_blshl (4 * md) (by omega) _ hi]
  by_cases e : i / 4 = md
  · rw [e, go_us, decide_eq_false (show ¬ md < md by omega), decide_eq_true (show 4 * md ≤ i by omega), decide_eq_true (show md < md + 1 by omega), go_bl64 _ (by omega), if_pos (by omega), show i - 4 * md = i % 4 by omega]
    rfl
  · rw [go_un e]
    by_cases q : i / 4 < md
    · rw [decide_eq_true q, decide_eq_true (show i / 4 < md + 1 by omega), decide_eq_false (show ¬ 4 * md ≤ i by omega), Bool.true_and, Bool.false_and, Bool.or_false]
    · rw [decide_eq_false q, decide_eq_false (show ¬ i / 4 < md + 1 by omega), Bool.false_and, Bool.false_or, go_bl64 _ (by omega)]
      by_cases w : i - 4 * md < 32
      · rw [if_pos w, go_16b ha (by omega), Bool.and_false]
      · rw [if_neg w, go_16b ha (by omega), Bool.and_false]
/-- the bits of x are delivered ids of nodes base, base + 1 .. -/
def go_sub (nn : Nat) (D : Nat → Bool) (base : Nat) (x : Int64) : Prop := ∀ i, i < 64 → go_bl x i = true → base + i / 16 < nn ∧ D ((base + i / 16) * 16 + i % 16) = true
def go_dd (nn : Nat) (D : Nat → Bool) (j : Nat) : Int32 := if j < nn then go_M D j else 0
theorem go_ddb (nn : Nat) (D : Nat → Bool) (j i : Nat) (hi : i < 32) : bt (go_dd nn D j &&& 65535) i = (decide (j < nn) && (decide (i < 16) && D (j * 16 + i))) := by
  rw [b_and, b_65535]
  unfold go_dd
  by_cases h : j < nn
  · rw [if_pos h, go_Mb D j i hi, decide_eq_true h, Bool.true_and]
    cases decide (i < 16) <;> simp
  · rw [if_neg h, b_0, decide_eq_false h, Bool.false_and, Bool.false_and]
def go_pk (nn : Nat) (D : Nat → Bool) (base : Nat) : Nat → Int64
  | 0 => 0
  | v + 1 => go_pk nn D base v ||| (((go_dd nn D (base + v) &&& 65535).toInt64) <<< ((nI (16 * v)).toInt64 &&& 63))
theorem go_pkb (nn : Nat) (D : Nat → Bool) (base : Nat) : ∀ v, v ≤ 4 → ∀ i, i < 64 → go_bl (go_pk nn D base v) i = (decide (i / 16 < v) && (decide (base + i / 16 < nn) && D ((base + i / 16) * 16 + i % 16))) := by
  intro v
  induction v with
  | zero =>
    intro _ i _
    show go_bl 0 i = _
    rw [go_bl0, decide_eq_false (by omega), Bool.false_and]
  | succ v ih =>
    intro hv i hi
    show go_bl (go_pk nn D base v ||| (((go_dd nn D (base + v) &&& 65535).toInt64) <<< ((nI (16 * v)).toInt64 &&& 63))) i = _
    rw [go_blor, ih (by omega) i hi, go_blshl (16 * v) (by omega) _ hi]
    by_cases e : i / 16 = v
    · rw [e, decide_eq_false (show ¬ v < v by omega), decide_eq_true (show 16 * v ≤ i by omega), decide_eq_true (show v < v + 1 by omega), go_bl64 _ (by omega), if_pos (by omega), go_ddb nn D (base + v) _ (by omega), show i - 16 * v = i % 16 by omega, decide_eq_true (show i % 16 < 16 by omega)]
      simp
    · by_cases q : i / 16 < v
      · rw [decide_eq_true q, decide_eq_true (show i / 16 < v + 1 by omega), decide_eq_false (show ¬ 16 * v ≤ i by omega), Bool.false_and, Bool.or_false]
      · rw [decide_eq_false q, decide_eq_false (show ¬ i / 16 < v + 1 by omega), Bool.false_and, Bool.false_or, go_bl64 _ (by omega)]
        by_cases w : i - 16 * v < 32
        · rw [if_pos w, go_ddb nn D (base + v) _ w, decide_eq_false (show ¬ i - 16 * v < 16 by omega)]
          simp
        · rw [if_neg w, go_ddb nn D (base + v) _ (by omega), decide_eq_false (show ¬ 31 < 16 by omega)]
          simp
theorem go_pks (nn : Nat) (D : Nat → Bool) (base : Nat) : go_sub nn D base (go_pk nn D base 4) := by
  intro i hi h
  rw [go_pkb nn D base 4 (by omega) i hi] at h
  have h1 := (Bool.and_eq_true_iff.mp h).2
  have h2 := Bool.and_eq_true_iff.mp h1
  exact ⟨of_decide_eq_true h2.1, h2.2⟩
theorem go_pkc {nn : Nat} {D : Nat → Bool} {base : Nat} {x : Int64} (h : go_sub nn D base x) : (x &&& (go_pk nn D base 4 ^^^ (-1))) = 0 := by
  rw [go_bx]
  intro i hi hx
  obtain ⟨h1, h2⟩ := h i hi hx
  rw [go_pkb nn D base 4 (by omega) i hi, decide_eq_true (show i / 16 < 4 by omega), decide_eq_true h1, h2]
  rfl
theorem go_fit {nn md : Nat} {D : Nat → Bool} {base v : Nat} {x : Int64} {x9 : Int32} (h : go_sub nn D base x) (hK : ∀ z b, b < 16 → D (z * 16 + b) = true → b < md) (hm : ∀ i, i < 32 → bt x9 i = decide (i < md)) (hv : v < 4) : (((((x.toUInt64 >>> ((nI (16 * v)).toInt64.toUInt64 &&& Int64.toUInt64 63)).toInt64).toInt32) &&& 65535) &&& (x9 ^^^ (-1))) = 0 := by
  apply b_ext
  intro i hi
  rw [b_and, b_and, b_xor, b_65535, b_m1 i hi, b_0, go_bl32 _ hi, go_blushr (16 * v) (by omega), hm i hi]
  by_cases q : i < 16
  · cases hb : go_bl x (16 * v + i) with
    | false => rw [Bool.false_and, Bool.false_and]
    | true =>
      obtain ⟨h1, h2⟩ := h (16 * v + i) (by omega) hb
      rw [show (16 * v + i) / 16 = v by omega, show (16 * v + i) % 16 = i by omega] at h2
      rw [decide_eq_true (hK _ i q h2)]
      simp
  · rw [decide_eq_false q, Bool.and_false, Bool.false_and]
end
section
section
variable (nn ac pc tm md lo : Nat) (al : Nat → Bool) (A La P Lp : Nat → Nat) (E D W : Nat → Bool) (T : Nat → Nat) (U : Nat → Bool) (C : Nat → Nat)
theorem go_rdD (hn : nn ≤ 16) (j : Nat) (hj : j < 2 ^ 31) (post : Int32 → Prop) (hp : post (go_dd nn D j)) : wpX_delivered post (nI nn, nI ac, nI pc, nI tm, nI md, nI lo, go_B al, go_N A, go_N La, go_N P, go_N Lp, go_M E, go_M D, go_M W, go_N T, go_S U C) (nI j) := by
  unfold wpX_delivered
  unfold go_dd at hp
  by_cases h : j < nn
  · rw [if_pos h] at hp
    refine go_ndX nn ac pc tm md lo al A La P Lp E D W T U C hn h _ (br_f (by decide) ⟨vp_in_nI (by omega) (by omega), ?_⟩)
    rw [go_rM D j]
    exact hp
  · rw [if_neg h] at hp
    exact go_ndX0 nn ac pc tm md lo al A La P Lp E D W T U C (Or.inr (nI_le (by omega) hj)) _ (br_t rfl hp)
theorem go_pkl (hn : nn ≤ 16) {base : Nat} (hb : base < 16) (post : Int64 → Prop) (hp : post (go_pk nn D base 4)) : ∀ n v, v ≤ 4 → 4 - v < n → wL_pack_5 post (nI base) (nI nn) (nI ac) (nI pc) (nI tm) (nI md) (nI lo) (go_B al) (go_N A) (go_N La) (go_N P) (go_N Lp) (go_M E) (go_M D) (go_M W) (go_N T) (go_S U C) n (go_pk nn D base v) (nI v) := by
  intro n
  induction n with
  | zero => intro i _ hn; exact absurd hn (by omega)
  | succ n ih =>
    intro v hv hn'
    refine pk_le 4 v (fun h => ?_) (fun h => ?_)
    · rw [show v = 4 by omega]; exact hp
    · rw [nI_add]
      refine go_rdD nn ac pc tm md lo al A La P Lp E D W T U C hn (base + v) (by omega) _ (nm_r (e' := go_pk nn D base (v + 1)) ?_ (nm_r (nI_1 v) (ih (v + 1) (by omega) (by omega))))
      show go_pk nn D base v ||| (((go_dd nn D (base + v) &&& 65535).toInt64) <<< ((nI 16 * nI v).toInt64 &&& 63)) = _
      rw [pk_mul]
      rfl
theorem go_pack (hn : nn ≤ 16) {base : Nat} (hb : base < 16) (post : Int64 → Prop) (hp : post (go_pk nn D base 4)) : wpL_pack post (nI nn, nI ac, nI pc, nI tm, nI md, nI lo, go_B al, go_N A, go_N La, go_N P, go_N Lp, go_M E, go_M D, go_M W, go_N T, go_S U C) (nI base) := ⟨5, go_pkl nn ac pc tm md lo al A La P Lp E D W T U C hn hb post hp 5 0 (by omega) (by omega)⟩
theorem go_pdl (post : Int32 → Prop) (S : go_IS U C) (hp : ∀ r, (r = 0 → ∀ s, s < 64 → U s = false) → post r) : ∀ n i cnt, i ≤ 64 → 64 - i < n → cnt ≤ i → (cnt = 0 → ∀ s, s < i → U s = false) → wX_pending_4 post (nI nn) (nI ac) (nI pc) (nI tm) (nI md) (nI lo) (go_B al) (go_N A) (go_N La) (go_N P) (go_N Lp) (go_M E) (go_M D) (go_M W) (go_N T) (go_S U C) n (nI cnt) (nI i) := by
  intro n
  induction n with
  | zero => intro i _ _ hn; exact absurd hn (by omega)
  | succ n ih =>
    intro i cnt hi hn hc h0
    refine pk_le 64 i (fun h => hp _ (fun q => ?_)) (fun h => ⟨vp_in_nI h (by omega), go_brS S i (fun z => nm_r (nI_1 i) (ih (i + 1) cnt (by omega) (by omega) (by omega) (fun q s hs => ?_))) (fun z => nm_r (nI_1 cnt) (nm_r (nI_1 i) (ih (i + 1) (cnt + 1) (by omega) (by omega) (by omega) (fun q => absurd q (by omega)))))⟩)
    · have e : cnt = 0 := (nI_eq (a := cnt) (b := 0) (by omega) (by omega)).mp q
      rw [show (64 : Nat) = i by omega]
      exact h0 e
    · by_cases e : s = i
      · rw [e]; exact z
      · exact h0 q s (by omega)
theorem go_pd (post : Int32 → Prop) (S : go_IS U C) (hp : ∀ r, (r = 0 → ∀ s, s < 64 → U s = false) → post r) : wpX_pending post (nI nn, nI ac, nI pc, nI tm, nI md, nI lo, go_B al, go_N A, go_N La, go_N P, go_N Lp, go_M E, go_M D, go_M W, go_N T, go_S U C) := ⟨65, go_pdl nn ac pc tm md lo al A La P Lp E D W T U C post S hp 65 0 0 (by omega) (by omega) (by omega) (fun _ s hs => absurd hs (by omega))⟩
theorem go_gsX (hn : nn ≤ 16) {j b : Nat} (hj : j < nn) (hb : b < 16) (post : Int32 → Prop) (hp : post (go_M W (j * 16 + b) ||| (nI (T (j * 16 + b)) <<< ((16 : Int32) &&& 31)))) : wpX_graftState post (nI nn, nI ac, nI pc, nI tm, nI md, nI lo, go_B al, go_N A, go_N La, go_N P, go_N Lp, go_M E, go_M D, go_M W, go_N T, go_S U C) (nI j) (nI b) := by
  unfold wpX_graftState
  have hw : vp_in (nI (j * 16 + b)) 256 := vp_in_nI (by omega) (by omega)
  refine go_ndX nn ac pc tm md lo al A La P Lp E D W T U C hn hj _ (br_f (by decide) (br_f (nI_pos (by omega)) (br_t (nI_lt (b := 16) hb (by omega)) (nm_r (go_ix16 j b) ⟨hw, hw, ?_⟩))))
  rw [go_rM W (j * 16 + b), go_rN T (j * 16 + b) rfl (by omega)]
  exact hp
theorem go_q9 (hn : nn ≤ 16) (hT : ∀ j, T j ≤ 8) {v : Nat} (hv : v < nn) (post : Int32 → Prop) (h0 : post 0) (J : Int32 → Prop) (hJ : (∀ b, b < 16 → T (v * 16 + b) = 0) → J (nI (v + 1))) : ∀ n b, b ≤ 16 → 16 - b < n → (∀ c, c < b → T (v * 16 + c) = 0) → wL_quiet_9 post J (nI nn) (nI v) (nI nn) (nI ac) (nI pc) (nI tm) (nI md) (nI lo) (go_B al) (go_N A) (go_N La) (go_N P) (go_N Lp) (go_M E) (go_M D) (go_M W) (go_N T) (go_S U C) n (nI b) := by
  intro n
  induction n with
  | zero => intro i _ hn; exact absurd hn (by omega)
  | succ n ih =>
    intro b hb hn' hc
    refine pk_le 16 b (fun h => nm_r (nI_1 v) (hJ (fun c h2 => hc c (by omega)))) (fun h => go_gsX nn ac pc tm md lo al A La P Lp E D W T U C hn hv h _ ?_)
    have h8 := hT (v * 16 + b)
    have e := go_gq W (v * 16 + b) (T (v * 16 + b)) h8
    by_cases t0 : T (v * 16 + b) = 0
    · refine br_t (by rw [e, t0]; exact nI_0) (nm_r (nI_1 b) (ih (b + 1) (by omega) (by omega) (fun c h2 => ?_)))
      by_cases q : c = b
      · rw [q]; exact t0
      · exact hc c (by omega)
    · exact br_f (by rw [e]; exact nI_ne0 (by omega) (by omega)) h0
theorem go_q2 (hn : nn ≤ 16) (hT : ∀ j, T j ≤ 8) (post : Int32 → Prop) (h0 : post 0) (h1 : (∀ v b, v < nn → b < 16 → T (v * 16 + b) = 0) → post 1) : ∀ n v, v ≤ nn → nn - v < n → (∀ z b, z < v → b < 16 → T (z * 16 + b) = 0) → wL_quiet_2 post (nI nn) (nI nn) (nI ac) (nI pc) (nI tm) (nI md) (nI lo) (go_B al) (go_N A) (go_N La) (go_N P) (go_N Lp) (go_M E) (go_M D) (go_M W) (go_N T) (go_S U C) n (nI v) := by
  intro n
  induction n with
  | zero => intro i _ hn; exact absurd hn (by omega)
  | succ n ih =>
    intro v hv hn' hc
    refine pk_le nn v (fun h => h1 (fun z b hz hb => hc z b (by omega) hb)) (fun h => ⟨17, go_q9 nn ac pc tm md lo al A La P Lp E D W T U C hn hT h post h0 _ (fun hv0 => ih (v + 1) (by omega) (by omega) (fun z b hz hb => ?_)) 17 0 (by omega) (by omega) (fun c hc => absurd hc (by omega))⟩)
    by_cases q : z = v
    · rw [q]; exact hv0 b hb
    · exact hc z b (by omega) hb
theorem go_qt (hn : nn ≤ 16) (hT : ∀ j, T j ≤ 8) (post : Int32 → Prop) (h0 : post 0) (h1 : (∀ v b, v < nn → b < 16 → T (v * 16 + b) = 0) → post 1) : wpL_quiet post (nI nn, nI ac, nI pc, nI tm, nI md, nI lo, go_B al, go_N A, go_N La, go_N P, go_N Lp, go_M E, go_M D, go_M W, go_N T, go_S U C) (nI nn) := ⟨nn + 1, go_q2 nn ac pc tm md lo al A La P Lp E D W T U C hn hT post h0 h1 (nn + 1) 0 (by omega) (by omega) (fun z b hz => absurd hz (by omega))⟩
theorem go_msX (S : go_IS U C) (v : Int32) (post : Int32 → Prop) (hp : ∀ r, post r) : wpX_message post (nI nn, nI ac, nI pc, nI tm, nI md, nI lo, go_B al, go_N A, go_N La, go_N P, go_N Lp, go_M E, go_M D, go_M W, go_N T, go_S U C) v := by
  unfold wpX_message
  rcases go_cls v 64 (by omega) with h1 | ⟨s, hs, rfl⟩
  · exact go_usX0 nn ac pc tm md lo al A La P Lp E D W T U C S (Or.inl h1) _ (br_t rfl (hp _))
  · cases hU : U s with
    | false => exact go_usX0 nn ac pc tm md lo al A La P Lp E D W T U C S (Or.inr ⟨s, hs, rfl, hU⟩) _ (br_t rfl (hp _))
    | true => exact go_usX nn ac pc tm md lo al A La P Lp E D W T U C S hs hU _ (br_f (by decide) ⟨vp_in_nI hs (by omega), hp _⟩)
theorem go_ufl (S : go_IS U C) (x1 : Int32) (post : Int32 → Prop) (hp : ∀ r, post r) : ∀ n i, i ≤ 64 → 64 - i < n → wL_usedFrom_2 post x1 (nI nn) (nI ac) (nI pc) (nI tm) (nI md) (nI lo) (go_B al) (go_N A) (go_N La) (go_N P) (go_N Lp) (go_M E) (go_M D) (go_M W) (go_N T) (go_S U C) n (nI i) := by
  intro n
  induction n with
  | zero => intro i _ hn; exact absurd hn (by omega)
  | succ n ih =>
    intro i hi hn
    exact pk_le 64 i (fun _ => hp _) (fun h => nm_e (go_msX nn ac pc tm md lo al A La P Lp E D W T U C S _ _ (fun r => br_c (fun _ => nm_r (nI_1 i) (ih (i + 1) (by omega) (by omega))) (fun _ => hp _))))
theorem go_uf (S : go_IS U C) (x1 : Int32) (post : Int32 → Prop) (hp : ∀ r, post r) : wpL_usedFrom post (nI nn, nI ac, nI pc, nI tm, nI md, nI lo, go_B al, go_N A, go_N La, go_N P, go_N Lp, go_M E, go_M D, go_M W, go_N T, go_S U C) x1 := ⟨65, go_ufl nn ac pc tm md lo al A La P Lp E D W T U C S x1 post hp 65 0 (by omega) (by omega)⟩
theorem go_aaX (hn : nn ≤ 16) (hL : ∀ x, La x ≤ 4) {v j : Nat} (hv : v < nn) (hj : j < 4) (post : Int32 → Prop) (h1 : j < La v → post (nI (A (v * 4 + j)))) (h2 : post (-1)) : wpX_activeAt post (nI nn, nI ac, nI pc, nI tm, nI md, nI lo, go_B al, go_N A, go_N La, go_N P, go_N Lp, go_M E, go_M D, go_M W, go_N T, go_S U C) (nI v) (nI j) := by
  unfold wpX_activeAt
  have hl := hL v
  have rl := go_rN (e := nI v) La v rfl (by omega)
  refine go_ndX nn ac pc tm md lo al A La P Lp E D W T U C hn hv _ (br_f (by decide) (br_f (nI_pos (by omega)) ⟨vp_in_nI (by omega) (by omega), ?_⟩))
  by_cases q : j < La v
  · refine br_t (by rw [rl]; exact nI_lt q (by omega)) ⟨pk_in (v * 4 + j) 64 (by omega) (go_ix4 v j), ?_⟩
    rw [go_rN A (v * 4 + j) (go_ix4 v j) (by omega)]
    exact h1 q
  · exact br_f (by rw [rl]; exact nI_nlt (by omega) (by omega)) h2
def go_R (nn : Nat) (al D : Nat → Bool) (b : Nat) (r : Int32) : Prop := ∀ v, v < 32 → bt r v = true → v < nn ∧ al v = true ∧ D (v * 16 + b) = true
theorem go_r34 (hn : nn ≤ 16) (hA : ∀ j, A j < 16) (hL : ∀ x, La x ≤ 4) {v b : Nat} {x4 : Int32} (hv : v < nn) (hav : al v = true) (hdv : D (v * 16 + b) = true) (hE : ∀ p, p < nn → al p = true → go_lk A La v p → D (p * 16 + b) = true) (post : Int32 → Prop) (J7 J16 : Int32 → Int32 → Prop) (hJ : ∀ r, go_R nn al D b r → J16 r (nI (v + 1))) : ∀ n j r, j ≤ 4 → 4 - j < n → go_R nn al D b r → wL_reach_34 post J7 J16 (nI nn) x4 (nI v) (nI nn) (nI ac) (nI pc) (nI tm) (nI md) (nI lo) (go_B al) (go_N A) (go_N La) (go_N P) (go_N Lp) (go_M E) (go_M D) (go_M W) (go_N T) (go_S U C) n r (nI j) := by
  intro n
  induction n with
  | zero => intro j r _ hn; exact absurd hn (by omega)
  | succ n ih =>
    intro j r hj hn' hR
    refine pk_le 4 j (fun _ => nm_r (nI_1 v) (hJ r hR)) (fun h => go_aaX nn ac pc tm md lo al A La P Lp E D W T U C hn hL hv h _ (fun q => ?_) (br_t (by decide) (nm_r (nI_1 j) (ih (j + 1) r (by omega) (by omega) hR))))
    have hp := hA (v * 4 + j)
    refine br_f (nI_pos (by omega)) (pk_le nn (A (v * 4 + j)) (fun _ => nm_r (nI_1 j) (ih (j + 1) r (by omega) (by omega) hR)) (fun hpn => ?_))
    cases ha : al (A (v * 4 + j)) with
    | false => exact go_alX0 nn ac pc tm md lo al A La P Lp E D W T U C hn (Or.inr ⟨_, hpn, rfl, ha⟩) _ (br_t rfl (nm_r (nI_1 j) (ih (j + 1) r (by omega) (by omega) hR)))
    | true =>
      refine go_alX nn ac pc tm md lo al A La P Lp E D W T U C hn hpn ha _ (br_f (by decide) (nm_e (nm_r (nI_1 j) (ih (j + 1) _ (by omega) (by omega) (fun z hz hb => ?_)))))
      rw [b_or, go_1b _ (by omega) hz] at hb
      rcases Bool.or_eq_true_iff.mp hb with hb | hb
      · exact hR z hz hb
      · have e : z = A (v * 4 + j) := of_decide_eq_true hb
        rw [e]
        exact ⟨hpn, ha, hE _ hpn ha ⟨j, q, rfl⟩⟩
theorem go_r16 (hn : nn ≤ 16) (hA : ∀ j, A j < 16) (hL : ∀ x, La x ≤ 4) {b k : Nat} (hE : ∀ v p, v < nn → p < nn → al v = true → al p = true → go_lk A La v p → D (v * 16 + b) = true → D (p * 16 + b) = true) (post : Int32 → Prop) (J7 : Int32 → Int32 → Prop) (hJ : ∀ r, go_R nn al D b r → J7 r (nI (k + 1))) : ∀ n v r, v ≤ nn → nn - v < n → go_R nn al D b r → wL_reach_16 post J7 (nI nn) (nI k) (nI nn) (nI ac) (nI pc) (nI tm) (nI md) (nI lo) (go_B al) (go_N A) (go_N La) (go_N P) (go_N Lp) (go_M E) (go_M D) (go_M W) (go_N T) (go_S U C) n r (nI v) := by
  intro n
  induction n with
  | zero => intro v r _ hn; exact absurd hn (by omega)
  | succ n ih =>
    intro v r hv hn' hR
    refine pk_le nn v (fun _ => nm_r (nI_1 k) (hJ r hR)) (fun h => ?_)
    cases hb : bt r v with
    | false => exact br_t ((go_sb1 r v (by omega)).mpr hb) (nm_r (nI_1 v) (ih (v + 1) r (by omega) (by omega) hR))
    | true =>
      obtain ⟨_, hav, hdv⟩ := hR v (by omega) hb
      exact br_f (fun q => by rw [(go_sb1 r v (by omega)).mp q] at hb; exact absurd hb (by decide)) ⟨5, go_r34 nn ac pc tm md lo al A La P Lp E D W T U C hn hA hL h hav hdv (fun p hp ap l => hE v p h hp hav ap l hdv) post J7 _ (fun r' hR' => ih (v + 1) r' (by omega) (by omega) hR') 5 0 r (by omega) (by omega) hR⟩
theorem go_r7 (hn : nn ≤ 16) (hA : ∀ j, A j < 16) (hL : ∀ x, La x ≤ 4) {b : Nat} (hE : ∀ v p, v < nn → p < nn → al v = true → al p = true → go_lk A La v p → D (v * 16 + b) = true → D (p * 16 + b) = true) (post : Int32 → Prop) (hp : ∀ r, go_R nn al D b r → post r) : ∀ n k r, k ≤ nn → nn - k < n → go_R nn al D b r → wL_reach_7 post (nI nn) (nI nn) (nI ac) (nI pc) (nI tm) (nI md) (nI lo) (go_B al) (go_N A) (go_N La) (go_N P) (go_N Lp) (go_M E) (go_M D) (go_M W) (go_N T) (go_S U C) n r (nI k) := by
  intro n
  induction n with
  | zero => intro v r _ hn; exact absurd hn (by omega)
  | succ n ih =>
    intro k r hk hn' hR
    exact pk_le nn k (fun _ => hp r hR) (fun h => ⟨nn + 1, go_r16 nn ac pc tm md lo al A La P Lp E D W T U C hn hA hL hE post _ (fun r' hR' => ih (k + 1) r' (by omega) (by omega) hR') (nn + 1) 0 r (by omega) (by omega) hR⟩)
theorem go_reach (hn : nn ≤ 16) (hA : ∀ j, A j < 16) (hL : ∀ x, La x ≤ 4) {b s : Nat} (hs : s < nn) (has : al s = true) (hds : D (s * 16 + b) = true) (hE : ∀ v p, v < nn → p < nn → al v = true → al p = true → go_lk A La v p → D (v * 16 + b) = true → D (p * 16 + b) = true) (post : Int32 → Prop) (hp : ∀ r, go_R nn al D b r → post r) : wpL_reach post (nI nn, nI ac, nI pc, nI tm, nI md, nI lo, go_B al, go_N A, go_N La, go_N P, go_N Lp, go_M E, go_M D, go_M W, go_N T, go_S U C) (nI nn) (nI s) := by
  refine nm_e ⟨nn + 1, go_r7 nn ac pc tm md lo al A La P Lp E D W T U C hn hA hL hE post hp (nn + 1) 0 _ (by omega) (by omega) (fun z hz hb => ?_)⟩
  rw [go_1b s (by omega) hz] at hb
  have e : z = s := of_decide_eq_true hb
  rw [e]
  exact ⟨hs, has, hds⟩
theorem go_c59 (hn : nn ≤ 16) {b : Nat} {x2 : Int32} {x3 : Int64} {r : Int32} (hb : b < 16) (hR : go_R nn al D b r) (post : Int32 → Prop) (J : Int32 → Prop) (hJ : J (nI (b + 1))) : ∀ n v, v ≤ nn → nn - v < n → wL_covered_59 post J (nI nn) x2 x3 (nI b) r (nI nn) (nI ac) (nI pc) (nI tm) (nI md) (nI lo) (go_B al) (go_N A) (go_N La) (go_N P) (go_N Lp) (go_M E) (go_M D) (go_M W) (go_N T) (go_S U C) n (nI v) := by
  intro n
  induction n with
  | zero => intro v _ hn; exact absurd hn (by omega)
  | succ n ih =>
    intro v hv hn'
    refine pk_le nn v (fun _ => nm_r (nI_1 b) hJ) (fun h => ?_)
    cases hbt : bt r v with
    | false => exact br_t ((go_sb1 r v (by omega)).mpr hbt) (nm_r (nI_1 v) (ih (v + 1) (by omega) (by omega)))
    | true =>
      obtain ⟨h1, h2, h3⟩ := hR v (by omega) hbt
      refine br_f (fun q => by rw [(go_sb1 r v (by omega)).mp q] at hbt; exact absurd hbt (by decide)) (go_rdD nn ac pc tm md lo al A La P Lp E D W T U C hn v (by omega) _ (br_f (fun q => ?_) (nm_r (nI_1 v) (ih (v + 1) (by omega) (by omega)))))
      have w := (go_sb1 (go_dd nn D v) b (by omega)).mp q
      unfold go_dd at w
      rw [if_pos h1, go_Mb D v b (by omega), h3, decide_eq_true hb] at w
      exact absurd w (by decide)
theorem go_c3 (hn : nn ≤ 16) (hA : ∀ j, A j < 16) (hL : ∀ x, La x ≤ 4) {x9 : Int32} {x7 : Int64} {src : Nat → Nat} (hm : ∀ i, i < 32 → bt x9 i = decide (i < md)) (hsr : go_sr x7 md src) (hsc : ∀ b, b < md → src b < nn ∧ D (src b * 16 + b) = true) (hE : ∀ b, b < 16 → ∀ v p, v < nn → p < nn → al v = true → al p = true → go_lk A La v p → D (v * 16 + b) = true → D (p * 16 + b) = true) (post : Int32 → Prop) (hp : post 1) : ∀ n b, b ≤ 16 → 16 - b < n → wL_covered_3 post (nI nn) x9 x7 (nI nn) (nI ac) (nI pc) (nI tm) (nI md) (nI lo) (go_B al) (go_N A) (go_N La) (go_N P) (go_N Lp) (go_M E) (go_M D) (go_M W) (go_N T) (go_S U C) n (nI b) := by
  intro n
  induction n with
  | zero => intro v _ hn; exact absurd hn (by omega)
  | succ n ih =>
    intro b hb hn'
    refine pk_le 16 b (fun _ => hp) (fun h => ?_)
    by_cases hbm : b < md
    · have hbt : bt x9 b = true := by rw [hm b (by omega)]; exact decide_eq_true hbm
      obtain ⟨hs1, hs2⟩ := hsc b hbm
      have e4 : (4 : Int32) * nI b = nI (4 * b) := pk_mul 4 b
      refine br_f (fun q => by rw [(go_sb1 x9 b (by omega)).mp q] at hbt; exact absurd hbt (by decide)) (nm_r (e' := nI (src b)) (by rw [e4]; exact go_srr hsr hbm h (by omega)) ?_)
      cases ha : al (src b) with
      | false => exact go_alX0 nn ac pc tm md lo al A La P Lp E D W T U C hn (Or.inr ⟨_, hs1, rfl, ha⟩) _ (br_t rfl (nm_r (nI_1 b) (ih (b + 1) (by omega) (by omega))))
      | true => exact go_alX nn ac pc tm md lo al A La P Lp E D W T U C hn hs1 ha _ (br_f (by decide) (go_reach nn ac pc tm md lo al A La P Lp E D W T U C hn hA hL hs1 ha hs2 (hE b h) _ (fun r hR => ⟨nn + 1, go_c59 nn ac pc tm md lo al A La P Lp E D W T U C hn h hR post _ (ih (b + 1) (by omega) (by omega)) (nn + 1) 0 (by omega) (by omega)⟩)))
    · have hbt : bt x9 b = false := by rw [hm b (by omega)]; exact decide_eq_false hbm
      exact br_t ((go_sb1 x9 b (by omega)).mpr hbt) (nm_r (nI_1 b) (ih (b + 1) (by omega) (by omega)))
theorem go_cov (hn : nn ≤ 16) (hA : ∀ j, A j < 16) (hL : ∀ x, La x ≤ 4) {x9 : Int32} {x7 : Int64} {src : Nat → Nat} (hm : ∀ i, i < 32 → bt x9 i = decide (i < md)) (hsr : go_sr x7 md src) (hsc : ∀ b, b < md → src b < nn ∧ D (src b * 16 + b) = true) (hE : ∀ b, b < 16 → ∀ v p, v < nn → p < nn → al v = true → al p = true → go_lk A La v p → D (v * 16 + b) = true → D (p * 16 + b) = true) (post : Int32 → Prop) (hp : post 1) : wpL_covered post (nI nn, nI ac, nI pc, nI tm, nI md, nI lo, go_B al, go_N A, go_N La, go_N P, go_N Lp, go_M E, go_M D, go_M W, go_N T, go_S U C) (nI nn) x9 x7 := ⟨17, go_c3 nn ac pc tm md lo al A La P Lp E D W T U C hn hA hL hm hsr hsc hE post hp 17 0 (by omega) (by omega)⟩
end
theorem go_ftl {nn md base : Nat} {D : Nat → Bool} {x : Int64} {x9 : Int32} (h : go_sub nn D base x) (hK : ∀ z b, b < 16 → D (z * 16 + b) = true → b < md) (hm : ∀ i, i < 32 → bt x9 i = decide (i < md)) (post : Int32 → Prop) (hp : post 1) : ∀ n v, v ≤ 4 → 4 - v < n → wL_fits_2 post x x9 n (nI v) := by
  intro n
  induction n with
  | zero => intro v _ hn; exact absurd hn (by omega)
  | succ n ih =>
    intro v hv hn
    have e16 : (16 : Int32) * nI v = nI (16 * v) := pk_mul 16 v
    exact pk_le 4 v (fun _ => hp) (fun h4 => br_t (by rw [e16]; exact go_fit h hK hm h4) (nm_r (nI_1 v) (ih (v + 1) (by omega) (by omega))))
theorem go_ft {nn md base : Nat} {D : Nat → Bool} {x : Int64} {x9 : Int32} (h : go_sub nn D base x) (hK : ∀ z b, b < 16 → D (z * 16 + b) = true → b < md) (hm : ∀ i, i < 32 → bt x9 i = decide (i < md)) (post : Int32 → Prop) (hp : post 1) : wpL_fits post () x x9 := ⟨5, go_ftl h hK hm post hp 5 0 (by omega) (by omega)⟩
end
section
section
variable (nn ac pc tm md lo : Nat) (al : Nat → Bool) (A La P Lp : Nat → Nat) (E D W : Nat → Bool) (T : Nat → Nat) (U : Nat → Bool) (C : Nat → Nat)
theorem go_chk {L : Nat} {xs : Nat → Int32} {x3 x5 x7 : Int64} {x9 x10 x11 x12 x13 x14 : Int32} {it kc ks : Nat} {src : Nat → Nat} (G : go_G nn ac pc tm md lo al A La P Lp E D W T U C) (hlo : lo < 2 ^ 31) (h3 : go_sub nn D 0 x3) (h5 : go_sub nn D 4 x5) (hm : ∀ i, i < 32 → bt x9 i = decide (i < md)) (hsr : go_sr x7 md src) (hsc : ∀ b, b < md → src b < nn ∧ D (src b * 16 + b) = true) (post : Int32 → Prop) (J : Int64 → Int64 → Int64 → Int32 → Int32 → Int32 → Int32 → Int32 → Int32 → Int32 → Int32 → Int32 → Int32 → Int32 → Int32 → (Nat → Int32) → (Nat → Int32) → (Nat → Int32) → (Nat → Int32) → (Nat → Int32) → (Nat → Int32) → (Nat → Int32) → (Nat → Int32) → (Nat → Int32) → (Nat → Int32) → Prop) (hJ : ∀ r54 r55, go_sub nn D 0 r54 → go_sub nn D 4 r55 → J r54 r55 x7 x9 x10 x11 x12 x13 (nI (it + 1)) (nI nn) (nI ac) (nI pc) (nI tm) (nI md) (nI lo) (go_B al) (go_N A) (go_N La) (go_N P) (go_N Lp) (go_M E) (go_M D) (go_M W) (go_N T) (go_S U C)) : wL_law_458 post L xs J (nI nn) x3 x5 x7 x9 x10 x11 x12 x13 x14 (nI it) kc ks (nI nn) (nI ac) (nI pc) (nI tm) (nI md) (nI lo) (go_B al) (go_N A) (go_N La) (go_N P) (go_N Lp) (go_M E) (go_M D) (go_M W) (go_N T) (go_S U C) := by
  obtain ⟨⟨hn, hac, hpc, htm⟩, hmd, Z, KD, MS, IV⟩ := G
  have hJ' := hJ _ _ (go_pks nn D 0) (go_pks nn D 4)
  have hL : ∀ x, La x ≤ 4 := fun x => Nat.le_trans (Z.1.2.1 x) hac.2
  unfold wL_law_458
  refine go_pack nn ac pc tm md lo al A La P Lp E D W T U C hn.2 (base := 0) (by omega) _ (go_pack nn ac pc tm md lo al A La P Lp E D W T U C hn.2 (base := 4) (by omega) _ (br_t (go_pkc h3) (br_t (go_pkc h5) (go_ft (go_pks nn D 0) KD hm _ (br_f (by decide) (go_ft (go_pks nn D 4) KD hm _ (br_f (by decide) ?_)))))))
  by_cases l0 : lo = 0
  · refine br_t (by rw [l0]; exact nI_0) (go_pd nn ac pc tm md lo al A La P Lp E D W T U C _ Z.2.2.2.2 (fun r hr => ?_))
    by_cases r0 : r = 0
    · refine br_t r0 (go_qt nn ac pc tm md lo al A La P Lp E D W T U C hn.2 Z.2.2.2.1 _ (br_t rfl (nm_r (nI_1 it) hJ')) (fun hq => br_f (by decide) (go_cov nn ac pc tm md lo al A La P Lp E D W T U C hn.2 Z.1.1 hL hm hsr hsc (fun b hb v p hv hp av ap l d => ?_) _ (br_f (by decide) (nm_r (nI_1 it) hJ')))))
      have hfree := hr r0
      have nohs : ∀ k x y c, ¬ go_hs U C k x y c := fun k x y c ⟨s, hs, hU, _⟩ => by rw [hfree s hs] at hU; exact absurd hU (by decide)
      rcases IV l0 v p b (by omega) (by omega) hb av ap l d with h | h | h | h | h
      · exact h
      · exact absurd h (nohs _ _ _ _)
      · exact absurd h (nohs _ _ _ _)
      · have := hq p b hp hb
        omega
      · exact absurd h (nohs _ _ _ _)
    · exact br_f r0 (nm_r (nI_1 it) hJ')
  · exact br_f (nI_ne0 (by omega) hlo) (nm_r (nI_1 it) hJ')
end
theorem go_cell {L : Nat} (hL : L < 2 ^ 31) (xs : Nat → Int32) {p : Int32} (j : Nat) (hj : j < 2 ^ 31) (e : p = nI j) (post : Int32 → Prop) (h : ∀ r, post r) : wpL_cell post L xs () p := by
  subst e
  exact pk_le L j (fun _ => h _) (fun q => ⟨vp_in_nI q hL, h _⟩) rfl rfl hL hj
theorem go_subm {nn base : Nat} {D D' : Nat → Bool} {x : Int64} (h : ∀ j, D j = true → D' j = true) (g : go_sub nn D base x) : go_sub nn D' base x := fun i hi hx => ⟨(g i hi hx).1, h _ (g i hi hx).2⟩
section
variable (nn ac pc tm md : Nat) (lo0 : Nat) (D0 : Nat → Bool)
theorem go_dl {L : Nat} {xs : Nat → Int32} {x3 x5 x7 : Int64} {x9 x10 x11 x12 x13 x14 x15 x18 : Int32} {kc ks : Nat} (post : Int32 → Prop) (J : Int64 → Int64 → Int64 → Int32 → Int32 → Int32 → Int32 → Int32 → Int32 → Int32 → Int32 → Int32 → Int32 → Int32 → Int32 → (Nat → Int32) → (Nat → Int32) → (Nat → Int32) → (Nat → Int32) → (Nat → Int32) → (Nat → Int32) → (Nat → Int32) → (Nat → Int32) → (Nat → Int32) → (Nat → Int32) → Prop) (hl0 : lo0 + 300 < 2 ^ 31) (HK : ∀ (al : Nat → Bool) (A La P Lp : Nat → Nat) (E D W : Nat → Bool) (T : Nat → Nat) (U : Nat → Bool) (C : Nat → Nat) (lo : Nat), go_G nn ac pc tm md lo al A La P Lp E D W T U C → lo = lo0 → (∀ j, D0 j = true → D j = true) → wL_law_458 post L xs J (nI nn) x3 x5 x7 x9 x10 x11 x12 x13 x14 x15 kc ks (nI nn) (nI ac) (nI pc) (nI tm) (nI md) (nI lo) (go_B al) (go_N A) (go_N La) (go_N P) (go_N Lp) (go_M E) (go_M D) (go_M W) (go_N T) (go_S U C)) : ∀ n k (al : Nat → Bool) (A La P Lp : Nat → Nat) (E D W : Nat → Bool) (T : Nat → Nat) (U : Nat → Bool) (C : Nat → Nat) (lo : Nat), k ≤ 64 → 64 - k < n → go_G nn ac pc tm md lo al A La P Lp E D W T U C → lo = lo0 → (∀ j, D0 j = true → D j = true) → wL_law_378 post L xs J (nI nn) x3 x5 x7 x9 x10 x11 x12 x13 x14 x15 x18 kc ks n (nI k) (nI nn) (nI ac) (nI pc) (nI tm) (nI md) (nI lo) (go_B al) (go_N A) (go_N La) (go_N P) (go_N Lp) (go_M E) (go_M D) (go_M W) (go_N T) (go_S U C) := by
  intro n
  induction n with
  | zero => intro k al A La P Lp E D W T U C lo _ hn; exact absurd hn (by omega)
  | succ n ih =>
    intro k al A La P Lp E D W T U C lo hk hn G hlo hD
    refine pk_le 64 k (fun _ => ?_) (fun h => ?_)
    · unfold wL_law_409 wL_law_439
      exact HK al A La P Lp E D W T U C lo G hlo hD
    · obtain ⟨al', A', La', P', Lp', E', D', W', T', U', C', lo', G', hl', hDD, r, hX⟩ := go_cP nn ac pc tm md lo al A La P Lp E D W T U C ((x18 + nI k) &&& 63) G (by omega)
      have hD' : ∀ j, D0 j = true → D' j = true := fun j h => hDD j (hD j h)
      refine hX _ (br_c (fun _ => nm_r (nI_1 k) (ih (k + 1) al' A' La' P' Lp' E' D' W' T' U' C' lo' (by omega) (by omega) G' (by omega) hD')) (fun _ => ?_))
      unfold wL_law_409 wL_law_439
      exact HK al' A' La' P' Lp' E' D' W' T' U' C' lo' G' (by omega) hD'
end
section
variable (nn ac pc tm : Nat)
theorem go_loop {L : Nat} (hL : L ≤ 260) (xs : Nat → Int32) {kc ks : Nat} (post : Int32 → Prop) (hp : post 1) : ∀ n it (md : Nat) (al : Nat → Bool) (A La P Lp : Nat → Nat) (E D W : Nat → Bool) (T : Nat → Nat) (U : Nat → Bool) (C : Nat → Nat) (lo : Nat) (x3 x5 x7 : Int64) (x9 x10 x11 x13 : Int32) (i : Nat) (src : Nat → Nat), it ≤ L * 1000 + 2000 → L * 1000 + 2000 - it < n → go_G nn ac pc tm md lo al A La P Lp E D W T U C → lo ≤ 300 * it → go_sub nn D 0 x3 → go_sub nn D 4 x5 → (∀ i, i < 32 → bt x9 i = decide (i < md)) → go_sr x7 md src → (∀ b, b < md → src b < nn ∧ D (src b * 16 + b) = true) → i ≤ L + 4 → wL_law_91 post L xs (nI nn) (nI (L * 1000 + 2000)) kc ks n x3 x5 x7 x9 x10 x11 (nI i) x13 (nI it) (nI nn) (nI ac) (nI pc) (nI tm) (nI md) (nI lo) (go_B al) (go_N A) (go_N La) (go_N P) (go_N Lp) (go_M E) (go_M D) (go_M W) (go_N T) (go_S U C) := by
  intro n
  induction n with
  | zero => intro it md al A La P Lp E D W T U C lo x3 x5 x7 x9 x10 x11 x13 i src _ hn; exact absurd hn (by omega)
  | succ n ih =>
    intro it md al A La P Lp E D W T U C lo x3 x5 x7 x9 x10 x11 x13 i src hit hn' G hlo h3 h5 hm hsr hsc hi
    refine pk_le (L * 1000 + 2000) it (fun _ => hp) (fun h => ?_)
    have hnn := G.1.1
    have Z := G.2.2.1
    have hl : lo + 300 < 2 ^ 31 := by omega
    have hn0 : ¬ nI nn = 0 := nI_ne0 (by omega) (by omega)
    have K1 : ∀ (md' : Nat) (al' : Nat → Bool) (A' La' P' Lp' : Nat → Nat) (E' D' W' : Nat → Bool) (T' : Nat → Nat) (U' : Nat → Bool) (C' : Nat → Nat) (lo' : Nat) (y7 : Int64) (y9 y10 y11 y13 : Int32) (i' : Nat) (src' : Nat → Nat), go_G nn ac pc tm md' lo' al' A' La' P' Lp' E' D' W' T' U' C' → lo' ≤ lo + 300 → (∀ j, D j = true → D' j = true) → (∀ i, i < 32 → bt y9 i = decide (i < md')) → go_sr y7 md' src' → (∀ b, b < md' → src' b < nn ∧ D' (src' b * 16 + b) = true) → i' ≤ L + 4 → wL_law_458 post L xs (wL_law_91 post L xs (nI nn) (nI (L * 1000 + 2000)) kc ks n) (nI nn) x3 x5 y7 y9 y10 y11 (nI i') y13 (nI (L * 1000 + 2000)) (nI it) kc ks (nI nn) (nI ac) (nI pc) (nI tm) (nI md') (nI lo') (go_B al') (go_N A') (go_N La') (go_N P') (go_N Lp') (go_M E') (go_M D') (go_M W') (go_N T') (go_S U' C') := by
      intro md' al' A' La' P' Lp' E' D' W' T' U' C' lo' y7 y9 y10 y11 y13 i' src' G' hl' hDD hm' hsr' hsc' hi'
      exact go_chk nn ac pc tm md' lo' al' A' La' P' Lp' E' D' W' T' U' C' G' (by omega) (go_subm hDD h3) (go_subm hDD h5) hm' hsr' hsc' post _ (fun r54 r55 s54 s55 => ih (it + 1) md' al' A' La' P' Lp' E' D' W' T' U' C' lo' r54 r55 y7 y9 y10 y11 y13 i' src' (by omega) (by omega) G' (by omega) s54 s55 hm' hsr' hsc' hi')
    have K : ∀ (al' : Nat → Bool) (A' La' P' Lp' : Nat → Nat) (E' D' W' : Nat → Bool) (T' : Nat → Nat) (U' : Nat → Bool) (C' : Nat → Nat) (lo' : Nat) (y10 y11 y13 : Int32) (i' : Nat), go_G nn ac pc tm md lo' al' A' La' P' Lp' E' D' W' T' U' C' → lo' ≤ lo + 300 → (∀ j, D j = true → D' j = true) → i' ≤ L + 4 → wL_law_458 post L xs (wL_law_91 post L xs (nI nn) (nI (L * 1000 + 2000)) kc ks n) (nI nn) x3 x5 x7 x9 y10 y11 (nI i') y13 (nI (L * 1000 + 2000)) (nI it) kc ks (nI nn) (nI ac) (nI pc) (nI tm) (nI md) (nI lo') (go_B al') (go_N A') (go_N La') (go_N P') (go_N Lp') (go_M E') (go_M D') (go_M W') (go_N T') (go_S U' C') := fun al' A' La' P' Lp' E' D' W' T' U' C' lo' y10 y11 y13 i' G' hl' hDD hi' => K1 md al' A' La' P' Lp' E' D' W' T' U' C' lo' x7 x9 y10 y11 y13 i' src G' hl' hDD hm hsr (fun b hb => ⟨(hsc b hb).1, hDD _ (hsc b hb).2⟩) hi'
    have K0 : ∀ (y10 y11 y13 : Int32) (i' : Nat), i' ≤ L + 4 → wL_law_458 post L xs (wL_law_91 post L xs (nI nn) (nI (L * 1000 + 2000)) kc ks n) (nI nn) x3 x5 x7 x9 y10 y11 (nI i') y13 (nI (L * 1000 + 2000)) (nI it) kc ks (nI nn) (nI ac) (nI pc) (nI tm) (nI md) (nI lo) (go_B al) (go_N A) (go_N La) (go_N P) (go_N Lp) (go_M E) (go_M D) (go_M W) (go_N T) (go_S U C) := fun y10 y11 y13 i' hi' => K al A La P Lp E D W T U C lo y10 y11 y13 i' G (by omega) (fun _ h => h) hi'
    by_cases hb : x10 ≤ 0
    · refine br_t hb (pk_le L i (fun _ => br_c (fun _ => K0 1000 0 1 i hi) (fun _ => hp)) (fun hiL => ?_))
      refine go_cell (by omega) xs i (by omega) rfl _ (fun r74 => nm_e ?_)
      refine go_cell (by omega) xs (i + 1) (by omega) (nI_1 i) _ (fun r76 => ⟨hn0, ?_⟩)
      obtain ⟨a0, ha0, ea0⟩ := pk_andE r76 (m := 255) 8 (by decide)
      have eA : (r76 &&& 255) - (r76 &&& 255) / nI nn * nI nn = nI (a0 % nn) := by rw [ea0]; exact pk_rem (by omega) (by omega) (by omega)
      have ha : a0 % nn < nn := Nat.mod_lt _ (by omega)
      refine nm_r eA ?_
      generalize a0 % nn = a at ha
      refine go_cell (by omega) xs (i + 2) (by omega) (nI_add i 2) _ (fun r79 => nm_e ⟨hn0, nm_e (nm_r (nI_add i 3) ?_)⟩)
      have join : ∀ z0 z1 : Int32, wL_law_244 post L xs (wL_law_91 post L xs (nI nn) (nI (L * 1000 + 2000)) kc ks n) (nI nn) x3 x5 x7 x9 x10 x11 (nI (i + 3)) x13 (nI (L * 1000 + 2000)) (nI it) z0 z1 kc ks (nI nn) (nI ac) (nI pc) (nI tm) (nI md) (nI lo) (go_B al) (go_N A) (go_N La) (go_N P) (go_N Lp) (go_M E) (go_M D) (go_M W) (go_N T) (go_S U C) := by
        intro z0 z1
        obtain ⟨al', A', La', P', Lp', E', D', W', T', U', C', lo', G', hl', hDD, r, hX⟩ := go_cJ nn ac pc tm md lo al A La P Lp E D W T U C z1 z0 G hl
        unfold wL_law_244
        exact hX _ (K al' A' La' P' Lp' E' D' W' T' U' C' lo' x10 x11 x13 (i + 3) G' hl' hDD (by omega))
      refine br_c (fun _ => br_c (fun _ => ?_) (fun _ => br_c (fun _ => ?_) (fun _ => br_c (fun _ => br_c (fun _ => br_c (fun _ => ?_) (fun _ => br_c (fun _ => ?_) (fun _ => ?_))) (fun _ => ?_)) (fun _ => ?_)))) (fun _ => br_c (fun _ => ⟨hn0, join _ _⟩) (fun _ => join _ _))
      · obtain ⟨al', A', La', P', Lp', E', D', W', T', U', C', lo', G', hl', hDD, r, hX⟩ := go_cS nn ac pc tm md lo al A La P Lp E D W T U C (nI a) G hl
        exact hX _ (K al' A' La' P' Lp' E' D' W' T' U' C' lo' x10 x11 x13 (i + 3) G' hl' hDD (by omega))
      · obtain ⟨al', A', La', P', Lp', E', D', W', T', U', C', lo', G', hl', hDD, r, hX⟩ := go_cC nn ac pc tm md lo al A La P Lp E D W T U C (nI a) G hl
        exact hX _ (K al' A' La' P' Lp' E' D' W' T' U' C' lo' x10 x11 x13 (i + 3) G' hl' hDD (by omega))
      · exact ⟨65, go_dl nn ac pc tm md lo D post _ hl (fun al' A' La' P' Lp' E' D' W' T' U' C' lo' G' hl' hDD => K al' A' La' P' Lp' E' D' W' T' U' C' lo' x10 x11 x13 (i + 3) G' (by omega) hDD (by omega)) 65 0 al A La P Lp E D W T U C lo (by omega) (by omega) G rfl (fun _ h => h)⟩
      · obtain ⟨al', A', La', P', Lp', E', D', W', T', U', C', lo', G', hl', hDD, r, hX⟩ := go_cT nn ac pc tm md lo al A La P Lp E D W T U C G hl
        exact hX _ (K al' A' La' P' Lp' E' D' W' T' U' C' lo' x10 x11 x13 (i + 3) G' hl' hDD (by omega))
      · exact nm_e (K0 1000 _ x13 (i + 3) (by omega))
      · refine go_uf nn ac pc tm md lo al A La P Lp E D W T U C Z.2.2.2.2 _ _ (fun r => br_c (fun _ => ?_) (fun _ => ?_))
        · exact K0 x10 x11 x13 (i + 3) (by omega)
        · obtain ⟨al', A', La', P', Lp', E', D', W', T', U', C', lo', G', hl', hDD, r', hX⟩ := go_cD nn ac pc tm md lo al A La P Lp E D W T U C r G hl
          exact hX _ (K al' A' La' P' Lp' E' D' W' T' U' C' lo' x10 x11 x13 (i + 3) G' hl' hDD (by omega))
      · rcases go_cB nn ac pc tm md lo al A La P Lp E D W T U C a G hl ha with hX | ⟨D', U', C', lo', h16, G', hl', hDD, hDx, hX⟩
        · exact hX _ (br_t (by decide) (K0 x10 x11 x13 (i + 3) (by omega)))
        · have e4 : (4 : Int32) * nI md = nI (4 * md) := pk_mul 4 md
          refine hX _ (br_f (nI_pos (by omega)) (br_f (nI_ge (b := 16) h16 (by omega)) (nm_e (nm_r (e' := x7 ||| ((nI a).toInt64 <<< ((nI (4 * md)).toInt64 &&& 63))) (by rw [e4]) ?_))))
          refine K1 (md + 1) al A La P Lp E D' W T U' C' lo' _ _ x10 x11 x13 (i + 3) (go_up src md a) G' hl' hDD (fun j hj => ?_) (go_srb hsr h16 (by omega)) (fun b hb => ?_) (by omega)
          · rw [b_or, hm j hj, go_1b md (by omega) hj]
            by_cases q : j = md
            · rw [q, decide_eq_true (show md < md + 1 by omega), decide_eq_true (rfl : md = md), Bool.or_true]
            · rw [decide_eq_false q, Bool.or_false]
              exact decide_eq_decide.mpr (by omega)
          · by_cases q : b = md
            · rw [q, go_us]; exact ⟨ha, hDx⟩
            · rw [go_un q]
              exact ⟨(hsc b (by omega)).1, hDD _ (hsc b (by omega)).2⟩
    · refine br_f hb (nm_e (go_uf nn ac pc tm md lo al A La P Lp E D W T U C Z.2.2.2.2 _ _ (fun r => br_c (fun _ => go_qt nn ac pc tm md lo al A La P Lp E D W T U C hnn.2 Z.2.2.2.1 _ (br_t rfl ?_) (fun _ => br_f (by decide) ?_)) (fun _ => ?_))))
      · obtain ⟨al', A', La', P', Lp', E', D', W', T', U', C', lo', G', hl', hDD, r', hX⟩ := go_cT nn ac pc tm md lo al A La P Lp E D W T U C G hl
        exact hX _ (K al' A' La' P' Lp' E' D' W' T' U' C' lo' _ x11 x13 i G' hl' hDD hi)
      · exact K0 0 x11 x13 i hi
      · obtain ⟨al', A', La', P', Lp', E', D', W', T', U', C', lo', G', hl', hDD, r', hX⟩ := go_cD nn ac pc tm md lo al A La P Lp E D W T U C r G hl
        exact hX _ (nm_e (K al' A' La' P' Lp' E' D' W' T' U' C' lo' _ _ x13 i G' hl' hDD hi))
end
end
section
theorem go_clX (p : Int32) (l h : Nat) (hlh : l ≤ h) (hh : h < 2 ^ 31) : ∃ r, l ≤ r ∧ r ≤ h ∧ (∀ Q : Int32 → Prop, Q (nI r) → wpX_clamp Q () p (nI l) (nI h)) := by
  by_cases h1 : nI l ≤ p
  · have h0 : ¬ p < 0 := by
      intro q
      have e1 := Int32.le_iff_toInt_le.mp h1
      have e2 := Int32.lt_iff_toInt_lt.mp q
      rw [nI_toInt (by omega)] at e1
      have e3 : (0 : Int32).toInt = 0 := by decide
      omega
    obtain ⟨r, hr, e⟩ := nI_of h0
    subst e
    have h2 := (nI_leI (by omega) hr).mp h1
    by_cases h3 : nI r ≤ nI h
    · have h4 := (nI_leI hr hh).mp h3
      exact ⟨r, h2, h4, fun Q hQ => br_t h1 (br_t h3 hQ)⟩
    · exact ⟨h, hlh, by omega, fun Q hQ => br_t h1 (br_f h3 hQ)⟩
  · exact ⟨l, by omega, hlh, fun Q hQ => br_f h1 hQ⟩
section
variable (nn ac pc tm md lo : Nat) (al : Nat → Bool) (A La P Lp : Nat → Nat) (E D W : Nat → Bool) (T : Nat → Nat) (U : Nat → Bool) (C : Nat → Nat)
theorem go_iX {mc ms kc ks : Nat} (hn : nn ≤ 16) (post : St2 → Prop) (hp : post (nI nn, nI ac, nI pc, nI tm, nI md, nI lo, go_B (fun j => decide (j < nn)), go_N A, go_N La, go_N P, go_N Lp, go_M E, go_M D, go_M W, go_N T, go_S U C)) : ∀ n i, i ≤ 16 → 16 - i < n → wX_init_144 post mc ms kc ks (nI nn) (nI ac) (nI pc) (nI tm) (nI md) (nI lo) n (nI i) (go_B (fun j => decide (j < i ∧ j < nn))) (go_N A) (go_N La) (go_N P) (go_N Lp) (go_M E) (go_M D) (go_M W) (go_N T) (go_S U C) := by
  intro n
  induction n with
  | zero => intro i _ hn; exact absurd hn (by omega)
  | succ n ih =>
    intro i hi hn'
    have w := ih (i + 1)
    refine pk_le 16 i (fun h => ?_) (fun h => pk_le nn i (fun h2 => ⟨vp_in_nI h (by omega), nm_r (go_uB _ i false rfl) (nm_r (nI_1 i) ?_)⟩) (fun h2 => ⟨vp_in_nI h (by omega), nm_r (go_uB _ i true rfl) (nm_r (nI_1 i) ?_)⟩))
    · have e : (fun j => decide (j < i ∧ j < nn)) = fun j => decide (j < nn) := funext fun j => decide_eq_decide.mpr (by omega)
      rw [e]; exact hp
    · have e : go_up (fun j => decide (j < i ∧ j < nn)) i false = fun j => decide (j < i + 1 ∧ j < nn) := by
        funext j
        unfold go_up
        by_cases q : j = i
        · rw [if_pos q]; exact (decide_eq_false (by omega)).symm
        · rw [if_neg q]; exact decide_eq_decide.mpr (by omega)
      rw [e]; exact w (by omega) (by omega)
    · have e : go_up (fun j => decide (j < i ∧ j < nn)) i true = fun j => decide (j < i + 1 ∧ j < nn) := by
        funext j
        unfold go_up
        by_cases q : j = i
        · rw [if_pos q]; exact (decide_eq_true (by omega)).symm
        · rw [if_neg q]; exact decide_eq_decide.mpr (by omega)
      rw [e]; exact w (by omega) (by omega)
end
theorem go_Zi (ac pc : Nat) : go_Z ac pc (fun _ => 0) (fun _ => 0) (fun _ => 0) (fun _ => 0) (fun _ => false) (fun _ => 0) (fun _ => false) (fun _ => 0) := ⟨⟨fun _ => (by decide : 0 < 16), fun _ => Nat.zero_le _, fun _ _ _ _ hj => absurd hj (Nat.not_lt_zero _)⟩, fun _ _ _ h => absurd h Bool.false_ne_true, ⟨fun _ => (by decide : 0 < 16), fun _ => Nat.zero_le _, fun _ _ _ _ hj => absurd hj (Nat.not_lt_zero _)⟩, fun _ => Nat.zero_le _, fun _ => ⟨(by decide : 0 < 2 ^ 31), fun h => absurd h Bool.false_ne_true⟩⟩
theorem i_vc (xs : Nat → Int32) (L : Nat) (hL : L ≤ 260) : wpL_law (fun r => r = 1) L xs := by
  unfold wpL_law
  refine go_cell (by omega) xs 0 (by omega) rfl _ (fun r1 => ⟨by decide, ?_⟩)
  obtain ⟨a0, ha0, ea0⟩ := pk_andE r1 (m := 255) 8 (by decide)
  have e1 : 2 + ((r1 &&& 255) - (r1 &&& 255) / 7 * 7) = nI (2 + a0 % 7) := by
    rw [ea0]
    show nI 2 + (nI a0 - nI a0 / nI 7 * nI 7) = _
    rw [pk_rem (a := a0) (d := 7) (by omega) (by omega) (by omega), nI_add]
  refine nm_r e1 ?_
  have hn : 2 ≤ 2 + a0 % 7 ∧ 2 + a0 % 7 ≤ 16 := by omega
  generalize 2 + a0 % 7 = nn at hn
  refine go_cell (by omega) xs 1 (by omega) rfl _ (fun r5 => go_cell (by omega) xs 2 (by omega) rfl _ (fun r6 => go_cell (by omega) xs 3 (by omega) rfl _ (fun r7 => ⟨10, 848, by omega, by omega, ?_⟩)))
  obtain ⟨ac, a1, a2, c1⟩ := go_clX (2 + (r5 &&& 3)) 2 4 (by omega) (by omega)
  obtain ⟨pc, p1, p2, c2⟩ := go_clX (1 + (r6 &&& 7)) 1 8 (by omega) (by omega)
  obtain ⟨tm, t1, t2, c3⟩ := go_clX (1 + (r7 &&& 7)) 1 8 (by omega) (by omega)
  have c0 : ∀ Q : Int32 → Prop, Q (nI nn) → wpX_clamp Q () (nI nn) 2 16 := fun Q hQ => br_t (nI_le (a := 2) (by omega) (by omega)) (br_t (nI_le (b := 16) (by omega) (by omega)) hQ)
  have w : ∀ Q : St2 → Prop, Q (nI nn, nI ac, nI pc, nI tm, nI 0, nI 0, go_B (fun j => decide (j < nn)), go_N (fun _ => 0), go_N (fun _ => 0), go_N (fun _ => 0), go_N (fun _ => 0), go_M (fun _ => false), go_M (fun _ => false), go_M (fun _ => false), go_N (fun _ => 0), go_S (fun _ => false) (fun _ => 0)) → wX_init_144 Q 10 848 10 848 (nI nn) (nI ac) (nI pc) (nI tm) (nI 0) (nI 0) 17 (nI 0) (go_B (fun _ => false)) (go_N (fun _ => 0)) (go_N (fun _ => 0)) (go_N (fun _ => 0)) (go_N (fun _ => 0)) (go_M (fun _ => false)) (go_M (fun _ => false)) (go_M (fun _ => false)) (go_N (fun _ => 0)) (go_S (fun _ => false) (fun _ => 0)) := by
    intro Q hQ
    have w := go_iX nn ac pc tm 0 0 (fun _ => 0) (fun _ => 0) (fun _ => 0) (fun _ => 0) (fun _ => false) (fun _ => false) (fun _ => false) (fun _ => 0) (fun _ => false) (fun _ => 0) (mc := 10) (ms := 848) (kc := 10) (ks := 848) hn.2 Q hQ 17 0 (by omega) (by omega)
    have e : (fun j => decide (j < 0 ∧ j < nn)) = (fun _ => false : Nat → Bool) := funext fun j => decide_eq_false (by omega)
    rw [e] at w
    exact w
  have e14 : Int32.ofNat L * 1000 + 2000 = nI (L * 1000 + 2000) := by
    show nI L * nI 1000 + nI 2000 = _
    rw [pk_mul, nI_add]
  refine ⟨by decide, by decide, by decide, by decide, by decide, by decide, by decide, by decide, by decide, by decide, by decide, by decide, by decide, by decide, by decide, by decide, by decide, by decide, by decide, by decide, ?_⟩
  refine c0 _ (c1 _ (c2 _ (c3 _ ⟨17, w _ (nm_r e14 ⟨L * 1000 + 2001, ?_⟩)⟩)))
  exact go_loop nn ac pc tm hL xs (fun r => r = 1) rfl (L * 1000 + 2001) 0 0 (fun j => decide (j < nn)) (fun _ => 0) (fun _ => 0) (fun _ => 0) (fun _ => 0) (fun _ => false) (fun _ => false) (fun _ => false) (fun _ => 0) (fun _ => false) (fun _ => 0) 0 0 0 0 0 0 0 0 4 (fun _ => 0) (by omega) (by omega) ⟨⟨hn, ⟨a1, a2⟩, ⟨p1, p2⟩, ⟨t1, t2⟩⟩, by omega, go_Zi ac pc, fun _ _ _ h => absurd h Bool.false_ne_true, fun _ h => absurd h Bool.false_ne_true, fun _ _ _ _ _ _ _ _ _ _ d => absurd d Bool.false_ne_true⟩ (by omega) (fun i _ h => absurd h (by rw [go_bl0]; decide)) (fun i _ h => absurd h (by rw [go_bl0]; decide)) (fun i _ => (b_0 i).trans (decide_eq_false (by omega)).symm) (fun i _ => by rw [go_bl0, decide_eq_false (by omega), Bool.false_and]) (fun b hb => absurd hb (by omega)) (by omega)
end
