def go_up {α : Type} (f : Nat → α) (k : Nat) (x : α) : Nat → α := fun j => if j = k then x else f j
theorem go_us {α : Type} {f : Nat → α} {k : Nat} {x : α} : go_up f k x k = x := if_pos rfl
theorem go_un {α : Type} {f : Nat → α} {k j : Nat} {x : α} (h : j ≠ k) : go_up f k x j = f j := if_neg h
theorem go_ui {α : Type} (f : Nat → α) (k : Nat) : go_up f k (f k) = f := by
  funext j
  by_cases h : j = k
  · rw [h]; exact go_us
  · exact go_un h
def go_z {α : Type} (f : Nat → α) (v : α) (lo hi : Nat) : Nat → α := fun j => if lo ≤ j ∧ j < hi then v else f j
theorem go_z0 {α : Type} (f : Nat → α) (v : α) (lo : Nat) : go_z f v lo lo = f := funext fun j => if_neg (by omega)
theorem go_zs {α : Type} (f : Nat → α) (v : α) {lo hi : Nat} (h : lo ≤ hi) : go_up (go_z f v lo hi) hi v = go_z f v lo (hi + 1) := by
  funext j
  unfold go_up go_z
  by_cases e : j = hi
  · rw [if_pos e, if_pos (by omega)]
  · rw [if_neg e]
    by_cases g : lo ≤ j ∧ j < hi
    · rw [if_pos g, if_pos (by omega)]
    · rw [if_neg g, if_neg (by omega)]
def go_sh (f : Nat → Nat) (lo hi : Nat) : Nat → Nat := fun t => if lo ≤ t ∧ t < hi then f (t + 1) else f t
theorem go_sh0 (f : Nat → Nat) (lo : Nat) : go_sh f lo lo = f := funext fun j => if_neg (by omega)
theorem go_shs (f : Nat → Nat) {lo hi : Nat} (h : lo ≤ hi) : go_up (go_sh f lo hi) hi (f (hi + 1)) = go_sh f lo (hi + 1) := by
  funext j
  unfold go_up go_sh
  by_cases e : j = hi
  · rw [if_pos e, if_pos (by omega), e]
  · rw [if_neg e]
    by_cases g : lo ≤ j ∧ j < hi
    · rw [if_pos g, if_pos (by omega)]
    · rw [if_neg g, if_neg (by omega)]
theorem go_shr (f : Nat → Nat) {lo hi t : Nat} (h : hi ≤ t) : go_sh f lo hi t = f t := if_neg (by omega)
def go_N (f : Nat → Nat) : Nat → Int32 := fun j => nI (f j)
def go_c (b : Bool) : Int32 := cond b 1 0
def go_B (b : Nat → Bool) : Nat → Int32 := fun j => go_c (b j)
theorem go_Nu (f : Nat → Nat) (k x : Nat) : upd (go_N f) k (nI x) = go_N (go_up f k x) := by
  funext j
  unfold upd go_N go_up
  split <;> rfl
theorem go_Bu (b : Nat → Bool) (k : Nat) (x : Bool) : upd (go_B b) k (go_c x) = go_B (go_up b k x) := by
  funext j
  unfold upd go_B go_up
  split <;> rfl
theorem go_rN {e : Int32} (f : Nat → Nat) (j : Nat) (he : e = nI j) (hj : j < 2 ^ 31) : go_N f e.toNatClampNeg = nI (f j) := by
  subst he
  show nI (f _) = _
  rw [nI_clamp hj]
theorem go_rB {e : Int32} (b : Nat → Bool) (j : Nat) (he : e = nI j) (hj : j < 2 ^ 31) : go_B b e.toNatClampNeg = go_c (b j) := by
  subst he
  show go_c (b _) = _
  rw [nI_clamp hj]
theorem go_c0 {b : Bool} : go_c b = 0 ↔ b = false := by
  cases b
  · exact ⟨fun _ => rfl, fun _ => rfl⟩
  · exact ⟨fun h => absurd h (by decide), fun h => nomatch h⟩
theorem go_bz {e : Int32} (b : Nat → Bool) (j : Nat) (h : b j = false) (he : e = nI j := by rfl) (hj : j < 2 ^ 31 := by omega) : go_B b e.toNatClampNeg = 0 := by
  rw [go_rB b j he hj, h]; rfl
theorem go_bn {e : Int32} (b : Nat → Bool) (j : Nat) (h : b j = true) (he : e = nI j := by rfl) (hj : j < 2 ^ 31 := by omega) : ¬ go_B b e.toNatClampNeg = 0 := by
  rw [go_rB b j he hj, h]; decide
theorem go_brB {e : Int32} {A B : Prop} (b : Nat → Bool) (j : Nat) (f : b j = false → A) (g : b j = true → B) (he : e = nI j := by rfl) (hj : j < 2 ^ 31 := by omega) : (go_B b e.toNatClampNeg = 0 → A) ∧ (¬ go_B b e.toNatClampNeg = 0 → B) := by
  cases h : b j with
  | false => exact br_t (go_bz b j h he hj) (f h)
  | true => exact br_f (go_bn b j h he hj) (g h)
theorem go_ix (x s i : Nat) : nI x * nI s + nI i = nI (x * s + i) := by rw [pk_mul, nI_add]
/-! bits -/
theorem go_b1 : ∀ j, j < 32 → bt 1 j = decide (j = 0) := by decide +kernel
theorem go_1b (k : Nat) (hk : k < 32) {i : Nat} (hi : i < 32) : bt ((1 : Int32) <<< (nI k &&& 31)) i = decide (i = k) := by
  rw [b_shl k hk 1 hi]
  by_cases h : k ≤ i
  · rw [go_b1 (i - k) (by omega), decide_eq_true h, Bool.true_and]
    exact decide_eq_decide.mpr (by omega)
  · rw [decide_eq_false h, Bool.false_and]
    exact (decide_eq_false (by omega)).symm
theorem go_bit (m : Int32) (p : Nat) (hp : p < 32) : (m &&& ((1 : Int32) <<< (nI p &&& 31))) = 0 ↔ bt m p = false := by
  constructor
  · intro h
    have e := congrArg (fun z => bt z p) h
    simp only [b_and, b_0, go_1b p hp hp] at e
    simpa using e
  · intro h
    apply b_ext
    intro i hi
    rw [b_and, b_0, go_1b p hp hi]
    by_cases e : i = p
    · rw [e, h, Bool.false_and]
    · rw [decide_eq_false e, Bool.and_false]
def go_m (f : Nat → Bool) : Nat → Int32
  | 0 => 0
  | k + 1 => cond (f k) (go_m f k ||| ((1 : Int32) <<< (nI k &&& 31))) (go_m f k)
theorem go_mb (f : Nat → Bool) : ∀ k, k ≤ 32 → ∀ i, i < 32 → bt (go_m f k) i = (decide (i < k) && f i) := by
  intro k
  induction k with
  | zero =>
    intro _ i _
    show bt 0 i = _
    rw [b_0, decide_eq_false (by omega), Bool.false_and]
  | succ k ih =>
    intro hk i hi
    show bt (cond (f k) (go_m f k ||| ((1 : Int32) <<< (nI k &&& 31))) (go_m f k)) i = _
    cases hf : f k with
    | false =>
      show bt (go_m f k) i = _
      rw [ih (by omega) i hi]
      by_cases e : i = k
      · rw [e, hf, Bool.and_false, Bool.and_false]
      · rw [decide_eq_decide.mpr (show i < k ↔ i < k + 1 by omega)]
    | true =>
      show bt (go_m f k ||| ((1 : Int32) <<< (nI k &&& 31))) i = _
      rw [b_or, ih (by omega) i hi, go_1b k (by omega) hi]
      by_cases e : i = k
      · rw [e, hf, decide_eq_true (show k < k + 1 by omega), decide_eq_true (rfl : k = k), Bool.or_true]; rfl
      · rw [decide_eq_false e, Bool.or_false, decide_eq_decide.mpr (show i < k ↔ i < k + 1 by omega)]
theorem go_mc {f g : Nat → Bool} : ∀ k, (∀ i, i < k → f i = g i) → go_m f k = go_m g k := by
  intro k
  induction k with
  | zero => intro _; rfl
  | succ k ih =>
    intro h
    unfold go_m
    rw [h k (by omega), ih (fun i hi => h i (by omega))]
def go_M (b : Nat → Bool) : Nat → Int32 := fun c => go_m (fun p => b (c * 16 + p)) 16
theorem go_Mb (b : Nat → Bool) (c i : Nat) (hi : i < 32) : bt (go_M b c) i = (decide (i < 16) && b (c * 16 + i)) := go_mb _ 16 (by omega) i hi
theorem go_Mu (b b' : Nat → Bool) (c : Nat) (v : Int32) (hv : ∀ i, i < 32 → bt v i = (decide (i < 16) && b' (c * 16 + i))) (ho : ∀ j, j / 16 ≠ c → b' j = b j) : upd (go_M b) c v = go_M b' := by
  funext j
  by_cases h : j = c
  · rw [h, pk_us]
    apply b_ext
    intro i hi
    rw [hv i hi, go_Mb b' c i hi]
  · rw [pk_un h]
    exact go_mc 16 (fun i hi => (ho (j * 16 + i) (by omega)).symm)
theorem go_Mset (b : Nat → Bool) (c p : Nat) (hp : p < 16) : upd (go_M b) c (go_M b c ||| ((1 : Int32) <<< (nI p &&& 31))) = go_M (go_up b (c * 16 + p) true) := by
  apply go_Mu
  · intro i hi
    rw [b_or, go_Mb b c i hi, go_1b p (by omega) hi]
    by_cases e : i = p
    · rw [e, go_us, decide_eq_true (rfl : p = p), Bool.or_true, decide_eq_true hp]; rfl
    · rw [decide_eq_false e, Bool.or_false, go_un (by omega)]
  · intro j hj
    exact go_un (by omega)
theorem go_Mclr (b : Nat → Bool) (c p : Nat) (hp : p < 16) : upd (go_M b) c (go_M b c &&& (((1 : Int32) <<< (nI p &&& 31)) ^^^ (-1))) = go_M (go_up b (c * 16 + p) false) := by
  apply go_Mu
  · intro i hi
    rw [b_and, b_xor, b_m1 i hi, go_Mb b c i hi, go_1b p (by omega) hi]
    by_cases e : i = p
    · rw [e, go_us, decide_eq_true (rfl : p = p), Bool.and_false]
      exact Bool.and_false _
    · rw [decide_eq_false e, go_un (by omega)]
      exact Bool.and_true _
  · intro j hj
    exact go_un (by omega)
theorem go_Mz (b : Nat → Bool) (c : Nat) : upd (go_M b) c 0 = go_M (go_z b false (c * 16) (c * 16 + 16)) := by
  apply go_Mu
  · intro i hi
    rw [b_0]
    by_cases e : i < 16
    · rw [show go_z b false (c * 16) (c * 16 + 16) (c * 16 + i) = false from if_pos (by omega), Bool.and_false]
    · rw [decide_eq_false e, Bool.false_and]
  · intro j hj
    exact if_neg (by omega)
theorem go_M0 (b : Nat → Bool) (c : Nat) : go_M b c = 0 ↔ ∀ p, p < 16 → b (c * 16 + p) = false := by
  constructor
  · intro h p hp
    have e := go_Mb b c p (by omega)
    rw [h, b_0, decide_eq_true hp, Bool.true_and] at e
    exact e.symm
  · intro h
    apply b_ext
    intro i hi
    rw [go_Mb b c i hi, b_0]
    by_cases e : i < 16
    · rw [h i e, Bool.and_false]
    · rw [decide_eq_false e, Bool.false_and]
theorem go_Mt (b : Nat → Bool) (c p : Nat) (hp : p < 16) : (go_M b c &&& ((1 : Int32) <<< (nI p &&& 31))) = 0 ↔ b (c * 16 + p) = false := by
  rw [go_bit _ p (by omega), go_Mb b c p (by omega), decide_eq_true hp, Bool.true_and]
theorem go_16 {x : Int32} (h : ∀ i, 16 ≤ i → i < 32 → bt x i = false) : ∃ m, m < 65536 ∧ x = nI m := by
  have e : x = x &&& 65535 := by
    apply b_ext
    intro i hi
    rw [b_and, b_65535]
    by_cases g : i < 16
    · rw [decide_eq_true g, Bool.and_true]
    · rw [decide_eq_false g, Bool.and_false]
      exact h i (by omega) hi
  obtain ⟨j, hj, ej⟩ := pk_andE x (m := 65535) 16 (by decide)
  exact ⟨j, Nat.lt_of_lt_of_le hj (by decide), e.trans ej⟩
theorem go_n16 {m : Nat} (hm : m < 65536) {i : Nat} (h1 : 16 ≤ i) : bt (nI m) i = false := by
  have e := pk_andN (n := m) (by omega) (m := 65535) 16 (by decide)
  rw [Nat.mod_eq_of_lt (show m < 2 ^ 16 from hm)] at e
  rw [← e, b_and, b_65535, decide_eq_false (by omega), Bool.and_false]
theorem go_Mn (b : Nat → Bool) (c : Nat) : ∃ m, m < 65536 ∧ go_M b c = nI m := go_16 (fun i h1 h2 => by rw [go_Mb b c i h2, decide_eq_false (by omega), Bool.false_and])
theorem go_or (a b : Nat) : nI a ||| nI b = nI (a ||| b) := by
  apply Int32.toBitVec_inj.1
  show BitVec.ofNat 32 a ||| BitVec.ofNat 32 b = BitVec.ofNat 32 (a ||| b)
  exact BitVec.ofNat_or.symm
theorem go_code (k x y a : Nat) (hk0 : 0 < k) (hk : k < 128) (hx : x < 16) (hy : y < 16) (ha : a < 65536) : ∃ c, 0 < c ∧ c < 2 ^ 31 ∧ (((nI k <<< ((24 : Int32) &&& 31)) ||| (nI x <<< ((20 : Int32) &&& 31))) ||| (nI y <<< ((16 : Int32) &&& 31))) ||| nI a = nI c := by
  rw [pk_shlN (n := k) ((24 : Int32) &&& 31) 24 (by decide) (by omega), pk_shlN (n := x) ((20 : Int32) &&& 31) 20 (by decide) (by omega), pk_shlN (n := y) ((16 : Int32) &&& 31) 16 (by decide) (by omega), go_or, go_or, go_or]
  refine ⟨_, ?_, ?_, rfl⟩
  · exact Nat.lt_of_lt_of_le (show 0 < k * 2 ^ 24 by omega) (Nat.le_trans Nat.left_le_or (Nat.le_trans Nat.left_le_or Nat.left_le_or))
  · exact Nat.or_lt_two_pow (Nat.or_lt_two_pow (Nat.or_lt_two_pow (by omega) (by omega)) (by omega)) (by omega)
theorem go_fj (w t : Nat) (hw : w < 16) (ht : t < 16) : ∃ a, a < 65536 ∧ nI w ||| (nI t <<< ((4 : Int32) &&& 31)) = nI a := by
  rw [pk_shlN (n := t) ((4 : Int32) &&& 31) 4 (by decide) (by omega), go_or]
  exact ⟨_, Nat.or_lt_two_pow (n := 16) (by omega) (by omega), rfl⟩
theorem go_j48 (w : Nat) (hw : w < 16) : ∃ a, a < 65536 ∧ nI w ||| 48 = nI a := ⟨_, Nat.or_lt_two_pow (n := 16) (y := 48) (by omega) (by omega), go_or w 48⟩
def go_w (f : Nat → Nat) (s : Nat) : Nat → Int32
  | 0 => 0
  | k + 1 => go_w f s k ||| ((1 : Int32) <<< (nI (f (s + k)) &&& 31))
theorem go_w16 {f : Nat → Nat} (hf : ∀ j, f j < 16) (s : Nat) : ∀ k i, 16 ≤ i → i < 32 → bt (go_w f s k) i = false := by
  intro k
  induction k with
  | zero => intro i _ _; exact b_0 i
  | succ k ih =>
    intro i h1 h2
    have := hf (s + k)
    show bt (go_w f s k ||| ((1 : Int32) <<< (nI (f (s + k)) &&& 31))) i = false
    rw [b_or, ih i h1 h2, go_1b _ (by omega) h2, decide_eq_false (by omega)]
    rfl
theorem go_oz (x : Int32) : 0 ||| x = x := b_ext fun i _ => by rw [b_or, b_0, Bool.false_or]
theorem go_zo (x : Int32) : x ||| 0 = x := b_ext fun i _ => by rw [b_or, b_0, Bool.or_false]
theorem go_oa (x y z : Int32) : (x ||| y) ||| z = x ||| (y ||| z) := b_ext fun i _ => by rw [b_or, b_or, b_or, b_or, Bool.or_assoc]
theorem go_oc (x y : Int32) : x ||| y = y ||| x := b_ext fun i _ => by rw [b_or, b_or, Bool.or_comm]
theorem go_first (p : Nat → Prop) (l : Nat) : (∀ i, i < l → ¬ p i) ∨ ∃ i, i < l ∧ p i ∧ ∀ j, j < i → ¬ p j := by
  induction l with
  | zero => exact Or.inl (fun i hi => absurd hi (by omega))
  | succ l ih =>
    rcases ih with h | ⟨i, hi, hp, hj⟩
    · by_cases g : p l
      · exact Or.inr ⟨l, by omega, g, h⟩
      · refine Or.inl (fun i hi => ?_)
        by_cases e : i = l
        · rw [e]; exact g
        · exact h i (by omega)
    · exact Or.inr ⟨i, by omega, hp, hj⟩
/-! the pool -/
def go_S (U : Nat → Bool) (C : Nat → Nat) : Nat → Int32 := fun s => cond (U s) (nI (C s)) 0
def go_IS (U : Nat → Bool) (C : Nat → Nat) : Prop := ∀ s, C s < 2 ^ 31 ∧ (U s = true → 0 < C s)
theorem go_St (U : Nat → Bool) (C : Nat → Nat) (s c : Nat) : upd (go_S U C) s (nI c) = go_S (go_up U s true) (go_up C s c) := by
  funext j
  unfold upd go_S go_up
  split <;> rfl
theorem go_Sf (U : Nat → Bool) (C : Nat → Nat) (s : Nat) : upd (go_S U C) s 0 = go_S (go_up U s false) C := by
  funext j
  unfold upd go_S go_up
  split <;> rfl
theorem go_S0 {U : Nat → Bool} {C : Nat → Nat} (I : go_IS U C) {e : Int32} (s : Nat) (he : e = nI s := by rfl) (hs : s < 2 ^ 31 := by omega) : go_S U C e.toNatClampNeg = 0 ↔ U s = false := by
  subst he
  rw [nI_clamp hs]
  unfold go_S
  obtain ⟨h1, h2⟩ := I s
  cases h : U s with
  | false => exact ⟨fun _ => rfl, fun _ => rfl⟩
  | true => exact ⟨fun z => absurd z (nI_ne0 (h2 h) h1), fun z => nomatch z⟩
theorem go_ISt {U : Nat → Bool} {C : Nat → Nat} (I : go_IS U C) (s c : Nat) (h0 : 0 < c) (hc : c < 2 ^ 31) : go_IS (go_up U s true) (go_up C s c) := by
  intro j
  by_cases e : j = s
  · rw [e, go_us, go_us]; exact ⟨hc, fun _ => h0⟩
  · rw [go_un e, go_un e]; exact I j
theorem go_ISf {U : Nat → Bool} {C : Nat → Nat} (I : go_IS U C) (s : Nat) : go_IS (go_up U s false) C := by
  intro j
  by_cases e : j = s
  · rw [e, go_us]; exact ⟨(I s).1, fun z => nomatch z⟩
  · rw [go_un e]; exact I j
