/-! messages in the pool, by their codes -/
def go_cd (k x y a : Nat) : Nat := k * 16777216 + x * 1048576 + y * 65536 + a
theorem go_cdI (k x y a : Nat) (hk : k < 128) (hx : x < 16) (hy : y < 16) (ha : a < 65536) : (((nI k <<< ((24 : Int32) &&& 31)) ||| (nI x <<< ((20 : Int32) &&& 31))) ||| (nI y <<< ((16 : Int32) &&& 31))) ||| nI a = nI (go_cd k x y a) := by
  rw [pk_shlN (n := k) ((24 : Int32) &&& 31) 24 (by decide) (by omega), pk_shlN (n := x) ((20 : Int32) &&& 31) 20 (by decide) (by omega), pk_shlN (n := y) ((16 : Int32) &&& 31) 16 (by decide) (by omega), go_or, go_or, go_or]
  have e1 : k * 2 ^ 24 ||| x * 2 ^ 20 = 2 ^ 20 * (k * 16 + x) := by
    have h := Nat.two_pow_add_eq_or_of_lt (i := 24) (b := x * 2 ^ 20) (by omega) k
    rw [Nat.mul_comm k, ← h]
    omega
  have e2 : 2 ^ 20 * (k * 16 + x) ||| y * 2 ^ 16 = 2 ^ 16 * ((k * 16 + x) * 16 + y) := by
    have h := Nat.two_pow_add_eq_or_of_lt (i := 20) (b := y * 2 ^ 16) (by omega) (k * 16 + x)
    rw [← h]
    omega
  have e3 : 2 ^ 16 * ((k * 16 + x) * 16 + y) ||| a = go_cd k x y a := by
    have h := Nat.two_pow_add_eq_or_of_lt (i := 16) (b := a) (by omega) ((k * 16 + x) * 16 + y)
    rw [← h]
    unfold go_cd
    omega
  rw [e1, e2, e3]
theorem go_cdb {k x y a : Nat} (hk0 : 0 < k) (hk : k < 128) (hx : x < 16) (hy : y < 16) (ha : a < 65536) : 0 < go_cd k x y a ∧ go_cd k x y a < 2 ^ 31 ∧ go_cd k x y a / 2 ^ 24 = k ∧ go_cd k x y a / 2 ^ 20 % 2 ^ 4 = x ∧ go_cd k x y a / 2 ^ 16 % 2 ^ 4 = y ∧ go_cd k x y a % 2 ^ 16 = a := by
  unfold go_cd
  omega
theorem go_lowb {c b : Nat} (hc : c < 2 ^ 31) (hb : b < 16) : bt (nI (c % 2 ^ 16)) b = bt (nI c) b := by
  rw [← go_d0 hc, b_and, b_65535, decide_eq_true hb, Bool.and_true]
def go_pe (U : Nat → Bool) (C : Nat → Nat) (lo : Nat) (U' : Nat → Bool) (C' : Nat → Nat) (lo' : Nat) (N : Nat → Prop) : Prop := (∀ s, U s = true → U' s = true ∧ C' s = C s) ∧ (∀ s, U' s = true → (U s = true ∧ C' s = C s) ∨ N (C' s)) ∧ lo ≤ lo'
theorem go_pe0 (U : Nat → Bool) (C : Nat → Nat) (lo : Nat) (N : Nat → Prop) : go_pe U C lo U C lo N := ⟨fun _ h => ⟨h, rfl⟩, fun _ h => Or.inl ⟨h, rfl⟩, Nat.le_refl _⟩
theorem go_pet {U U1 U2 : Nat → Bool} {C C1 C2 : Nat → Nat} {lo lo1 lo2 : Nat} {N : Nat → Prop} (h1 : go_pe U C lo U1 C1 lo1 N) (h2 : go_pe U1 C1 lo1 U2 C2 lo2 N) : go_pe U C lo U2 C2 lo2 N := by
  refine ⟨fun s h => ?_, fun s h => ?_, Nat.le_trans h1.2.2 h2.2.2⟩
  · obtain ⟨a, b⟩ := h1.1 s h
    obtain ⟨c, d⟩ := h2.1 s a
    exact ⟨c, d.trans b⟩
  · rcases h2.2.1 s h with ⟨a, b⟩ | a
    · rcases h1.2.1 s a with ⟨c, d⟩ | c
      · exact Or.inl ⟨c, b.trans d⟩
      · rw [← b] at c; exact Or.inr c
    · exact Or.inr a
theorem go_pew {U U1 : Nat → Bool} {C C1 : Nat → Nat} {lo lo1 : Nat} {N N' : Nat → Prop} (h : go_pe U C lo U1 C1 lo1 N) (w : ∀ c, N c → N' c) : go_pe U C lo U1 C1 lo1 N' := ⟨h.1, fun s q => (h.2.1 s q).imp id (w _), h.2.2⟩
def go_hs (U : Nat → Bool) (C : Nat → Nat) (k x y b : Nat) : Prop := ∃ s, s < 64 ∧ U s = true ∧ C s / 2 ^ 24 = k ∧ C s / 2 ^ 20 % 2 ^ 4 = x ∧ C s / 2 ^ 16 % 2 ^ 4 = y ∧ bt (nI (C s)) b = true
theorem go_hsp {U U1 : Nat → Bool} {C C1 : Nat → Nat} {lo lo1 : Nat} {N : Nat → Prop} (h : go_pe U C lo U1 C1 lo1 N) {k x y b : Nat} (g : go_hs U C k x y b) : go_hs U1 C1 k x y b := by
  obtain ⟨s, hs, hU, h1, h2, h3, h4⟩ := g
  obtain ⟨a, e⟩ := h.1 s hU
  exact ⟨s, hs, a, by rw [e]; exact h1, by rw [e]; exact h2, by rw [e]; exact h3, by rw [e]; exact h4⟩
def go_gt (U : Nat → Bool) (C : Nat → Nat) (c : Nat) : Prop := ∃ s, s < 64 ∧ U s = true ∧ C s = c
theorem go_gtp {U U1 : Nat → Bool} {C C1 : Nat → Nat} {lo lo1 : Nat} {N : Nat → Prop} (h : go_pe U C lo U1 C1 lo1 N) {c : Nat} (g : go_gt U C c) : go_gt U1 C1 c := by
  obtain ⟨s, hs, hU, h1⟩ := g
  obtain ⟨a, e⟩ := h.1 s hU
  exact ⟨s, hs, a, e.trans h1⟩
theorem go_gth {U : Nat → Bool} {C : Nat → Nat} {k x y a b : Nat} (hk0 : 0 < k) (hk : k < 128) (hx : x < 16) (hy : y < 16) (ha : a < 65536) (hb : b < 16) (hab : bt (nI a) b = true) (g : go_gt U C (go_cd k x y a)) : go_hs U C k x y b := by
  obtain ⟨s, hs, hU, h1⟩ := g
  obtain ⟨q0, q1, q2, q3, q4, q5⟩ := go_cdb hk0 hk hx hy ha
  refine ⟨s, hs, hU, by rw [h1]; exact q2, by rw [h1]; exact q3, by rw [h1]; exact q4, ?_⟩
  rw [h1, ← go_lowb q1 hb, q5]
  exact hab
/-- a GOSSIP tells only ids that its sender has delivered -/
def go_ms (D : Nat → Bool) (c : Nat) : Prop := c / 2 ^ 24 = 9 → ∀ b, b < 16 → bt (nI c) b = true → D (c / 2 ^ 20 % 2 ^ 4 * 16 + b) = true
theorem go_msn {D : Nat → Bool} {k x y a : Nat} (hk0 : 0 < k) (hk : k < 128) (hx : x < 16) (hy : y < 16) (ha : a < 65536) (h9 : k ≠ 9) : go_ms D (go_cd k x y a) := fun q => absurd q (by rw [(go_cdb hk0 hk hx hy ha).2.2.1]; exact h9)
theorem go_ms9 {D : Nat → Bool} {x y a : Nat} (hx : x < 16) (hy : y < 16) (ha : a < 65536) (h : ∀ b, b < 16 → bt (nI a) b = true → D (x * 16 + b) = true) : go_ms D (go_cd 9 x y a) := by
  obtain ⟨q0, q1, q2, q3, q4, q5⟩ := go_cdb (k := 9) (by omega) (by omega) hx hy ha
  intro _ b hb hbt
  rw [q3]
  refine h b hb ?_
  rw [← q5, go_lowb q1 hb]
  exact hbt
theorem go_msm {D D' : Nat → Bool} (h : ∀ j, D j = true → D' j = true) {c : Nat} (g : go_ms D c) : go_ms D' c := fun q b hb hbt => h _ (g q b hb hbt)
def go_lk (A La : Nat → Nat) (x y : Nat) : Prop := ∃ i, i < La x ∧ A (x * 4 + i) = y
def go_ok (D W : Nat → Bool) (T : Nat → Nat) (U : Nat → Bool) (C : Nat → Nat) (x y b : Nat) : Prop := D (y * 16 + b) = true ∨ go_hs U C 9 x y b ∨ go_hs U C 10 x y b ∨ (W ((y * 16 + b) * 16 + x) = true ∧ 0 < T (y * 16 + b)) ∨ go_hs U C 11 y x b
def go_inv (al : Nat → Bool) (A La : Nat → Nat) (D W : Nat → Bool) (T : Nat → Nat) (U : Nat → Bool) (C : Nat → Nat) : Prop := ∀ x y b, x < 16 → y < 16 → b < 16 → al x = true → al y = true → go_lk A La x y → D (x * 16 + b) = true → go_ok D W T U C x y b
theorem go_okp {D W : Nat → Bool} {T : Nat → Nat} {U U1 : Nat → Bool} {C C1 : Nat → Nat} {lo lo1 x y b : Nat} {N : Nat → Prop} (h : go_pe U C lo U1 C1 lo1 N) (g : go_ok D W T U C x y b) : go_ok D W T U1 C1 x y b := by
  rcases g with g | g | g | g | g
  · exact Or.inl g
  · exact Or.inr (Or.inl (go_hsp h g))
  · exact Or.inr (Or.inr (Or.inl (go_hsp h g)))
  · exact Or.inr (Or.inr (Or.inr (Or.inl g)))
  · exact Or.inr (Or.inr (Or.inr (Or.inr (go_hsp h g))))
theorem go_ivp {al : Nat → Bool} {A La : Nat → Nat} {D W : Nat → Bool} {T : Nat → Nat} {U U1 : Nat → Bool} {C C1 : Nat → Nat} {lo lo1 : Nat} {N : Nat → Prop} (h : go_pe U C lo U1 C1 lo1 N) (g : go_inv al A La D W T U C) : go_inv al A La D W T U1 C1 := fun x y b hx hy hb ax ay l d => go_okp h (g x y b hx hy hb ax ay l d)
theorem go_ivl {al : Nat → Bool} {A La A1 La1 : Nat → Nat} {D W : Nat → Bool} {T : Nat → Nat} {U : Nat → Bool} {C : Nat → Nat} (h : ∀ x y, go_lk A1 La1 x y → go_lk A La x y) (g : go_inv al A La D W T U C) : go_inv al A1 La1 D W T U C := fun x y b hx hy hb ax ay l d => g x y b hx hy hb ax ay (h x y l) d
theorem go_lkr {ac : Nat} {A La : Nat → Nat} {x i0 : Nat} (hc : ac ≤ 4) (I : go_IV4 ac A La) (hi : i0 < La x) (z y : Nat) (h : go_lk (go_sh A (x * 4 + i0) (x * 4 + (La x - 1))) (go_up La x (La x - 1)) z y) : go_lk A La z y := by
  obtain ⟨i, h1, h2⟩ := h
  by_cases e : z = x
  · rw [e] at h1 h2 ⊢
    rw [go_us] at h1
    rw [go_rm4_at hi h1] at h2
    exact ⟨_, by split <;> omega, h2⟩
  · rw [go_un e] at h1
    have := I.2.1 z
    have := I.2.1 x
    rw [go_rm4_o (by omega) (by omega) e] at h2
    exact ⟨i, h1, h2⟩
theorem go_lka {ac : Nat} {A La : Nat → Nat} {x y : Nat} (hc : ac ≤ 4) (I : go_IV4 ac A La) (hl : La x < ac) (z w : Nat) (h : go_lk (go_up A (x * 4 + La x) y) (go_up La x (La x + 1)) z w) : go_lk A La z w ∨ (z = x ∧ w = y) := by
  obtain ⟨i, h1, h2⟩ := h
  by_cases e : z = x
  · rw [e] at h1 h2 ⊢
    rw [go_us] at h1
    by_cases g : i = La x
    · rw [g, go_us] at h2
      exact Or.inr ⟨rfl, h2.symm⟩
    · rw [go_un (by omega)] at h2
      exact Or.inl ⟨i, by omega, h2⟩
  · rw [go_un e] at h1
    have := I.2.1 z
    rw [go_un (by omega)] at h2
    exact Or.inl ⟨i, h1, h2⟩
