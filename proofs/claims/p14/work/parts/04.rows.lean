/-! stores over a row's chosen ids: v at every x * 16 + i, i < b, with bit i in g -/
def go_ov {α : Type} (f : Nat → α) (v : α) (x : Nat) (g : Int32) (b : Nat) : Nat → α := fun j => if x * 16 ≤ j ∧ j < x * 16 + b ∧ bt g (j - x * 16) = true then v else f j
theorem go_ov0 {α : Type} (f : Nat → α) (v : α) (x : Nat) (g : Int32) : go_ov f v x g 0 = f := funext fun j => if_neg (fun h => absurd h.2.1 (by have := h.1; omega))
theorem go_ovt {α : Type} (f : Nat → α) (v : α) (x : Nat) {g : Int32} {b : Nat} (h : bt g b = true) : go_up (go_ov f v x g b) (x * 16 + b) v = go_ov f v x g (b + 1) := by
  funext j
  unfold go_up go_ov
  by_cases e : j = x * 16 + b
  · rw [if_pos e, if_pos ⟨by omega, by omega, by rw [e, Nat.add_sub_cancel_left]; exact h⟩]
  · rw [if_neg e]
    by_cases q : x * 16 ≤ j ∧ j < x * 16 + b ∧ bt g (j - x * 16) = true
    · rw [if_pos q, if_pos ⟨q.1, by have := q.2.1; omega, q.2.2⟩]
    · rw [if_neg q, if_neg (fun z => q ⟨z.1, by have := z.2.1; omega, z.2.2⟩)]
theorem go_ovf {α : Type} (f : Nat → α) (v : α) (x : Nat) {g : Int32} {b : Nat} (h : bt g b = false) : go_ov f v x g b = go_ov f v x g (b + 1) := by
  funext j
  unfold go_ov
  by_cases q : x * 16 ≤ j ∧ j < x * 16 + b ∧ bt g (j - x * 16) = true
  · rw [if_pos q, if_pos ⟨q.1, by have := q.2.1; omega, q.2.2⟩]
  · rw [if_neg q, if_neg]
    intro z
    by_cases e : j = x * 16 + b
    · have w := z.2.2
      rw [e, Nat.add_sub_cancel_left, h] at w
      exact absurd w (by decide)
    · exact q ⟨z.1, by have := z.2.1; omega, z.2.2⟩
def go_oW (f : Nat → Bool) (x : Nat) (g : Int32) (b : Nat) : Nat → Bool := fun j => if x * 16 ≤ j / 16 ∧ j / 16 < x * 16 + b ∧ bt g (j / 16 - x * 16) = true then false else f j
theorem go_oW0 (f : Nat → Bool) (x : Nat) (g : Int32) : go_oW f x g 0 = f := funext fun j => if_neg (fun h => absurd h.2.1 (by have := h.1; omega))
theorem go_oWt (f : Nat → Bool) (x : Nat) {g : Int32} {b : Nat} (h : bt g b = true) : go_z (go_oW f x g b) false ((x * 16 + b) * 16) ((x * 16 + b) * 16 + 16) = go_oW f x g (b + 1) := by
  funext j
  unfold go_z go_oW
  by_cases e : j / 16 = x * 16 + b
  · rw [if_pos (by omega), if_pos ⟨by omega, by omega, by rw [e, Nat.add_sub_cancel_left]; exact h⟩]
  · rw [if_neg (by omega)]
    by_cases q : x * 16 ≤ j / 16 ∧ j / 16 < x * 16 + b ∧ bt g (j / 16 - x * 16) = true
    · rw [if_pos q, if_pos ⟨q.1, by have := q.2.1; omega, q.2.2⟩]
    · rw [if_neg q, if_neg (fun z => q ⟨z.1, by have := z.2.1; omega, z.2.2⟩)]
theorem go_oWf (f : Nat → Bool) (x : Nat) {g : Int32} {b : Nat} (h : bt g b = false) : go_oW f x g b = go_oW f x g (b + 1) := by
  funext j
  unfold go_oW
  by_cases q : x * 16 ≤ j / 16 ∧ j / 16 < x * 16 + b ∧ bt g (j / 16 - x * 16) = true
  · rw [if_pos q, if_pos ⟨q.1, by have := q.2.1; omega, q.2.2⟩]
  · rw [if_neg q, if_neg]
    intro z
    by_cases e : j / 16 = x * 16 + b
    · have w := z.2.2
      rw [e, Nat.add_sub_cancel_left, h] at w
      exact absurd w (by decide)
    · exact q ⟨z.1, by have := z.2.1; omega, z.2.2⟩
theorem go_Dor (D : Nat → Bool) (x : Nat) (g : Int32) (hg : ∀ i, 16 ≤ i → i < 32 → bt g i = false) : upd (go_M D) x (go_M D x ||| g) = go_M (go_ov D true x g 16) := by
  apply go_Mu
  · intro i hi
    rw [b_or, go_Mb D x i hi]
    unfold go_ov
    by_cases h16 : i < 16
    · cases hb : bt g i with
      | true =>
        rw [if_pos ⟨by omega, by omega, by rw [Nat.add_sub_cancel_left]; exact hb⟩, Bool.or_true, decide_eq_true h16]; rfl
      | false =>
        rw [if_neg, Bool.or_false]
        intro z
        have w := z.2.2
        rw [Nat.add_sub_cancel_left, hb] at w
        exact absurd w (by decide)
    · rw [decide_eq_false h16, Bool.false_and, Bool.false_and, Bool.false_or]
      exact hg i (by omega) hi
  · intro j hj
    exact if_neg (fun z => by have := z.1; have := z.2.1; omega)
theorem go_and16 {a : Nat} (ha : a < 65536) (z : Int32) : (nI a &&& z) &&& 65535 = nI a &&& z := by
  apply b_ext
  intro i hi
  rw [b_and, b_and, b_65535]
  by_cases h : i < 16
  · rw [decide_eq_true h, Bool.and_true]
  · rw [go_n16 ha (by omega), Bool.false_and, Bool.false_and]
theorem go_and16n {a : Nat} (ha : a < 65536) (z : Int32) : ∃ g, g < 65536 ∧ nI a &&& z = nI g := go_16 (fun i h1 _ => by rw [b_and, go_n16 ha h1, Bool.false_and])
theorem go_bm (m b : Nat) (hb : b < 16) : (nI m &&& ((1 : Int32) <<< (nI b &&& 31))) = 0 ↔ bt (nI m) b = false := go_bit _ b (by omega)
theorem go_1n (b : Nat) (hb : b < 16) : ∃ a, 0 < a ∧ a < 65536 ∧ (1 : Int32) <<< (nI b &&& 31) = nI a := by
  obtain ⟨a, h1, h2⟩ := go_16 (x := (1 : Int32) <<< (nI b &&& 31)) (fun i h1 h2 => by rw [go_1b b (by omega) h2, decide_eq_false (by omega)])
  refine ⟨a, ?_, h1, h2⟩
  rcases Nat.eq_zero_or_pos a with h | h
  · exfalso
    have e := go_1b b (by omega) (i := b) (by omega)
    rw [h2, h, nI_0, b_0] at e
    simp at e
  · exact h
