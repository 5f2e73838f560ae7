def go_IV4 (cap : Nat) (A L : Nat → Nat) : Prop := (∀ j, A j < 16) ∧ (∀ x, L x ≤ cap) ∧ (∀ x i j, i < j → j < L x → A (x * 4 + i) ≠ A (x * 4 + j))
theorem go_rm4_at {A : Nat → Nat} {x l i0 : Nat} (hi : i0 < l) {t : Nat} (ht : t < l - 1) : go_sh A (x * 4 + i0) (x * 4 + (l - 1)) (x * 4 + t) = A (x * 4 + (if t < i0 then t else t + 1)) := by
  unfold go_sh
  by_cases g : t < i0
  · rw [if_neg (by omega), if_pos g]
  · rw [if_pos (by omega), if_neg g]; rfl
theorem go_rm4_o {A : Nat → Nat} {x z l i0 i : Nat} (hl : l ≤ 4) (hi : i < 4) (h : z ≠ x) : go_sh A (x * 4 + i0) (x * 4 + (l - 1)) (z * 4 + i) = A (z * 4 + i) := if_neg (by omega)
theorem go_rm4 {cap : Nat} {A L : Nat → Nat} {x i0 : Nat} (hc : cap ≤ 4) (I : go_IV4 cap A L) (hi : i0 < L x) : go_IV4 cap (go_sh A (x * 4 + i0) (x * 4 + (L x - 1))) (go_up L x (L x - 1)) := by
  obtain ⟨h1, h2, h3⟩ := I
  have hl := h2 x
  refine ⟨?_, ?_, ?_⟩
  · intro j
    unfold go_sh
    split
    · exact h1 _
    · exact h1 _
  · intro z
    by_cases e : z = x
    · rw [e, go_us]; omega
    · rw [go_un e]; exact h2 z
  · intro z i j hij hj
    by_cases e : z = x
    · rw [e, go_us] at hj
      rw [e, go_rm4_at hi (by omega), go_rm4_at hi hj]
      refine h3 x _ _ ?_ ?_
      · split <;> split <;> omega
      · split <;> omega
    · rw [go_un e] at hj
      have hz := h2 z
      rw [go_rm4_o (by omega) (by omega) e, go_rm4_o (by omega) (by omega) e]
      exact h3 z i j hij hj
theorem go_ap4 {cap : Nat} {A L : Nat → Nat} {x y : Nat} (hc : cap ≤ 4) (I : go_IV4 cap A L) (hl : L x < cap) (hy : y < 16) (hn : ∀ i, i < L x → A (x * 4 + i) ≠ y) : go_IV4 cap (go_up A (x * 4 + L x) y) (go_up L x (L x + 1)) := by
  obtain ⟨h1, h2, h3⟩ := I
  refine ⟨?_, ?_, ?_⟩
  · intro j
    by_cases e : j = x * 4 + L x
    · rw [e, go_us]; exact hy
    · rw [go_un e]; exact h1 j
  · intro z
    by_cases e : z = x
    · rw [e, go_us]; omega
    · rw [go_un e]; exact h2 z
  · intro z i j hij hj
    by_cases e : z = x
    · rw [e, go_us] at hj
      rw [e, go_un (show x * 4 + i ≠ x * 4 + L x by omega)]
      by_cases g : j = L x
      · rw [g, go_us]; exact hn i (by omega)
      · rw [go_un (show x * 4 + j ≠ x * 4 + L x by omega)]; exact h3 x i j hij (by omega)
    · rw [go_un e] at hj
      have hz := h2 z
      rw [go_un (show z * 4 + i ≠ x * 4 + L x by omega), go_un (show z * 4 + j ≠ x * 4 + L x by omega)]
      exact h3 z i j hij hj
theorem go_cl4 {cap : Nat} {A L : Nat → Nat} (I : go_IV4 cap A L) (x : Nat) : go_IV4 cap A (go_up L x 0) := by
  obtain ⟨h1, h2, h3⟩ := I
  refine ⟨h1, ?_, ?_⟩
  · intro z
    by_cases e : z = x
    · rw [e, go_us]; omega
    · rw [go_un e]; exact h2 z
  · intro z i j hij hj
    by_cases e : z = x
    · rw [e, go_us] at hj; omega
    · rw [go_un e] at hj; exact h3 z i j hij hj
def go_IV8 (cap : Nat) (A L : Nat → Nat) : Prop := (∀ j, A j < 16) ∧ (∀ x, L x ≤ cap) ∧ (∀ x i j, i < j → j < L x → A (x * 8 + i) ≠ A (x * 8 + j))
theorem go_rm8_at {A : Nat → Nat} {x l i0 : Nat} (hi : i0 < l) {t : Nat} (ht : t < l - 1) : go_sh A (x * 8 + i0) (x * 8 + (l - 1)) (x * 8 + t) = A (x * 8 + (if t < i0 then t else t + 1)) := by
  unfold go_sh
  by_cases g : t < i0
  · rw [if_neg (by omega), if_pos g]
  · rw [if_pos (by omega), if_neg g]; rfl
theorem go_rm8_o {A : Nat → Nat} {x z l i0 i : Nat} (hl : l ≤ 8) (hi : i < 8) (h : z ≠ x) : go_sh A (x * 8 + i0) (x * 8 + (l - 1)) (z * 8 + i) = A (z * 8 + i) := if_neg (by omega)
theorem go_rm8 {cap : Nat} {A L : Nat → Nat} {x i0 : Nat} (hc : cap ≤ 8) (I : go_IV8 cap A L) (hi : i0 < L x) : go_IV8 cap (go_sh A (x * 8 + i0) (x * 8 + (L x - 1))) (go_up L x (L x - 1)) := by
  obtain ⟨h1, h2, h3⟩ := I
  have hl := h2 x
  refine ⟨?_, ?_, ?_⟩
  · intro j
    unfold go_sh
    split
    · exact h1 _
    · exact h1 _
  · intro z
    by_cases e : z = x
    · rw [e, go_us]; omega
    · rw [go_un e]; exact h2 z
  · intro z i j hij hj
    by_cases e : z = x
    · rw [e, go_us] at hj
      rw [e, go_rm8_at hi (by omega), go_rm8_at hi hj]
      refine h3 x _ _ ?_ ?_
      · split <;> split <;> omega
      · split <;> omega
    · rw [go_un e] at hj
      have hz := h2 z
      rw [go_rm8_o (by omega) (by omega) e, go_rm8_o (by omega) (by omega) e]
      exact h3 z i j hij hj
theorem go_ap8 {cap : Nat} {A L : Nat → Nat} {x y : Nat} (hc : cap ≤ 8) (I : go_IV8 cap A L) (hl : L x < cap) (hy : y < 16) (hn : ∀ i, i < L x → A (x * 8 + i) ≠ y) : go_IV8 cap (go_up A (x * 8 + L x) y) (go_up L x (L x + 1)) := by
  obtain ⟨h1, h2, h3⟩ := I
  refine ⟨?_, ?_, ?_⟩
  · intro j
    by_cases e : j = x * 8 + L x
    · rw [e, go_us]; exact hy
    · rw [go_un e]; exact h1 j
  · intro z
    by_cases e : z = x
    · rw [e, go_us]; omega
    · rw [go_un e]; exact h2 z
  · intro z i j hij hj
    by_cases e : z = x
    · rw [e, go_us] at hj
      rw [e, go_un (show x * 8 + i ≠ x * 8 + L x by omega)]
      by_cases g : j = L x
      · rw [g, go_us]; exact hn i (by omega)
      · rw [go_un (show x * 8 + j ≠ x * 8 + L x by omega)]; exact h3 x i j hij (by omega)
    · rw [go_un e] at hj
      have hz := h2 z
      rw [go_un (show z * 8 + i ≠ x * 8 + L x by omega), go_un (show z * 8 + j ≠ x * 8 + L x by omega)]
      exact h3 z i j hij hj
theorem go_cl8 {cap : Nat} {A L : Nat → Nat} (I : go_IV8 cap A L) (x : Nat) : go_IV8 cap A (go_up L x 0) := by
  obtain ⟨h1, h2, h3⟩ := I
  refine ⟨h1, ?_, ?_⟩
  · intro z
    by_cases e : z = x
    · rw [e, go_us]; omega
    · rw [go_un e]; exact h2 z
  · intro z i j hij hj
    by_cases e : z = x
    · rw [e, go_us] at hj; omega
    · rw [go_un e] at hj; exact h3 z i j hij hj
/-- the eager set is a part of the active view -/
def go_IE (A L : Nat → Nat) (E : Nat → Bool) : Prop := ∀ x p, p < 16 → E (x * 16 + p) = true → ∃ i, i < L x ∧ A (x * 4 + i) = p
theorem go_rmE {cap : Nat} {A L : Nat → Nat} {E : Nat → Bool} {x y i0 : Nat} (hc : cap ≤ 4) (I : go_IV4 cap A L) (J : go_IE A L E) (hi : i0 < L x) (hy : A (x * 4 + i0) = y) : go_IE (go_sh A (x * 4 + i0) (x * 4 + (L x - 1))) (go_up L x (L x - 1)) (go_up E (x * 16 + y) false) := by
  have hl := I.2.1 x
  have hy16 : y < 16 := by rw [← hy]; exact I.1 _
  intro z p hp hE
  by_cases e : z = x
  · rw [e] at hE ⊢
    by_cases g : p = y
    · rw [g, go_us] at hE; exact absurd hE (by decide)
    · rw [go_un (show x * 16 + p ≠ x * 16 + y by omega)] at hE
      obtain ⟨i, h1, h2⟩ := J x p hp hE
      rw [go_us]
      have hne : i ≠ i0 := fun q => g (by rw [← h2, q, hy])
      by_cases d : i < i0
      · refine ⟨i, by omega, ?_⟩
        rw [go_rm4_at hi (by omega), if_pos d]; exact h2
      · refine ⟨i - 1, by omega, ?_⟩
        rw [go_rm4_at hi (by omega), if_neg (by omega), show i - 1 + 1 = i by omega]; exact h2
  · rw [go_un (show z * 16 + p ≠ x * 16 + y by omega)] at hE
    obtain ⟨i, h1, h2⟩ := J z p hp hE
    have hz := I.2.1 z
    rw [go_un e]
    refine ⟨i, h1, ?_⟩
    rw [go_rm4_o (by omega) (by omega) e]; exact h2
theorem go_apE {cap : Nat} {A L : Nat → Nat} {E : Nat → Bool} {x y : Nat} (hc : cap ≤ 4) (I : go_IV4 cap A L) (J : go_IE A L E) (hl : L x < cap) (hy : y < 16) : go_IE (go_up A (x * 4 + L x) y) (go_up L x (L x + 1)) (go_up E (x * 16 + y) true) := by
  intro z p hp hE
  have hz := I.2.1 z
  by_cases e : z = x
  · rw [e] at hE ⊢
    rw [go_us]
    by_cases g : p = y
    · exact ⟨L x, by omega, by rw [go_us, g]⟩
    · rw [go_un (show x * 16 + p ≠ x * 16 + y by omega)] at hE
      obtain ⟨i, h1, h2⟩ := J x p hp hE
      exact ⟨i, by omega, by rw [go_un (show x * 4 + i ≠ x * 4 + L x by omega)]; exact h2⟩
  · rw [go_un (show z * 16 + p ≠ x * 16 + y by omega)] at hE
    obtain ⟨i, h1, h2⟩ := J z p hp hE
    rw [go_un e]
    exact ⟨i, h1, by rw [go_un (show z * 4 + i ≠ x * 4 + L x by omega)]; exact h2⟩
theorem go_Eclr {A L : Nat → Nat} {E : Nat → Bool} (J : go_IE A L E) (k : Nat) : go_IE A L (go_up E k false) := by
  intro z p hp hE
  by_cases e : z * 16 + p = k
  · rw [e, go_us] at hE; exact absurd hE (by decide)
  · rw [go_un e] at hE; exact J z p hp hE
theorem go_Eset {A L : Nat → Nat} {E : Nat → Bool} (J : go_IE A L E) {x y i : Nat} (hy : y < 16) (hi : i < L x) (h : A (x * 4 + i) = y) : go_IE A L (go_up E (x * 16 + y) true) := by
  intro z p hp hE
  by_cases e : z * 16 + p = x * 16 + y
  · have e1 : z = x := by omega
    have e2 : p = y := by omega
    rw [e1, e2]; exact ⟨i, hi, h⟩
  · rw [go_un e] at hE; exact J z p hp hE
theorem go_Erow {A L : Nat → Nat} {E : Nat → Bool} (J : go_IE A L E) (x : Nat) : go_IE A (go_up L x 0) (go_z E false (x * 16) (x * 16 + 16)) := by
  intro z p hp hE
  by_cases e : z = x
  · rw [show go_z E false (x * 16) (x * 16 + 16) (z * 16 + p) = false from if_pos (by omega)] at hE; exact absurd hE (by decide)
  · rw [show go_z E false (x * 16) (x * 16 + 16) (z * 16 + p) = E (z * 16 + p) from if_neg (by omega)] at hE
    rw [go_un e]; exact J z p hp hE
theorem go_Eno {A L : Nat → Nat} {E : Nat → Bool} (J : go_IE A L E) {x y : Nat} (hy : y < 16) (h : ∀ i, i < L x → A (x * 4 + i) ≠ y) : go_up E (x * 16 + y) false = E := by
  funext j
  by_cases e : j = x * 16 + y
  · rw [e, go_us]
    cases g : E (x * 16 + y) with
    | false => rfl
    | true =>
      obtain ⟨i, h1, h2⟩ := J x y hy g
      exact absurd h2 (h i h1)
  · exact go_un e
