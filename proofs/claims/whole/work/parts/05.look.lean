section
variable (nn ac pc tm md lo : Nat) (al : Nat → Bool) (A La P Lp : Nat → Nat) (E D W : Nat → Bool) (T : Nat → Nat) (U : Nat → Bool) (C : Nat → Nat)
theorem go_lkX4 {x y : Nat} (hA : ∀ j, A j < 16) (hL : La x ≤ 4) (hx : x < 16) (hy : y < 16) (h : ∀ i, i < La x → A (x * 4 + i) ≠ y) (post : Int32 → Prop) (hp : post 0) : ∀ n i, i ≤ La x → La x - i < n → wX_isActive_2 post (nI x) (nI y) (nI nn) (nI ac) (nI pc) (nI tm) (nI md) (nI lo) (go_B al) (go_N A) (go_N La) (go_N P) (go_N Lp) (go_M E) (go_M D) (go_M W) (go_N T) (go_S U C) n (nI i) := by
  intro n
  induction n with
  | zero => intro i _ hn; exact absurd hn (by omega)
  | succ n ih =>
    intro i hi hn
    exact ⟨vp_in_nI hx (by omega), pk_le (La x) i (fun _ => hp) (fun h2 => ⟨pk_in (x * 4 + i) 64 (by omega) (go_ix4 x i), br_f (by rw [go_rN A (x * 4 + i) (go_ix4 x i) (by omega), nI_eq (by have := hA (x * 4 + i); omega) (by omega)]; exact h i h2) (nm_r (nI_1 i) (ih (i + 1) (by omega) (by omega)))⟩) (go_rN La x rfl (by omega)) rfl (by omega) (by omega)⟩
theorem go_lkXy4 {x y i0 : Nat} (hA : ∀ j, A j < 16) (hL : La x ≤ 4) (hx : x < 16) (hy : y < 16) (h0 : i0 < La x) (he : A (x * 4 + i0) = y) (post : Int32 → Prop) (hp : post 1) : ∀ n i, i ≤ i0 → i0 - i < n → wX_isActive_2 post (nI x) (nI y) (nI nn) (nI ac) (nI pc) (nI tm) (nI md) (nI lo) (go_B al) (go_N A) (go_N La) (go_N P) (go_N Lp) (go_M E) (go_M D) (go_M W) (go_N T) (go_S U C) n (nI i) := by
  intro n
  induction n with
  | zero => intro i _ hn; exact absurd hn (by omega)
  | succ n ih =>
    intro i hi hn
    refine ⟨vp_in_nI hx (by omega), pk_le (La x) i (fun h2 => absurd h2 (by omega)) (fun h2 => ⟨pk_in (x * 4 + i) 64 (by omega) (go_ix4 x i), pk_eq (A (x * 4 + i)) y (fun _ => hp) (fun h3 => ?_) (go_rN A (x * 4 + i) (go_ix4 x i) (by omega)) rfl (by have := hA (x * 4 + i); omega) (by omega)⟩) (go_rN La x rfl (by omega)) rfl (by omega) (by omega)⟩
    have h4 : i ≠ i0 := fun q => h3 (by rw [q]; exact he)
    exact nm_r (nI_1 i) (ih (i + 1) (by omega) (by omega))
theorem go_lkY4 {x y : Nat} (hA : ∀ j, A j < 16) (hL : La x ≤ 4) (hx : x < 16) (hy : y < 16) (h : ∀ i, i < La x → A (x * 4 + i) ≠ y) (post : Int32 → Prop) (hp : post (-1)) : ∀ n i, i ≤ La x → La x - i < n → wY_posA_2 post (nI x) (nI y) (nI nn) (nI ac) (nI pc) (nI tm) (nI lo) (nI md) (go_B al) (go_N A) (go_N La) (go_N P) (go_N Lp) (go_B E) (go_B D) (go_B W) (go_N T) (go_B U) (go_N C) n (nI i) := by
  intro n
  induction n with
  | zero => intro i _ hn; exact absurd hn (by omega)
  | succ n ih =>
    intro i hi hn
    exact ⟨vp_in_nI hx (by omega), pk_le (La x) i (fun _ => hp) (fun h2 => ⟨pk_in (x * 4 + i) 64 (by omega) (go_ix4 x i), br_f (by rw [go_rN A (x * 4 + i) (go_ix4 x i) (by omega), nI_eq (by have := hA (x * 4 + i); omega) (by omega)]; exact h i h2) (nm_r (nI_1 i) (ih (i + 1) (by omega) (by omega)))⟩) (go_rN La x rfl (by omega)) rfl (by omega) (by omega)⟩
theorem go_lkYy4 {x y i0 : Nat} (hA : ∀ j, A j < 16) (hL : La x ≤ 4) (hx : x < 16) (hy : y < 16) (h0 : i0 < La x) (he : A (x * 4 + i0) = y) (hb : ∀ j, j < i0 → A (x * 4 + j) ≠ y) (post : Int32 → Prop) (hp : post (nI i0)) : ∀ n i, i ≤ i0 → i0 - i < n → wY_posA_2 post (nI x) (nI y) (nI nn) (nI ac) (nI pc) (nI tm) (nI lo) (nI md) (go_B al) (go_N A) (go_N La) (go_N P) (go_N Lp) (go_B E) (go_B D) (go_B W) (go_N T) (go_B U) (go_N C) n (nI i) := by
  intro n
  induction n with
  | zero => intro i _ hn; exact absurd hn (by omega)
  | succ n ih =>
    intro i hi hn
    refine ⟨vp_in_nI hx (by omega), pk_le (La x) i (fun h2 => absurd h2 (by omega)) (fun h2 => ⟨pk_in (x * 4 + i) 64 (by omega) (go_ix4 x i), pk_eq (A (x * 4 + i)) y (fun h3 => ?_) (fun h3 => ?_) (go_rN A (x * 4 + i) (go_ix4 x i) (by omega)) rfl (by have := hA (x * 4 + i); omega) (by omega)⟩) (go_rN La x rfl (by omega)) rfl (by omega) (by omega)⟩
    · have h4 : i = i0 := by
        rcases Nat.lt_or_ge i i0 with q | q
        · exact absurd h3 (hb i q)
        · omega
      rw [h4]; exact hp
    · have h4 : i ≠ i0 := fun q => h3 (by rw [q]; exact he)
      exact nm_r (nI_1 i) (ih (i + 1) (by omega) (by omega))
theorem go_is4 {x y : Nat} (hA : ∀ j, A j < 16) (hL : La x ≤ 4) (hx : x < 16) (hy : y < 16) (h : ∀ i, i < La x → A (x * 4 + i) ≠ y) (post : Int32 → Prop) (hp : post 0) : wpX_isActive post (nI nn, nI ac, nI pc, nI tm, nI md, nI lo, go_B al, go_N A, go_N La, go_N P, go_N Lp, go_M E, go_M D, go_M W, go_N T, go_S U C) (nI x) (nI y) := ⟨La x + 1, go_lkX4 nn ac pc tm md lo al A La P Lp E D W T U C hA hL hx hy h post hp _ 0 (by omega) (by omega)⟩
theorem go_isy4 {x y i0 : Nat} (hA : ∀ j, A j < 16) (hL : La x ≤ 4) (hx : x < 16) (hy : y < 16) (h0 : i0 < La x) (he : A (x * 4 + i0) = y) (post : Int32 → Prop) (hp : post 1) : wpX_isActive post (nI nn, nI ac, nI pc, nI tm, nI md, nI lo, go_B al, go_N A, go_N La, go_N P, go_N Lp, go_M E, go_M D, go_M W, go_N T, go_S U C) (nI x) (nI y) := ⟨i0 + 1, go_lkXy4 nn ac pc tm md lo al A La P Lp E D W T U C hA hL hx hy h0 he post hp _ 0 (by omega) (by omega)⟩
theorem go_ps4 {x y : Nat} (hA : ∀ j, A j < 16) (hL : La x ≤ 4) (hx : x < 16) (hy : y < 16) (h : ∀ i, i < La x → A (x * 4 + i) ≠ y) (post : Int32 → Prop) (hp : post (-1)) : wpY_posA post (nI nn, nI ac, nI pc, nI tm, nI lo, nI md, go_B al, go_N A, go_N La, go_N P, go_N Lp, go_B E, go_B D, go_B W, go_N T, go_B U, go_N C) (nI x) (nI y) := ⟨La x + 1, go_lkY4 nn ac pc tm md lo al A La P Lp E D W T U C hA hL hx hy h post hp _ 0 (by omega) (by omega)⟩
theorem go_psy4 {x y i0 : Nat} (hA : ∀ j, A j < 16) (hL : La x ≤ 4) (hx : x < 16) (hy : y < 16) (h0 : i0 < La x) (he : A (x * 4 + i0) = y) (hb : ∀ j, j < i0 → A (x * 4 + j) ≠ y) (post : Int32 → Prop) (hp : post (nI i0)) : wpY_posA post (nI nn, nI ac, nI pc, nI tm, nI lo, nI md, go_B al, go_N A, go_N La, go_N P, go_N Lp, go_B E, go_B D, go_B W, go_N T, go_B U, go_N C) (nI x) (nI y) := ⟨i0 + 1, go_lkYy4 nn ac pc tm md lo al A La P Lp E D W T U C hA hL hx hy h0 he hb post hp _ 0 (by omega) (by omega)⟩
theorem go_lkX8 {x y : Nat} (hA : ∀ j, P j < 16) (hL : Lp x ≤ 8) (hx : x < 16) (hy : y < 16) (h : ∀ i, i < Lp x → P (x * 8 + i) ≠ y) (post : Int32 → Prop) (hp : post 0) : ∀ n i, i ≤ Lp x → Lp x - i < n → wX_isPassive_2 post (nI x) (nI y) (nI nn) (nI ac) (nI pc) (nI tm) (nI md) (nI lo) (go_B al) (go_N A) (go_N La) (go_N P) (go_N Lp) (go_M E) (go_M D) (go_M W) (go_N T) (go_S U C) n (nI i) := by
  intro n
  induction n with
  | zero => intro i _ hn; exact absurd hn (by omega)
  | succ n ih =>
    intro i hi hn
    exact ⟨vp_in_nI hx (by omega), pk_le (Lp x) i (fun _ => hp) (fun h2 => ⟨pk_in (x * 8 + i) 128 (by omega) (go_ix8 x i), br_f (by rw [go_rN P (x * 8 + i) (go_ix8 x i) (by omega), nI_eq (by have := hA (x * 8 + i); omega) (by omega)]; exact h i h2) (nm_r (nI_1 i) (ih (i + 1) (by omega) (by omega)))⟩) (go_rN Lp x rfl (by omega)) rfl (by omega) (by omega)⟩
theorem go_lkXy8 {x y i0 : Nat} (hA : ∀ j, P j < 16) (hL : Lp x ≤ 8) (hx : x < 16) (hy : y < 16) (h0 : i0 < Lp x) (he : P (x * 8 + i0) = y) (post : Int32 → Prop) (hp : post 1) : ∀ n i, i ≤ i0 → i0 - i < n → wX_isPassive_2 post (nI x) (nI y) (nI nn) (nI ac) (nI pc) (nI tm) (nI md) (nI lo) (go_B al) (go_N A) (go_N La) (go_N P) (go_N Lp) (go_M E) (go_M D) (go_M W) (go_N T) (go_S U C) n (nI i) := by
  intro n
  induction n with
  | zero => intro i _ hn; exact absurd hn (by omega)
  | succ n ih =>
    intro i hi hn
    refine ⟨vp_in_nI hx (by omega), pk_le (Lp x) i (fun h2 => absurd h2 (by omega)) (fun h2 => ⟨pk_in (x * 8 + i) 128 (by omega) (go_ix8 x i), pk_eq (P (x * 8 + i)) y (fun _ => hp) (fun h3 => ?_) (go_rN P (x * 8 + i) (go_ix8 x i) (by omega)) rfl (by have := hA (x * 8 + i); omega) (by omega)⟩) (go_rN Lp x rfl (by omega)) rfl (by omega) (by omega)⟩
    have h4 : i ≠ i0 := fun q => h3 (by rw [q]; exact he)
    exact nm_r (nI_1 i) (ih (i + 1) (by omega) (by omega))
theorem go_lkY8 {x y : Nat} (hA : ∀ j, P j < 16) (hL : Lp x ≤ 8) (hx : x < 16) (hy : y < 16) (h : ∀ i, i < Lp x → P (x * 8 + i) ≠ y) (post : Int32 → Prop) (hp : post (-1)) : ∀ n i, i ≤ Lp x → Lp x - i < n → wY_posP_2 post (nI x) (nI y) (nI nn) (nI ac) (nI pc) (nI tm) (nI lo) (nI md) (go_B al) (go_N A) (go_N La) (go_N P) (go_N Lp) (go_B E) (go_B D) (go_B W) (go_N T) (go_B U) (go_N C) n (nI i) := by
  intro n
  induction n with
  | zero => intro i _ hn; exact absurd hn (by omega)
  | succ n ih =>
    intro i hi hn
    exact ⟨vp_in_nI hx (by omega), pk_le (Lp x) i (fun _ => hp) (fun h2 => ⟨pk_in (x * 8 + i) 128 (by omega) (go_ix8 x i), br_f (by rw [go_rN P (x * 8 + i) (go_ix8 x i) (by omega), nI_eq (by have := hA (x * 8 + i); omega) (by omega)]; exact h i h2) (nm_r (nI_1 i) (ih (i + 1) (by omega) (by omega)))⟩) (go_rN Lp x rfl (by omega)) rfl (by omega) (by omega)⟩
theorem go_lkYy8 {x y i0 : Nat} (hA : ∀ j, P j < 16) (hL : Lp x ≤ 8) (hx : x < 16) (hy : y < 16) (h0 : i0 < Lp x) (he : P (x * 8 + i0) = y) (hb : ∀ j, j < i0 → P (x * 8 + j) ≠ y) (post : Int32 → Prop) (hp : post (nI i0)) : ∀ n i, i ≤ i0 → i0 - i < n → wY_posP_2 post (nI x) (nI y) (nI nn) (nI ac) (nI pc) (nI tm) (nI lo) (nI md) (go_B al) (go_N A) (go_N La) (go_N P) (go_N Lp) (go_B E) (go_B D) (go_B W) (go_N T) (go_B U) (go_N C) n (nI i) := by
  intro n
  induction n with
  | zero => intro i _ hn; exact absurd hn (by omega)
  | succ n ih =>
    intro i hi hn
    refine ⟨vp_in_nI hx (by omega), pk_le (Lp x) i (fun h2 => absurd h2 (by omega)) (fun h2 => ⟨pk_in (x * 8 + i) 128 (by omega) (go_ix8 x i), pk_eq (P (x * 8 + i)) y (fun h3 => ?_) (fun h3 => ?_) (go_rN P (x * 8 + i) (go_ix8 x i) (by omega)) rfl (by have := hA (x * 8 + i); omega) (by omega)⟩) (go_rN Lp x rfl (by omega)) rfl (by omega) (by omega)⟩
    · have h4 : i = i0 := by
        rcases Nat.lt_or_ge i i0 with q | q
        · exact absurd h3 (hb i q)
        · omega
      rw [h4]; exact hp
    · have h4 : i ≠ i0 := fun q => h3 (by rw [q]; exact he)
      exact nm_r (nI_1 i) (ih (i + 1) (by omega) (by omega))
theorem go_is8 {x y : Nat} (hA : ∀ j, P j < 16) (hL : Lp x ≤ 8) (hx : x < 16) (hy : y < 16) (h : ∀ i, i < Lp x → P (x * 8 + i) ≠ y) (post : Int32 → Prop) (hp : post 0) : wpX_isPassive post (nI nn, nI ac, nI pc, nI tm, nI md, nI lo, go_B al, go_N A, go_N La, go_N P, go_N Lp, go_M E, go_M D, go_M W, go_N T, go_S U C) (nI x) (nI y) := ⟨Lp x + 1, go_lkX8 nn ac pc tm md lo al A La P Lp E D W T U C hA hL hx hy h post hp _ 0 (by omega) (by omega)⟩
theorem go_isy8 {x y i0 : Nat} (hA : ∀ j, P j < 16) (hL : Lp x ≤ 8) (hx : x < 16) (hy : y < 16) (h0 : i0 < Lp x) (he : P (x * 8 + i0) = y) (post : Int32 → Prop) (hp : post 1) : wpX_isPassive post (nI nn, nI ac, nI pc, nI tm, nI md, nI lo, go_B al, go_N A, go_N La, go_N P, go_N Lp, go_M E, go_M D, go_M W, go_N T, go_S U C) (nI x) (nI y) := ⟨i0 + 1, go_lkXy8 nn ac pc tm md lo al A La P Lp E D W T U C hA hL hx hy h0 he post hp _ 0 (by omega) (by omega)⟩
theorem go_ps8 {x y : Nat} (hA : ∀ j, P j < 16) (hL : Lp x ≤ 8) (hx : x < 16) (hy : y < 16) (h : ∀ i, i < Lp x → P (x * 8 + i) ≠ y) (post : Int32 → Prop) (hp : post (-1)) : wpY_posP post (nI nn, nI ac, nI pc, nI tm, nI lo, nI md, go_B al, go_N A, go_N La, go_N P, go_N Lp, go_B E, go_B D, go_B W, go_N T, go_B U, go_N C) (nI x) (nI y) := ⟨Lp x + 1, go_lkY8 nn ac pc tm md lo al A La P Lp E D W T U C hA hL hx hy h post hp _ 0 (by omega) (by omega)⟩
theorem go_psy8 {x y i0 : Nat} (hA : ∀ j, P j < 16) (hL : Lp x ≤ 8) (hx : x < 16) (hy : y < 16) (h0 : i0 < Lp x) (he : P (x * 8 + i0) = y) (hb : ∀ j, j < i0 → P (x * 8 + j) ≠ y) (post : Int32 → Prop) (hp : post (nI i0)) : wpY_posP post (nI nn, nI ac, nI pc, nI tm, nI lo, nI md, go_B al, go_N A, go_N La, go_N P, go_N Lp, go_B E, go_B D, go_B W, go_N T, go_B U, go_N C) (nI x) (nI y) := ⟨i0 + 1, go_lkYy8 nn ac pc tm md lo al A La P Lp E D W T U C hA hL hx hy h0 he hb post hp _ 0 (by omega) (by omega)⟩
end
