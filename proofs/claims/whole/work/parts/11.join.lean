def go_Z (ac pc : Nat) (A La P Lp : Nat → Nat) (E : Nat → Bool) (T : Nat → Nat) (U : Nat → Bool) (C : Nat → Nat) : Prop := go_IV4 ac A La ∧ go_IE A La E ∧ go_IV8 pc P Lp ∧ (∀ j, T j ≤ 8) ∧ go_IS U C
section
variable (nn ac pc tm md : Nat) (al : Nat → Bool) (A La P Lp : Nat → Nat) (E D W : Nat → Bool) (T : Nat → Nat)
theorem go_jl {x y : Nat} (hA : ∀ j, A j < 16) (hL : La y ≤ 4) (hx : x < 16) (hy : y < 16) : ∀ d i (lo : Nat) (U : Nat → Bool) (C : Nat → Nat), i + d = La y → go_IS U C → lo + d < 2 ^ 31 → ∃ (U' : Nat → Bool) (C' : Nat → Nat) (lo' : Nat), go_IS U' C' ∧ lo' ≤ lo + d ∧ (∀ post : SX → Prop, post (nI nn, nI ac, nI pc, nI tm, nI md, nI lo', go_B al, go_N A, go_N La, go_N P, go_N Lp, go_M E, go_M D, go_M W, go_N T, go_S U' C') → wX_onJoin_17 post (nI y) (nI x) (nI (La y)) (d + 1) (nI i) (nI nn) (nI ac) (nI pc) (nI tm) (nI md) (nI lo) (go_B al) (go_N A) (go_N La) (go_N P) (go_N Lp) (go_M E) (go_M D) (go_M W) (go_N T) (go_S U C)) ∧ (∀ post : SY → Prop, post (nI nn, nI ac, nI pc, nI tm, nI lo', nI md, go_B al, go_N A, go_N La, go_N P, go_N Lp, go_B E, go_B D, go_B W, go_N T, go_B U', go_N C') → wY_handle_15 post (nI x) (nI y) (d + 1) (nI i) (nI nn) (nI ac) (nI pc) (nI tm) (nI lo) (nI md) (go_B al) (go_N A) (go_N La) (go_N P) (go_N Lp) (go_B E) (go_B D) (go_B W) (go_N T) (go_B U) (go_N C)) := by
  intro d
  have rl := go_rN (e := nI y) La y rfl (by omega)
  obtain ⟨a, ha, ea⟩ := go_j48 x hx
  induction d with
  | zero =>
    intro i lo U C hi S hl
    exact ⟨U, C, lo, S, by omega, fun post hp => br_t (nI_le (by omega) (by omega)) hp, fun post hp => ⟨vp_in_nI hy (by omega), br_t (by rw [rl]; exact nI_le (by omega) (by omega)) hp⟩⟩
  | succ d ih =>
    intro i lo U C hi S hl
    have hz : A (y * 4 + i) < 16 := hA _
    have ra := go_rN (e := nI y * 4 + nI i) A (y * 4 + i) (go_ix4 y i) (by omega)
    by_cases hs : A (y * 4 + i) = x
    · obtain ⟨U', C', lo', S', hl', hX, hY⟩ := ih (i + 1) lo U C (by omega) S (by omega)
      exact ⟨U', C', lo', S', by omega, fun post hp => br_f (nI_ge (by omega) (by omega)) ⟨pk_in (y * 4 + i) 64 (by omega) (go_ix4 y i), nm_r ra (br_t (by rw [hs]) (nm_r (nI_1 i) (hX post hp)))⟩, fun post hp => ⟨vp_in_nI hy (by omega), br_f (by rw [rl]; exact nI_ge (by omega) (by omega)) ⟨pk_in (y * 4 + i) 64 (by omega) (go_ix4 y i), nm_r ra (br_t (by rw [hs]) (nm_r (nI_1 i) (hY post hp)))⟩⟩⟩
    · have hs' : ¬ nI (A (y * 4 + i)) = nI x := by rw [nI_eq (by omega) (by omega)]; exact hs
      obtain ⟨U1, C1, lo1, S1, hl1, hX1, hY1⟩ := go_send nn ac pc tm md lo al A La P Lp E D W T U C (k := 2) S (by omega) hy hz (by omega) (by omega) ha
      obtain ⟨U', C', lo', S', hl', hX, hY⟩ := ih (i + 1) lo1 U1 C1 (by omega) S1 (by omega)
      exact ⟨U', C', lo', S', by omega, fun post hp => br_f (nI_ge (by omega) (by omega)) ⟨pk_in (y * 4 + i) 64 (by omega) (go_ix4 y i), nm_r ra (br_f hs' (by rw [ea]; exact hX1 _ (nm_r (nI_1 i) (hX post hp))))⟩, fun post hp => ⟨vp_in_nI hy (by omega), br_f (by rw [rl]; exact nI_ge (by omega) (by omega)) ⟨pk_in (y * 4 + i) 64 (by omega) (go_ix4 y i), nm_r ra (br_f hs' (by rw [ea]; exact hY1 _ (nm_r (nI_1 i) (hY post hp))))⟩⟩⟩
end
section
variable (nn ac pc tm md lo : Nat) (al : Nat → Bool) (A La P Lp : Nat → Nat) (E D W : Nat → Bool) (T : Nat → Nat) (U : Nat → Bool) (C : Nat → Nat)
theorem go_h1 {x y : Nat} (p3 : Int32) (hac : 2 ≤ ac ∧ ac ≤ 4) (hpc : 1 ≤ pc ∧ pc ≤ 8) (Z : go_Z ac pc A La P Lp E T U C) (hl : lo + 10 < 2 ^ 31) (hx : x < 16) (hy : y < 16) : ∃ (A' La' P' Lp' : Nat → Nat) (E' D' W' : Nat → Bool) (T' : Nat → Nat) (U' : Nat → Bool) (C' : Nat → Nat) (lo' : Nat), go_Z ac pc A' La' P' Lp' E' T' U' C' ∧ lo' ≤ lo + 10 ∧ (∀ post : SX → Prop, post (nI nn, nI ac, nI pc, nI tm, nI md, nI lo', go_B al, go_N A', go_N La', go_N P', go_N Lp', go_M E', go_M D', go_M W', go_N T', go_S U' C') → wpX_onJoin post (nI nn, nI ac, nI pc, nI tm, nI md, nI lo, go_B al, go_N A, go_N La, go_N P, go_N Lp, go_M E, go_M D, go_M W, go_N T, go_S U C) (nI y) (nI x)) ∧ (∀ post : SY → Prop, post (nI nn, nI ac, nI pc, nI tm, nI lo', nI md, go_B al, go_N A', go_N La', go_N P', go_N Lp', go_B E', go_B D', go_B W', go_N T', go_B U', go_N C') → wpY_handle post (nI nn, nI ac, nI pc, nI tm, nI lo, nI md, go_B al, go_N A, go_N La, go_N P, go_N Lp, go_B E, go_B D, go_B W, go_N T, go_B U, go_N C) 1 (nI x) (nI y) p3) := by
  obtain ⟨IA, JE, I, hT, S⟩ := Z
  obtain ⟨A1, La1, E1, P1, Lp1, U1, C1, lo1, IA1, JE1, I1, S1, hl1, hX1, hY1⟩ := go_addA nn ac pc tm md lo al A La P Lp E D W T U C true hac IA JE hpc I S (by omega) hy hx
  have hla := IA1.2.1 y
  obtain ⟨U', C', lo', S', hl', hX, hY⟩ := go_jl nn ac pc tm md al A1 La1 P1 Lp1 E1 D W T (x := x) IA1.1 (by omega) hx hy (La1 y) 0 lo1 U1 C1 (by omega) S1 (by omega)
  refine ⟨A1, La1, P1, Lp1, E1, D, W, T, U', C', lo', ⟨IA1, JE1, I1, hT, S'⟩, by omega, fun post hp => ?_, fun post hp => br_t rfl (hY1 _ ⟨_, hY post hp⟩)⟩
  unfold wpX_onJoin
  exact hX1 _ ⟨vp_in_nI hy (by omega), nm_r (go_rN La1 y rfl (by omega)) ⟨_, hX post hp⟩⟩
theorem go_fx0 {x y w : Nat} (hA : ∀ j, A j < 16) (hL : La y ≤ 4) (hx : x < 16) (hy : y < 16) (hw : w < 16) (h : ∀ i, i < La y → ¬ (A (y * 4 + i) ≠ x ∧ A (y * 4 + i) ≠ w)) (post : Int32 → Prop) (hp : post (-1)) : ∀ n i, i ≤ La y → La y - i < n → wX_firstActiveExcept_3 post (nI y) (nI x) (nI w) (nI nn) (nI ac) (nI pc) (nI tm) (nI md) (nI lo) (go_B al) (go_N A) (go_N La) (go_N P) (go_N Lp) (go_M E) (go_M D) (go_M W) (go_N T) (go_S U C) n (nI i) := by
  intro n
  induction n with
  | zero => intro i _ hn; exact absurd hn (by omega)
  | succ n ih =>
    intro i hi hn
    have hz : A (y * 4 + i) < 16 := hA _
    refine ⟨vp_in_nI hy (by omega), pk_le (La y) i (fun _ => hp) (fun h2 => ⟨pk_in (y * 4 + i) 64 (by omega) (go_ix4 y i), nm_r (go_rN A (y * 4 + i) (go_ix4 y i) (by omega)) (pk_eq (A (y * 4 + i)) x (fun _ => nm_r (nI_1 i) (ih (i + 1) (by omega) (by omega))) (fun h3 => pk_eq (A (y * 4 + i)) w (fun _ => nm_r (nI_1 i) (ih (i + 1) (by omega) (by omega))) (fun h4 => absurd ⟨h3, h4⟩ (h i h2))))⟩) (go_rN La y rfl (by omega)) rfl (by omega) (by omega)⟩
theorem go_fx1 {x y w i0 : Nat} (hA : ∀ j, A j < 16) (hL : La y ≤ 4) (hx : x < 16) (hy : y < 16) (hw : w < 16) (h0 : i0 < La y) (he : A (y * 4 + i0) ≠ x ∧ A (y * 4 + i0) ≠ w) (hb : ∀ j, j < i0 → ¬ (A (y * 4 + j) ≠ x ∧ A (y * 4 + j) ≠ w)) (post : Int32 → Prop) (hp : post (nI (A (y * 4 + i0)))) : ∀ n i, i ≤ i0 → i0 - i < n → wX_firstActiveExcept_3 post (nI y) (nI x) (nI w) (nI nn) (nI ac) (nI pc) (nI tm) (nI md) (nI lo) (go_B al) (go_N A) (go_N La) (go_N P) (go_N Lp) (go_M E) (go_M D) (go_M W) (go_N T) (go_S U C) n (nI i) := by
  intro n
  induction n with
  | zero => intro i _ hn; exact absurd hn (by omega)
  | succ n ih =>
    intro i hi hn
    have hz : A (y * 4 + i) < 16 := hA _
    have k : ¬ (A (y * 4 + i) ≠ x ∧ A (y * 4 + i) ≠ w) → i < i0 := by
      intro q
      rcases Nat.lt_or_ge i i0 with r | r
      · exact r
      · rw [show i = i0 by omega] at q; exact absurd he q
    refine ⟨vp_in_nI hy (by omega), pk_le (La y) i (fun h2 => absurd h2 (by omega)) (fun h2 => ⟨pk_in (y * 4 + i) 64 (by omega) (go_ix4 y i), nm_r (go_rN A (y * 4 + i) (go_ix4 y i) (by omega)) (pk_eq (A (y * 4 + i)) x (fun h3 => nm_r (nI_1 i) ?_) (fun h3 => pk_eq (A (y * 4 + i)) w (fun h4 => nm_r (nI_1 i) ?_) (fun h4 => ?_)))⟩) (go_rN La y rfl (by omega)) rfl (by omega) (by omega)⟩
    · have q := k (fun z => z.1 h3)
      exact ih (i + 1) (by omega) (by omega)
    · have q := k (fun z => z.2 h4)
      exact ih (i + 1) (by omega) (by omega)
    · have e : i = i0 := by
        rcases Nat.lt_or_ge i i0 with r | r
        · exact absurd ⟨h3, h4⟩ (hb i r)
        · omega
      rw [e]; exact hp
theorem go_fy0 {x y w t : Nat} (hA : ∀ j, A j < 16) (hL : La y ≤ 4) (hx : x < 16) (hy : y < 16) (hw : w < 16) (h : ∀ i, i < La y → ¬ (A (y * 4 + i) ≠ x ∧ A (y * 4 + i) ≠ w)) (post : SY → Prop) (hp : wY_handle_182 post (nI y) (nI w) (nI t) (-1) (nI nn) (nI ac) (nI pc) (nI tm) (nI lo) (nI md) (go_B al) (go_N A) (go_N La) (go_N P) (go_N Lp) (go_B E) (go_B D) (go_B W) (go_N T) (go_B U) (go_N C)) : ∀ n i, i ≤ La y → La y - i < n → wY_handle_130 post (nI x) (nI y) (nI w) (nI t) (nI nn) (nI ac) (nI pc) (nI tm) (nI lo) (nI md) (go_B al) (go_N A) (go_N La) (go_N P) (go_N Lp) (go_B E) (go_B D) (go_B W) (go_N T) (go_B U) (go_N C) n (-1) (nI i) := by
  intro n
  induction n with
  | zero => intro i _ hn; exact absurd hn (by omega)
  | succ n ih =>
    intro i hi hn
    have hz : A (y * 4 + i) < 16 := hA _
    refine ⟨vp_in_nI hy (by omega), pk_le (La y) i (fun _ => hp) (fun h2 => br_f (by decide) ⟨pk_in (y * 4 + i) 64 (by omega) (go_ix4 y i), nm_r (go_rN A (y * 4 + i) (go_ix4 y i) (by omega)) (pk_eq (A (y * 4 + i)) x (fun _ => nm_r (nI_1 i) (ih (i + 1) (by omega) (by omega))) (fun h3 => pk_eq (A (y * 4 + i)) w (fun _ => nm_r (nI_1 i) (ih (i + 1) (by omega) (by omega))) (fun h4 => absurd ⟨h3, h4⟩ (h i h2))))⟩) (go_rN La y rfl (by omega)) rfl (by omega) (by omega)⟩
theorem go_fy1 {x y w t i0 : Nat} (hA : ∀ j, A j < 16) (hL : La y ≤ 4) (hx : x < 16) (hy : y < 16) (hw : w < 16) (h0 : i0 < La y) (he : A (y * 4 + i0) ≠ x ∧ A (y * 4 + i0) ≠ w) (hb : ∀ j, j < i0 → ¬ (A (y * 4 + j) ≠ x ∧ A (y * 4 + j) ≠ w)) (post : SY → Prop) (hp : wY_handle_182 post (nI y) (nI w) (nI t) (nI (A (y * 4 + i0))) (nI nn) (nI ac) (nI pc) (nI tm) (nI lo) (nI md) (go_B al) (go_N A) (go_N La) (go_N P) (go_N Lp) (go_B E) (go_B D) (go_B W) (go_N T) (go_B U) (go_N C)) : ∀ n i, i ≤ i0 → i0 + 1 - i < n → wY_handle_130 post (nI x) (nI y) (nI w) (nI t) (nI nn) (nI ac) (nI pc) (nI tm) (nI lo) (nI md) (go_B al) (go_N A) (go_N La) (go_N P) (go_N Lp) (go_B E) (go_B D) (go_B W) (go_N T) (go_B U) (go_N C) n (-1) (nI i) := by
  intro n
  induction n with
  | zero => intro i _ hn; exact absurd hn (by omega)
  | succ n ih =>
    intro i hi hn
    have hz : A (y * 4 + i) < 16 := hA _
    have k : ¬ (A (y * 4 + i) ≠ x ∧ A (y * 4 + i) ≠ w) → i < i0 := by
      intro q
      rcases Nat.lt_or_ge i i0 with r | r
      · exact r
      · rw [show i = i0 by omega] at q; exact absurd he q
    refine ⟨vp_in_nI hy (by omega), pk_le (La y) i (fun h2 => absurd h2 (by omega)) (fun h2 => br_f (by decide) ⟨pk_in (y * 4 + i) 64 (by omega) (go_ix4 y i), nm_r (go_rN A (y * 4 + i) (go_ix4 y i) (by omega)) (pk_eq (A (y * 4 + i)) x (fun h3 => nm_r (nI_1 i) ?_) (fun h3 => pk_eq (A (y * 4 + i)) w (fun h4 => nm_r (nI_1 i) ?_) (fun h4 => nm_r (nI_1 i) ?_)))⟩) (go_rN La y rfl (by omega)) rfl (by omega) (by omega)⟩
    · have q := k (fun z => z.1 h3)
      exact ih (i + 1) (by omega) (by omega)
    · have q := k (fun z => z.2 h4)
      exact ih (i + 1) (by omega) (by omega)
    · have e : i = i0 := by
        rcases Nat.lt_or_ge i i0 with r | r
        · exact absurd ⟨h3, h4⟩ (hb i r)
        · omega
      rw [e]
      obtain ⟨n', rfl⟩ : ∃ n', n = n' + 1 := ⟨n - 1, by omega⟩
      exact ⟨vp_in_nI hy (by omega), br_c (fun _ => hp) (fun _ => br_t (nI_pos' (by have := hA (y * 4 + i0); omega)) hp)⟩
theorem go_f51 {x y w t : Nat} (hac : 2 ≤ ac ∧ ac ≤ 4) (hpc : 1 ≤ pc ∧ pc ≤ 8) (Z : go_Z ac pc A La P Lp E T U C) (hl : lo + 10 < 2 ^ 31) (hx : x < 16) (hy : y < 16) (hw : w < 16) (ht0 : 0 < t) (ht : t < 16) : ∃ (A' La' P' Lp' : Nat → Nat) (E' D' W' : Nat → Bool) (T' : Nat → Nat) (U' : Nat → Bool) (C' : Nat → Nat) (lo' : Nat), go_Z ac pc A' La' P' Lp' E' T' U' C' ∧ lo' ≤ lo + 10 ∧ (∀ post : SX → Prop, post (nI nn, nI ac, nI pc, nI tm, nI md, nI lo', go_B al, go_N A', go_N La', go_N P', go_N Lp', go_M E', go_M D', go_M W', go_N T', go_S U' C') → wX_onForwardJoin_51 post (nI y) (nI x) (nI w) (nI t) (nI nn) (nI ac) (nI pc) (nI tm) (nI md) (nI lo) (go_B al) (go_N A) (go_N La) (go_N P) (go_N Lp) (go_M E) (go_M D) (go_M W) (go_N T) (go_S U C)) ∧ (∀ post : SY → Prop, post (nI nn, nI ac, nI pc, nI tm, nI lo', nI md, go_B al, go_N A', go_N La', go_N P', go_N Lp', go_B E', go_B D', go_B W', go_N T', go_B U', go_N C') → ∃ n130 : Nat, wY_handle_130 post (nI x) (nI y) (nI w) (nI t) (nI nn) (nI ac) (nI pc) (nI tm) (nI lo) (nI md) (go_B al) (go_N A) (go_N La) (go_N P) (go_N Lp) (go_B E) (go_B D) (go_B W) (go_N T) (go_B U) (go_N C) n130 (-1) 0) := by
  obtain ⟨IA, JE, I, hT, S⟩ := Z
  have hla := IA.2.1 y
  rcases go_first (fun i => A (y * 4 + i) ≠ x ∧ A (y * 4 + i) ≠ w) (La y) with h | ⟨i, hi, hAi, hAb⟩
  · obtain ⟨A1, La1, E1, P1, Lp1, U1, C1, lo1, IA1, JE1, I1, S1, hl1, hX1, hY1⟩ := go_addA nn ac pc tm md lo al A La P Lp E D W T U C true hac IA JE hpc I S (by omega) hy hw
    refine ⟨A1, La1, P1, Lp1, E1, D, W, T, U1, C1, lo1, ⟨IA1, JE1, I1, hT, S1⟩, by omega, fun post hp => ?_, fun post hp => ⟨La y + 1, go_fy0 nn ac pc tm md lo al A La P Lp E D W T U C IA.1 (by omega) hx hy hw h post (br_t (by decide) (hY1 _ hp)) _ 0 (by omega) (by omega)⟩⟩
    unfold wX_onForwardJoin_51
    exact ⟨La y + 1, go_fx0 nn ac pc tm md lo al A La P Lp E D W T U C IA.1 (by omega) hx hy hw h _ (br_t rfl (hX1 _ hp)) _ 0 (by omega) (by omega)⟩
  · obtain ⟨a, ha, ea⟩ := go_fj w (t - 1) hw (by omega)
    have hz : A (y * 4 + i) < 16 := IA.1 _
    have e1 : nI w ||| ((nI t - 1) <<< ((4 : Int32) &&& 31)) = nI a := by
      rw [← ea]
      exact congrArg (fun z => nI w ||| (z <<< ((4 : Int32) &&& 31))) (pk_sub (a := t) (b := 1) (by omega))
    obtain ⟨U1, C1, lo1, S1, hl1, hX1, hY1⟩ := go_send nn ac pc tm md lo al A La P Lp E D W T U C (k := 2) S (by omega) hy hz (by omega) (by omega) ha
    have hne : ¬ nI (A (y * 4 + i)) = -1 := by
      intro q
      have := congrArg (fun z => decide (z < 0)) q
      simp only [decide_eq_false (nI_pos (n := A (y * 4 + i)) (by omega))] at this
      exact absurd this (by decide)
    refine ⟨A, La, P, Lp, E, D, W, T, U1, C1, lo1, ⟨IA, JE, I, hT, S1⟩, by omega, fun post hp => ?_, fun post hp => ⟨La y + 2, go_fy1 nn ac pc tm md lo al A La P Lp E D W T U C IA.1 (by omega) hx hy hw hi hAi hAb post (br_f (nI_pos (by omega)) (by rw [e1]; exact hY1 _ hp)) _ 0 (by omega) (by omega)⟩⟩
    unfold wX_onForwardJoin_51
    exact ⟨La y + 1, go_fx1 nn ac pc tm md lo al A La P Lp E D W T U C IA.1 (by omega) hx hy hw hi hAi hAb _ (br_f hne (by rw [e1]; exact hX1 _ hp)) _ 0 (by omega) (by omega)⟩
theorem go_h2 {x y a : Nat} (hac : 2 ≤ ac ∧ ac ≤ 4) (hpc : 1 ≤ pc ∧ pc ≤ 8) (Z : go_Z ac pc A La P Lp E T U C) (hl : lo + 10 < 2 ^ 31) (hx : x < 16) (hy : y < 16) (ha : a < 65536) : ∃ (A' La' P' Lp' : Nat → Nat) (E' D' W' : Nat → Bool) (T' : Nat → Nat) (U' : Nat → Bool) (C' : Nat → Nat) (lo' : Nat), go_Z ac pc A' La' P' Lp' E' T' U' C' ∧ lo' ≤ lo + 10 ∧ (∀ post : SX → Prop, post (nI nn, nI ac, nI pc, nI tm, nI md, nI lo', go_B al, go_N A', go_N La', go_N P', go_N Lp', go_M E', go_M D', go_M W', go_N T', go_S U' C') → wpX_onForwardJoin post (nI nn, nI ac, nI pc, nI tm, nI md, nI lo, go_B al, go_N A, go_N La, go_N P, go_N Lp, go_M E, go_M D, go_M W, go_N T, go_S U C) (nI y) (nI x) (nI a)) ∧ (∀ post : SY → Prop, post (nI nn, nI ac, nI pc, nI tm, nI lo', nI md, go_B al, go_N A', go_N La', go_N P', go_N Lp', go_B E', go_B D', go_B W', go_N T', go_B U', go_N C') → wpY_handle post (nI nn, nI ac, nI pc, nI tm, nI lo, nI md, go_B al, go_N A, go_N La, go_N P, go_N Lp, go_B E, go_B D, go_B W, go_N T, go_B U, go_N C) 2 (nI x) (nI y) (nI a)) := by
  have Z0 := Z
  obtain ⟨IA, JE, I, hT, S⟩ := Z
  have hla := IA.2.1 y
  have d1 := go_dw (c := a) (by omega)
  have d2 := go_d4 (c := a) (by omega)
  have hw : a % 2 ^ 4 < 16 := by omega
  have ht : a / 2 ^ 4 % 2 ^ 4 < 16 := by omega
  have rl := go_rN (e := nI y) La y rfl (by omega)
  generalize a % 2 ^ 4 = w at d1 hw
  generalize a / 2 ^ 4 % 2 ^ 4 = t at d2 ht
  have n2 : ¬ (2 : Int32) = 1 := by decide
  by_cases ht0 : t = 0 ∨ La y ≤ 1
  · obtain ⟨A1, La1, E1, P1, Lp1, U1, C1, lo1, IA1, JE1, I1, S1, hl1, hX1, hY1⟩ := go_addA nn ac pc tm md lo al A La P Lp E D W T U C true hac IA JE hpc I S (by omega) hy hw
    have fX : ∀ post : SX → Prop, post (nI nn, nI ac, nI pc, nI tm, nI md, nI lo1, go_B al, go_N A1, go_N La1, go_N P1, go_N Lp1, go_M E1, go_M D, go_M W, go_N T, go_S U1 C1) → wX_onForwardJoin_29 post (nI y) (nI w) (nI nn) (nI ac) (nI pc) (nI tm) (nI md) (nI lo) (go_B al) (go_N A) (go_N La) (go_N P) (go_N Lp) (go_M E) (go_M D) (go_M W) (go_N T) (go_S U C) := by
      intro post hp
      unfold wX_onForwardJoin_29
      exact hX1 _ hp
    have fY : ∀ post : SY → Prop, post (nI nn, nI ac, nI pc, nI tm, nI lo1, nI md, go_B al, go_N A1, go_N La1, go_N P1, go_N Lp1, go_B E1, go_B D, go_B W, go_N T, go_B U1, go_N C1) → wY_handle_102 post (nI y) (nI w) (nI nn) (nI ac) (nI pc) (nI tm) (nI lo) (nI md) (go_B al) (go_N A) (go_N La) (go_N P) (go_N Lp) (go_B E) (go_B D) (go_B W) (go_N T) (go_B U) (go_N C) := by
      intro post hp
      unfold wY_handle_102
      exact hY1 _ hp
    refine ⟨A1, La1, P1, Lp1, E1, D, W, T, U1, C1, lo1, ⟨IA1, JE1, I1, hT, S1⟩, by omega, fun post hp => nm_r d1 (nm_r d2 (br_c (fun _ => fX post hp) (fun q => ⟨vp_in_nI hy (by omega), br_f ?_ (fX post hp)⟩))), fun post hp => br_f n2 (br_t rfl (nm_r d1 (nm_r d2 (br_c (fun _ => fY post hp) (fun q => ⟨vp_in_nI hy (by omega), br_f ?_ (fY post hp)⟩)))))⟩
    · rw [rl]
      rcases ht0 with z | z
      · exact absurd (by rw [z]; exact nI_0) q
      · have := nI_leI (a := La y) (b := 1) (by omega) (by omega)
        exact Int32.not_lt.mpr (this.mpr z)
    · rw [rl]
      rcases ht0 with z | z
      · exact absurd (by rw [z]; exact nI_0) q
      · have := nI_leI (a := La y) (b := 1) (by omega) (by omega)
        exact Int32.not_lt.mpr (this.mpr z)
  · have h1 : 0 < t := by omega
    have h2 : 1 < La y := by omega
    have q1 : ¬ nI t = 0 := nI_ne0 h1 (by omega)
    have q2 : 1 < go_N La (nI y).toNatClampNeg := by rw [rl]; exact nI_lt (a := 1) h2 (by omega)
    by_cases ht1 : t = 1
    · obtain ⟨P1, Lp1, I1, hX1, hY1⟩ := go_addP nn ac pc tm md lo al A La P Lp E D W T U C hac.2 IA hpc I hy hw
      obtain ⟨A', La', P', Lp', E', D', W', T', U', C', lo', Z', hl', hX, hY⟩ := go_f51 nn ac pc tm md lo al A La P1 Lp1 E D W T U C (x := x) hac hpc ⟨IA, JE, I1, hT, S⟩ hl hx hy hw h1 ht
      exact ⟨A', La', P', Lp', E', D', W', T', U', C', lo', Z', hl', fun post hp => nm_r d1 (nm_r d2 (br_f q1 ⟨vp_in_nI hy (by omega), br_t q2 (br_t (by rw [ht1]; rfl) (hX1 _ (hX post hp)))⟩)), fun post hp => br_f n2 (br_t rfl (nm_r d1 (nm_r d2 (br_f q1 ⟨vp_in_nI hy (by omega), br_t q2 (br_t (by rw [ht1]; rfl) (hY1 _ (hY post hp)))⟩))))⟩
    · have q3 : ¬ nI t = 1 := fun q => ht1 ((nI_eq (a := t) (b := 1) (by omega) (by omega)).mp q)
      obtain ⟨A', La', P', Lp', E', D', W', T', U', C', lo', Z', hl', hX, hY⟩ := go_f51 nn ac pc tm md lo al A La P Lp E D W T U C (x := x) hac hpc Z0 hl hx hy hw h1 ht
      exact ⟨A', La', P', Lp', E', D', W', T', U', C', lo', Z', hl', fun post hp => nm_r d1 (nm_r d2 (br_f q1 ⟨vp_in_nI hy (by omega), br_t q2 (br_f q3 (hX post hp))⟩)), fun post hp => br_f n2 (br_t rfl (nm_r d1 (nm_r d2 (br_f q1 ⟨vp_in_nI hy (by omega), br_t q2 (br_f q3 (hY post hp))⟩))))⟩
end
