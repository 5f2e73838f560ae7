theorem go_ix256 (y b p : Nat) : nI y * 256 + nI b * 16 + nI p = nI ((y * 16 + b) * 16 + p) := by
  show nI y * nI 256 + nI b * nI 16 + nI p = _
  rw [pk_mul, pk_mul, nI_add, nI_add]
  exact congrArg nI (by omega)
section
variable (nn ac pc tm md lo : Nat) (al : Nat → Bool) (A La P Lp : Nat → Nat) (E D W : Nat → Bool) (T : Nat → Nat) (U : Nat → Bool) (C : Nat → Nat)
theorem go_zY {x y b : Nat} {g : Int32} (hy : y < 16) (hb : b < 16) (post : SY → Prop) (J : Int32 → (Nat → Int32) → (Nat → Int32) → (Nat → Int32) → (Nat → Int32) → (Nat → Int32) → (Nat → Int32) → (Nat → Int32) → (Nat → Int32) → (Nat → Int32) → (Nat → Int32) → (Nat → Int32) → Prop) (hJ : J (nI (b + 1)) (go_B al) (go_N A) (go_N La) (go_N P) (go_N Lp) (go_B E) (go_B D) (go_B (go_z W false ((y * 16 + b) * 16) ((y * 16 + b) * 16 + 16))) (go_N T) (go_B U) (go_N C)) : ∀ n p, p ≤ 16 → 16 - p < n → wY_handle_568 post J (nI x) (nI y) g (nI b) (nI nn) (nI ac) (nI pc) (nI tm) (nI lo) (nI md) n (nI p) (go_B al) (go_N A) (go_N La) (go_N P) (go_N Lp) (go_B E) (go_B D) (go_B (go_z W false ((y * 16 + b) * 16) ((y * 16 + b) * 16 + p))) (go_N T) (go_B U) (go_N C) := by
  intro n
  induction n with
  | zero => intro i _ hn; exact absurd hn (by omega)
  | succ n ih =>
    intro p hp hn
    refine pk_le 16 p (fun h => nm_r (nI_1 b) ?_) (fun h => ⟨pk_in ((y * 16 + b) * 16 + p) 4096 (by omega) (go_ix256 y b p), nm_r ((go_uB _ ((y * 16 + b) * 16 + p) false go_vf (go_ix256 y b p)).trans (congrArg go_B (go_zs W false (by omega)))) (nm_r (nI_1 p) (ih (p + 1) (by omega) (by omega)))⟩)
    have e : p = 16 := by omega
    rw [e]; exact hJ
theorem go_gY {x y g : Nat} (E' : Nat → Bool) (hA : ∀ j, A j < 16) (hL : La y ≤ 4) (hx : x < 16) (hy : y < 16) (hE : ((∀ i, i < La y → A (y * 4 + i) ≠ x) ∧ E' = E) ∨ (∃ i, i < La y ∧ A (y * 4 + i) = x ∧ (∀ j, j < i → A (y * 4 + j) ≠ x) ∧ E' = go_up E (y * 16 + x) true)) (post : SY → Prop) (hp : wY_handle_628 post (nI x) (nI y) (nI g) (nI nn) (nI ac) (nI pc) (nI tm) (nI lo) (nI md) (go_B al) (go_N A) (go_N La) (go_N P) (go_N Lp) (go_B E') (go_B (go_ov D true y (nI g) 16)) (go_B (go_oW W y (nI g) 16)) (go_N (go_ov T 0 y (nI g) 16)) (go_B U) (go_N C)) : ∀ n b, b ≤ 16 → 16 - b < n → wY_handle_519 post (nI x) (nI y) (nI g) (nI nn) (nI ac) (nI pc) (nI tm) (nI lo) (nI md) n (nI b) (go_B al) (go_N A) (go_N La) (go_N P) (go_N Lp) (go_B E) (go_B (go_ov D true y (nI g) b)) (go_B (go_oW W y (nI g) b)) (go_N (go_ov T 0 y (nI g) b)) (go_B U) (go_N C) := by
  intro n
  induction n with
  | zero => intro i _ hn; exact absurd hn (by omega)
  | succ n ih =>
    intro b hb hn
    refine pk_le 16 b (fun h => ?_) (fun h => go_brb g b h (fun z => nm_r (nI_1 b) ?_) (fun z => ⟨pk_in (y * 16 + b) 256 (by omega) (go_ix16 y b), nm_r ((go_uB _ (y * 16 + b) true go_vt (go_ix16 y b)).trans (congrArg go_B (go_ovt D true y z))) ⟨pk_in (y * 16 + b) 256 (by omega) (go_ix16 y b), nm_r ((go_uN _ (y * 16 + b) 0 rfl (go_ix16 y b)).trans (congrArg go_N (go_ovt T 0 y z))) ⟨17, ?_⟩⟩⟩))
    · have e : b = 16 := by omega
      rw [e]
      rcases hE with ⟨h1, h2⟩ | ⟨i, hi, hAi, hAb, h2⟩
      · rw [h2] at hp
        exact go_ps4 nn ac pc tm md lo al A La P Lp E (go_ov D true y (nI g) 16) (go_oW W y (nI g) 16) (go_ov T 0 y (nI g) 16) U C hA hL hy hx h1 _ (br_t (by decide) hp)
      · rw [h2] at hp
        exact go_psy4 nn ac pc tm md lo al A La P Lp E (go_ov D true y (nI g) 16) (go_oW W y (nI g) 16) (go_ov T 0 y (nI g) 16) U C hA hL hy hx hi hAi hAb _ (br_f (nI_pos (by omega)) ⟨pk_in (y * 16 + x) 256 (by omega) (go_ix16 y x), nm_r (go_uB E (y * 16 + x) true go_vt (go_ix16 y x)) hp⟩)
    · have w := ih (b + 1) (by omega) (by omega)
      rw [← go_oWf W y z, ← go_ovf T 0 y z, ← go_ovf D true y z] at w
      exact w
    · have w := ih (b + 1) (by omega) (by omega)
      rw [← go_oWt W y z] at w
      have q := go_zY nn ac pc tm md lo al A La P Lp E (go_ov D true y (nI g) (b + 1)) (go_oW W y (nI g) b) (go_ov T 0 y (nI g) (b + 1)) U C (x := x) (g := nI g) hy h post _ w 17 0 (by omega) (by omega)
      rw [show (y * 16 + b) * 16 + 0 = (y * 16 + b) * 16 from rfl, go_z0] at q
      exact q
theorem go_h9 {x y a : Nat} (hac : 2 ≤ ac ∧ ac ≤ 4) (Z : go_Z ac pc A La P Lp E T U C) (hl : lo + 10 < 2 ^ 31) (hx : x < 16) (hy : y < 16) (ha : a < 65536) : ∃ (A' La' P' Lp' : Nat → Nat) (E' D' W' : Nat → Bool) (T' : Nat → Nat) (U' : Nat → Bool) (C' : Nat → Nat) (lo' : Nat), go_Z ac pc A' La' P' Lp' E' T' U' C' ∧ lo' ≤ lo + 10 ∧ (∀ post : SX → Prop, post (nI nn, nI ac, nI pc, nI tm, nI md, nI lo', go_B al, go_N A', go_N La', go_N P', go_N Lp', go_M E', go_M D', go_M W', go_N T', go_S U' C') → wpX_onGossip post (nI nn, nI ac, nI pc, nI tm, nI md, nI lo, go_B al, go_N A, go_N La, go_N P, go_N Lp, go_M E, go_M D, go_M W, go_N T, go_S U C) (nI y) (nI x) (nI a)) ∧ (∀ post : SY → Prop, post (nI nn, nI ac, nI pc, nI tm, nI lo', nI md, go_B al, go_N A', go_N La', go_N P', go_N Lp', go_B E', go_B D', go_B W', go_N T', go_B U', go_N C') → wpY_handle post (nI nn, nI ac, nI pc, nI tm, nI lo, nI md, go_B al, go_N A, go_N La, go_N P, go_N Lp, go_B E, go_B D, go_B W, go_N T, go_B U, go_N C) 9 (nI x) (nI y) (nI a)) := by
  obtain ⟨IA, JE, I, hT, S⟩ := Z
  have hla := IA.2.1 y
  obtain ⟨g, hg, eg⟩ := go_and16n ha (go_M D y ^^^ (-1))
  have eX : nI a &&& (go_M D (nI y).toNatClampNeg ^^^ (-1)) = nI g := by rw [go_rM D y]; exact eg
  have eY : (nI a &&& (go_M D y ^^^ (-1))) &&& 65535 = nI g := by rw [go_and16 ha]; exact eg
  have k1 : ¬ (9 : Int32) = 1 := by decide
  have k2 : ¬ (9 : Int32) = 2 := by decide
  have k3 : ¬ (9 : Int32) = 3 := by decide
  have k4 : ¬ (9 : Int32) = 4 := by decide
  have k5 : ¬ (9 : Int32) = 5 := by decide
  have k6 : ¬ (9 : Int32) = 6 := by decide
  have k7 : ¬ (9 : Int32) = 7 := by decide
  have k8 : ¬ (9 : Int32) = 8 := by decide
  by_cases g0 : g = 0
  · have q : nI g = 0 := by rw [g0]; exact nI_0
    obtain ⟨U1, C1, lo1, S1, hl1, hX1, hY1⟩ := go_send nn ac pc tm md lo al A La P Lp (go_up E (y * 16 + x) false) D W T U C (k := 12) (a := 0) S (by omega) hy hx (by omega) (by omega) (by omega)
    exact ⟨A, La, P, Lp, go_up E (y * 16 + x) false, D, W, T, U1, C1, lo1, ⟨IA, go_Eclr JE _, I, hT, S1⟩, by omega, fun post hp => ⟨vp_in_nI hy (by omega), nm_r eX (br_t q ⟨vp_in_nI hy (by omega), vp_in_nI hy (by omega), nm_r (go_uMc E y x hx) (hX1 _ hp)⟩)⟩, fun post hp => br_f k1 (br_f k2 (br_f k3 (br_f k4 (br_f k5 (br_f k6 (br_f k7 (br_f k8 (br_t rfl (go_dM nn ac pc tm md lo al A La P Lp E D W T U C hy _ (nm_r eY (br_t q ⟨pk_in (y * 16 + x) 256 (by omega) (go_ix16 y x), nm_r (go_uB E (y * 16 + x) false go_vf (go_ix16 y x)) (hY1 _ hp)⟩)))))))))))⟩
  · have q : ¬ nI g = 0 := nI_ne0 (by omega) (by omega)
    have hD : upd (go_M D) (nI y).toNatClampNeg (go_M D (nI y).toNatClampNeg ||| nI g) = go_M (go_ov D true y (nI g) 16) := by
      rw [nI_clamp (by omega)]
      exact go_Dor D y (nI g) (fun i h1 _ => go_n16 hg h1)
    have hT' : ∀ j, go_ov T 0 y (nI g) 16 j ≤ 8 := by
      intro j
      unfold go_ov
      split
      · omega
      · exact hT j
    have key : ∀ E' : Nat → Bool, go_IE A La E' → (((∀ i, i < La y → A (y * 4 + i) ≠ x) ∧ E' = E) ∨ (∃ i, i < La y ∧ A (y * 4 + i) = x ∧ (∀ j, j < i → A (y * 4 + j) ≠ x) ∧ E' = go_up E (y * 16 + x) true)) → (∀ Q : SX → Prop, Q (nI nn, nI ac, nI pc, nI tm, nI md, nI lo, go_B al, go_N A, go_N La, go_N P, go_N Lp, go_M E', go_M (go_ov D true y (nI g) 16), go_M (go_oW W y (nI g) 16), go_N (go_ov T 0 y (nI g) 16), go_S U C) → wpX_makeEager Q (nI nn, nI ac, nI pc, nI tm, nI md, nI lo, go_B al, go_N A, go_N La, go_N P, go_N Lp, go_M E, go_M (go_ov D true y (nI g) 16), go_M (go_oW W y (nI g) 16), go_N (go_ov T 0 y (nI g) 16), go_S U C) (nI y) (nI x)) → ∃ (A' La' P' Lp' : Nat → Nat) (E' D' W' : Nat → Bool) (T' : Nat → Nat) (U' : Nat → Bool) (C' : Nat → Nat) (lo' : Nat), go_Z ac pc A' La' P' Lp' E' T' U' C' ∧ lo' ≤ lo + 10 ∧ (∀ post : SX → Prop, post (nI nn, nI ac, nI pc, nI tm, nI md, nI lo', go_B al, go_N A', go_N La', go_N P', go_N Lp', go_M E', go_M D', go_M W', go_N T', go_S U' C') → wpX_onGossip post (nI nn, nI ac, nI pc, nI tm, nI md, nI lo, go_B al, go_N A, go_N La, go_N P, go_N Lp, go_M E, go_M D, go_M W, go_N T, go_S U C) (nI y) (nI x) (nI a)) ∧ (∀ post : SY → Prop, post (nI nn, nI ac, nI pc, nI tm, nI lo', nI md, go_B al, go_N A', go_N La', go_N P', go_N Lp', go_B E', go_B D', go_B W', go_N T', go_B U', go_N C') → wpY_handle post (nI nn, nI ac, nI pc, nI tm, nI lo, nI md, go_B al, go_N A, go_N La, go_N P, go_N Lp, go_B E, go_B D, go_B W, go_N T, go_B U, go_N C) 9 (nI x) (nI y) (nI a)) := by
      intro E' JE' hE hM
      obtain ⟨U1, C1, lo1, S1, hl1, hX1, hY1⟩ := go_fwd nn ac pc tm md lo al A La P Lp E' (go_ov D true y (nI g) 16) (go_oW W y (nI g) 16) (go_ov T 0 y (nI g) 16) U C (nI x) IA.1 (by omega) S (by omega) hy hg
      refine ⟨A, La, P, Lp, E', go_ov D true y (nI g) 16, go_oW W y (nI g) 16, go_ov T 0 y (nI g) 16, U1, C1, lo1, ⟨IA, JE', I, hT', S1⟩, by omega, fun post hp => ⟨vp_in_nI hy (by omega), nm_r eX (br_f q ⟨vp_in_nI hy (by omega), vp_in_nI hy (by omega), nm_r hD (go_stop nn ac pc tm md lo al A La P Lp E (go_ov D true y (nI g) 16) W T U C hy _ (hM _ (hX1 _ hp)))⟩)⟩, fun post hp => br_f k1 (br_f k2 (br_f k3 (br_f k4 (br_f k5 (br_f k6 (br_f k7 (br_f k8 (br_t rfl (go_dM nn ac pc tm md lo al A La P Lp E D W T U C hy _ (nm_r eY (br_f q ⟨17, ?_⟩)))))))))))⟩
      have w := go_gY nn ac pc tm md lo al A La P Lp E D W T U C E' IA.1 (by omega) hx hy hE post (by unfold wY_handle_628; exact hY1 _ hp) 17 0 (by omega) (by omega)
      rw [go_ov0, go_ov0, go_oW0] at w
      exact w
    rcases go_first (fun i => A (y * 4 + i) = x) (La y) with hA | ⟨i, hi, hAi, hAb⟩
    · exact key E JE (Or.inl ⟨hA, rfl⟩) (fun Q hQ => go_me0 nn ac pc tm md lo al A La P Lp E (go_ov D true y (nI g) 16) (go_oW W y (nI g) 16) (go_ov T 0 y (nI g) 16) U C IA.1 (by omega) hy hx hA Q hQ)
    · exact key (go_up E (y * 16 + x) true) (go_Eset JE hx hi hAi) (Or.inr ⟨i, hi, hAi, hAb, rfl⟩) (fun Q hQ => go_me1 nn ac pc tm md lo al A La P Lp E (go_ov D true y (nI g) 16) (go_oW W y (nI g) 16) (go_ov T 0 y (nI g) 16) U C IA.1 (by omega) hy hx hi hAi Q hQ)
theorem go_h11 {x y a : Nat} (hac : 2 ≤ ac ∧ ac ≤ 4) (Z : go_Z ac pc A La P Lp E T U C) (hl : lo + 10 < 2 ^ 31) (hx : x < 16) (hy : y < 16) (ha : a < 65536) : ∃ (A' La' P' Lp' : Nat → Nat) (E' D' W' : Nat → Bool) (T' : Nat → Nat) (U' : Nat → Bool) (C' : Nat → Nat) (lo' : Nat), go_Z ac pc A' La' P' Lp' E' T' U' C' ∧ lo' ≤ lo + 10 ∧ (∀ post : SX → Prop, post (nI nn, nI ac, nI pc, nI tm, nI md, nI lo', go_B al, go_N A', go_N La', go_N P', go_N Lp', go_M E', go_M D', go_M W', go_N T', go_S U' C') → wpX_onGraft post (nI nn, nI ac, nI pc, nI tm, nI md, nI lo, go_B al, go_N A, go_N La, go_N P, go_N Lp, go_M E, go_M D, go_M W, go_N T, go_S U C) (nI y) (nI x) (nI a)) ∧ (∀ post : SY → Prop, post (nI nn, nI ac, nI pc, nI tm, nI lo', nI md, go_B al, go_N A', go_N La', go_N P', go_N Lp', go_B E', go_B D', go_B W', go_N T', go_B U', go_N C') → wpY_handle post (nI nn, nI ac, nI pc, nI tm, nI lo, nI md, go_B al, go_N A, go_N La, go_N P, go_N Lp, go_B E, go_B D, go_B W, go_N T, go_B U, go_N C) 11 (nI x) (nI y) (nI a)) := by
  obtain ⟨IA, JE, I, hT, S⟩ := Z
  have hla := IA.2.1 y
  obtain ⟨g, hg, eg⟩ := go_and16n ha (go_M D y)
  have eX : nI a &&& go_M D (nI y).toNatClampNeg = nI g := by rw [go_rM D y]; exact eg
  have key : ∀ E' : Nat → Bool, go_IE A La E' → ∃ (U' : Nat → Bool) (C' : Nat → Nat) (lo' : Nat), go_IS U' C' ∧ lo' ≤ lo + 10 ∧ (∀ post : SX → Prop, post (nI nn, nI ac, nI pc, nI tm, nI md, nI lo', go_B al, go_N A, go_N La, go_N P, go_N Lp, go_M E', go_M D, go_M W, go_N T, go_S U' C') → (vp_in (nI y) 16 ∧ (∀ z : Int32, z = nI a &&& (go_M D (nI y).toNatClampNeg) → (((z = 0 → post (nI nn, nI ac, nI pc, nI tm, nI md, nI lo, go_B al, go_N A, go_N La, go_N P, go_N Lp, go_M E', go_M D, go_M W, go_N T, go_S U C)) ∧ (¬ z = 0 → wpX_send post (nI nn, nI ac, nI pc, nI tm, nI md, nI lo, go_B al, go_N A, go_N La, go_N P, go_N Lp, go_M E', go_M D, go_M W, go_N T, go_S U C) (nI y) (nI x) 9 z)))))) ∧ (∀ post : SY → Prop, post (nI nn, nI ac, nI pc, nI tm, nI lo', nI md, go_B al, go_N A, go_N La, go_N P, go_N Lp, go_B E', go_B D, go_B W, go_N T, go_B U', go_N C') → wY_handle_769 post (nI x) (nI y) (nI a) (nI nn) (nI ac) (nI pc) (nI tm) (nI lo) (nI md) (go_B al) (go_N A) (go_N La) (go_N P) (go_N Lp) (go_B E') (go_B D) (go_B W) (go_N T) (go_B U) (go_N C)) := by
    intro E' JE'
    by_cases g0 : g = 0
    · have q : nI g = 0 := by rw [g0]; exact nI_0
      refine ⟨U, C, lo, S, by omega, fun post hp => ⟨vp_in_nI hy (by omega), nm_r eX (br_t q hp)⟩, fun post hp => ?_⟩
      unfold wY_handle_769
      exact go_dM nn ac pc tm md lo al A La P Lp E' D W T U C hy _ (nm_r eg (br_t q hp))
    · have q : ¬ nI g = 0 := nI_ne0 (by omega) (by omega)
      obtain ⟨U1, C1, lo1, S1, hl1, hX1, hY1⟩ := go_send nn ac pc tm md lo al A La P Lp E' D W T U C (k := 9) S (by omega) hy hx (by omega) (by omega) hg
      refine ⟨U1, C1, lo1, S1, by omega, fun post hp => ⟨vp_in_nI hy (by omega), nm_r eX (br_f q (hX1 _ hp))⟩, fun post hp => ?_⟩
      unfold wY_handle_769
      exact go_dM nn ac pc tm md lo al A La P Lp E' D W T U C hy _ (nm_r eg (br_f q (hY1 _ hp)))
  have k1 : ¬ (11 : Int32) = 1 := by decide
  have k2 : ¬ (11 : Int32) = 2 := by decide
  have k3 : ¬ (11 : Int32) = 3 := by decide
  have k4 : ¬ (11 : Int32) = 4 := by decide
  have k5 : ¬ (11 : Int32) = 5 := by decide
  have k6 : ¬ (11 : Int32) = 6 := by decide
  have k7 : ¬ (11 : Int32) = 7 := by decide
  have k8 : ¬ (11 : Int32) = 8 := by decide
  have k9 : ¬ (11 : Int32) = 9 := by decide
  have k10 : ¬ (11 : Int32) = 10 := by decide
  rcases go_first (fun i => A (y * 4 + i) = x) (La y) with hA | ⟨i, hi, hAi, hAb⟩
  · obtain ⟨U', C', lo', S', hl', hX, hY⟩ := key E JE
    refine ⟨A, La, P, Lp, E, D, W, T, U', C', lo', ⟨IA, JE, I, hT, S'⟩, hl', fun post hp => ?_, fun post hp => br_f k1 (br_f k2 (br_f k3 (br_f k4 (br_f k5 (br_f k6 (br_f k7 (br_f k8 (br_f k9 (br_f k10 (br_t rfl (go_ps4 nn ac pc tm md lo al A La P Lp E D W T U C IA.1 (by omega) hy hx hA _ (br_t (by decide) (hY post hp)))))))))))))⟩
    unfold wpX_onGraft
    exact go_me0 nn ac pc tm md lo al A La P Lp E D W T U C IA.1 (by omega) hy hx hA _ (hX _ hp)
  · obtain ⟨U', C', lo', S', hl', hX, hY⟩ := key (go_up E (y * 16 + x) true) (go_Eset JE hx hi hAi)
    refine ⟨A, La, P, Lp, go_up E (y * 16 + x) true, D, W, T, U', C', lo', ⟨IA, go_Eset JE hx hi hAi, I, hT, S'⟩, hl', fun post hp => ?_, fun post hp => br_f k1 (br_f k2 (br_f k3 (br_f k4 (br_f k5 (br_f k6 (br_f k7 (br_f k8 (br_f k9 (br_f k10 (br_t rfl (go_psy4 nn ac pc tm md lo al A La P Lp E D W T U C IA.1 (by omega) hy hx hi hAi hAb _ (br_f (nI_pos (by omega)) ⟨pk_in (y * 16 + x) 256 (by omega) (go_ix16 y x), nm_r (go_uB E (y * 16 + x) true go_vt (go_ix16 y x)) (hY post hp)⟩))))))))))))⟩
    unfold wpX_onGraft
    exact go_me1 nn ac pc tm md lo al A La P Lp E D W T U C IA.1 (by omega) hy hx hi hAi _ (hX _ hp)
end
section
variable (nn ac pc tm md lo : Nat) (al : Nat → Bool) (A La P Lp : Nat → Nat) (E D : Nat → Bool) (U : Nat → Bool) (C : Nat → Nat)
theorem go_hil {x y a m : Nat} (htm : 1 ≤ tm ∧ tm ≤ 8) (hx : x < 16) (hy : y < 16) (hm : ∀ b, b < 16 → bt (nI m) b = (bt (nI a) b && !D (y * 16 + b))) : ∀ d b (W : Nat → Bool) (T : Nat → Nat), b + d = 16 → (∀ j, T j ≤ 8) → ∃ (W' : Nat → Bool) (T' : Nat → Nat), (∀ j, T' j ≤ 8) ∧ (∀ post : SX → Prop, post (nI nn, nI ac, nI pc, nI tm, nI md, nI lo, go_B al, go_N A, go_N La, go_N P, go_N Lp, go_M E, go_M D, go_M W', go_N T', go_S U C) → wX_onIhave_15 post (nI y) (nI x) (nI m) (nI nn) (nI ac) (nI pc) (nI tm) (nI md) (nI lo) (d + 1) (nI b) (go_B al) (go_N A) (go_N La) (go_N P) (go_N Lp) (go_M E) (go_M D) (go_M W) (go_N T) (go_S U C)) ∧ (∀ post : SY → Prop, post (nI nn, nI ac, nI pc, nI tm, nI lo, nI md, go_B al, go_N A, go_N La, go_N P, go_N Lp, go_B E, go_B D, go_B W', go_N T', go_B U, go_N C) → wY_handle_648 post (nI x) (nI y) (nI a) (nI nn) (nI ac) (nI pc) (nI tm) (nI lo) (nI md) (d + 1) (nI b) (go_B al) (go_N A) (go_N La) (go_N P) (go_N Lp) (go_B E) (go_B D) (go_B W) (go_N T) (go_B U) (go_N C)) := by
  intro d
  induction d with
  | zero =>
    intro b W T hb hT
    exact ⟨W, T, hT, fun post hp => br_t (nI_le (a := 16) (by omega) (by omega)) hp, fun post hp => br_t (nI_le (a := 16) (by omega) (by omega)) hp⟩
  | succ d ih =>
    intro b W T hb hT
    have h16 : b < 16 := by omega
    have hne : ¬ (16 : Int32) ≤ nI b := nI_ge (b := 16) h16 (by omega)
    have hmb := hm b h16
    have ix := go_ix16 y b
    cases za : bt (nI a) b with
    | false =>
      obtain ⟨W', T', hT', hX, hY⟩ := ih (b + 1) W T (by omega) hT
      rw [za, Bool.false_and] at hmb
      exact ⟨W', T', hT', fun post hp => br_f hne (br_t ((go_bm m b h16).mpr hmb) (nm_r (nI_1 b) (hX post hp))), fun post hp => br_f hne (br_t ((go_bm a b h16).mpr za) (nm_r (nI_1 b) (hY post hp)))⟩
    | true =>
      have qa : ¬ (nI a &&& ((1 : Int32) <<< (nI b &&& 31))) = 0 := fun q => by rw [(go_bm a b h16).mp q] at za; exact absurd za (by decide)
      cases zD : D (y * 16 + b) with
      | true =>
        obtain ⟨W', T', hT', hX, hY⟩ := ih (b + 1) W T (by omega) hT
        rw [za, zD] at hmb
        exact ⟨W', T', hT', fun post hp => br_f hne (br_t ((go_bm m b h16).mpr hmb) (nm_r (nI_1 b) (hX post hp))), fun post hp => br_f hne (br_f qa ⟨pk_in (y * 16 + b) 256 (by omega) ix, br_f (go_bn D (y * 16 + b) zD ix) (nm_r (nI_1 b) (hY post hp))⟩)⟩
      | false =>
        rw [za, zD] at hmb
        have qm : ¬ (nI m &&& ((1 : Int32) <<< (nI b &&& 31))) = 0 := fun q => by rw [(go_bm m b h16).mp q] at hmb; exact absurd hmb (by decide)
        have rT := go_rN (e := nI (y * 16 + b)) T (y * 16 + b) rfl (by omega)
        have rT2 := go_rN (e := nI y * 16 + nI b) T (y * 16 + b) ix (by omega)
        have hTb := hT (y * 16 + b)
        have hv : vp_in (nI (y * 16 + b)) 256 := vp_in_nI (by omega) (by omega)
        by_cases t0 : T (y * 16 + b) = 0
        · have hT2 : ∀ j, go_up T (y * 16 + b) tm j ≤ 8 := by
            intro j
            by_cases e : j = y * 16 + b
            · rw [e, go_us]; omega
            · rw [go_un e]; exact hT j
          obtain ⟨W', T', hT', hX, hY⟩ := ih (b + 1) (go_up W ((y * 16 + b) * 16 + x) true) (go_up T (y * 16 + b) tm) (by omega) hT2
          exact ⟨W', T', hT', fun post hp => br_f hne (br_f qm (nm_r ix ⟨hv, hv, nm_r (go_uMs W (y * 16 + b) x hx) ⟨hv, br_t (by rw [rT, t0]; exact nI_0) ⟨hv, nm_r (go_uN T (y * 16 + b) tm rfl) (nm_r (nI_1 b) (hX post hp))⟩⟩⟩)), fun post hp => br_f hne (br_f qa ⟨pk_in (y * 16 + b) 256 (by omega) ix, br_t (go_bz D (y * 16 + b) zD ix) ⟨pk_in ((y * 16 + b) * 16 + x) 4096 (by omega) (go_ix256 y b x), nm_r (go_uB W ((y * 16 + b) * 16 + x) true go_vt (go_ix256 y b x)) ⟨pk_in (y * 16 + b) 256 (by omega) ix, br_t (by rw [rT2, t0]; exact nI_0) ⟨pk_in (y * 16 + b) 256 (by omega) ix, nm_r (go_uN T (y * 16 + b) tm rfl ix) (nm_r (nI_1 b) (hY post hp))⟩⟩⟩⟩)⟩
        · obtain ⟨W', T', hT', hX, hY⟩ := ih (b + 1) (go_up W ((y * 16 + b) * 16 + x) true) T (by omega) hT
          exact ⟨W', T', hT', fun post hp => br_f hne (br_f qm (nm_r ix ⟨hv, hv, nm_r (go_uMs W (y * 16 + b) x hx) ⟨hv, br_f (by rw [rT]; exact nI_ne0 (by omega) (by omega)) (nm_r (nI_1 b) (hX post hp))⟩⟩)), fun post hp => br_f hne (br_f qa ⟨pk_in (y * 16 + b) 256 (by omega) ix, br_t (go_bz D (y * 16 + b) zD ix) ⟨pk_in ((y * 16 + b) * 16 + x) 4096 (by omega) (go_ix256 y b x), nm_r (go_uB W ((y * 16 + b) * 16 + x) true go_vt (go_ix256 y b x)) ⟨pk_in (y * 16 + b) 256 (by omega) ix, br_f (by rw [rT2]; exact nI_ne0 (by omega) (by omega)) (nm_r (nI_1 b) (hY post hp))⟩⟩⟩)⟩
end
section
variable (nn ac pc tm md lo : Nat) (al : Nat → Bool) (A La P Lp : Nat → Nat) (E D W : Nat → Bool) (T : Nat → Nat) (U : Nat → Bool) (C : Nat → Nat)
theorem go_h10 {x y a : Nat} (htm : 1 ≤ tm ∧ tm ≤ 8) (Z : go_Z ac pc A La P Lp E T U C) (hx : x < 16) (hy : y < 16) (ha : a < 65536) : ∃ (A' La' P' Lp' : Nat → Nat) (E' D' W' : Nat → Bool) (T' : Nat → Nat) (U' : Nat → Bool) (C' : Nat → Nat) (lo' : Nat), go_Z ac pc A' La' P' Lp' E' T' U' C' ∧ lo' ≤ lo + 10 ∧ (∀ post : SX → Prop, post (nI nn, nI ac, nI pc, nI tm, nI md, nI lo', go_B al, go_N A', go_N La', go_N P', go_N Lp', go_M E', go_M D', go_M W', go_N T', go_S U' C') → wpX_onIhave post (nI nn, nI ac, nI pc, nI tm, nI md, nI lo, go_B al, go_N A, go_N La, go_N P, go_N Lp, go_M E, go_M D, go_M W, go_N T, go_S U C) (nI y) (nI x) (nI a)) ∧ (∀ post : SY → Prop, post (nI nn, nI ac, nI pc, nI tm, nI lo', nI md, go_B al, go_N A', go_N La', go_N P', go_N Lp', go_B E', go_B D', go_B W', go_N T', go_B U', go_N C') → wpY_handle post (nI nn, nI ac, nI pc, nI tm, nI lo, nI md, go_B al, go_N A, go_N La, go_N P, go_N Lp, go_B E, go_B D, go_B W, go_N T, go_B U, go_N C) 10 (nI x) (nI y) (nI a)) := by
  obtain ⟨IA, JE, I, hT, S⟩ := Z
  obtain ⟨m, hm, em⟩ := go_and16n ha (go_M D y ^^^ (-1))
  have eX : nI a &&& (go_M D (nI y).toNatClampNeg ^^^ (-1)) = nI m := by rw [go_rM D y]; exact em
  have hb : ∀ b, b < 16 → bt (nI m) b = (bt (nI a) b && !D (y * 16 + b)) := by
    intro b h16
    rw [← em, b_and, b_xor, b_m1 b (by omega), go_Mb D y b (by omega), decide_eq_true h16, Bool.true_and, Bool.xor_true]
  obtain ⟨W', T', hT', hX, hY⟩ := go_hil nn ac pc tm md lo al A La P Lp E D U C htm hx hy hb 16 0 W T (by omega) hT
  exact ⟨A, La, P, Lp, E, D, W', T', U, C, lo, ⟨IA, JE, I, hT', S⟩, by omega, fun post hp => ⟨vp_in_nI hy (by omega), nm_r eX ⟨_, hX post hp⟩⟩, fun post hp => br_f (by decide) (br_f (by decide) (br_f (by decide) (br_f (by decide) (br_f (by decide) (br_f (by decide) (br_f (by decide) (br_f (by decide) (br_f (by decide) (br_t rfl ⟨_, hY post hp⟩)))))))))⟩
end
