theorem go_ovr {α : Type} (f : Nat → α) (v : α) (y : Nat) (g : Int32) (z b : Nat) (hb : b < 16) : go_ov f v y g 16 (z * 16 + b) = if z = y ∧ bt g b = true then v else f (z * 16 + b) := by
  unfold go_ov
  by_cases e : z = y
  · rw [e]
    by_cases q : bt g b = true
    · rw [if_pos ⟨by omega, by omega, by rw [Nat.add_sub_cancel_left]; exact q⟩, if_pos ⟨rfl, q⟩]
    · rw [if_neg (fun h => q (by have := h.2.2; rw [Nat.add_sub_cancel_left] at this; exact this)), if_neg (fun h => q h.2)]
  · rw [if_neg (fun h => e (by have := h.1; have := h.2.1; omega)), if_neg (fun h => e h.1)]
theorem go_oWr (f : Nat → Bool) (y : Nat) (g : Int32) (z b x : Nat) (hb : b < 16) (hx : x < 16) : go_oW f y g 16 ((z * 16 + b) * 16 + x) = if z = y ∧ bt g b = true then false else f ((z * 16 + b) * 16 + x) := by
  unfold go_oW
  rw [show ((z * 16 + b) * 16 + x) / 16 = z * 16 + b by omega]
  by_cases e : z = y
  · rw [e]
    by_cases q : bt g b = true
    · rw [if_pos ⟨by omega, by omega, by rw [Nat.add_sub_cancel_left]; exact q⟩, if_pos ⟨rfl, q⟩]
    · rw [if_neg (fun h => q (by have := h.2.2; rw [Nat.add_sub_cancel_left] at this; exact this)), if_neg (fun h => q h.2)]
  · rw [if_neg (fun h => e (by have := h.1; have := h.2.1; omega)), if_neg (fun h => e h.1)]
theorem go_ix256 (y b p : Nat) : nI y * 256 + nI b * 16 + nI p = nI ((y * 16 + b) * 16 + p) := by
  show nI y * nI 256 + nI b * nI 16 + nI p = _
  rw [pk_mul, pk_mul, nI_add, nI_add]
  exact congrArg nI (by omega)
theorem go_abit (a : Nat) (D : Nat → Bool) (y b : Nat) (hb : b < 16) : bt (nI a &&& (go_M D y ^^^ (-1))) b = (bt (nI a) b && !D (y * 16 + b)) := by
  rw [b_and, b_xor, b_m1 b (by omega), go_Mb D y b (by omega), decide_eq_true hb, Bool.true_and, Bool.xor_true]
theorem go_bfalse {p q : Bool} (h : (p && !q) = false) (hp : p = true) : q = true := by
  rw [hp] at h
  cases q
  · exact absurd h (by decide)
  · rfl
/-- what holds of every link but for the message (k from x to y with a) that is being handled -/
def go_in1 (al : Nat → Bool) (A La : Nat → Nat) (D W : Nat → Bool) (T : Nat → Nat) (U : Nat → Bool) (C : Nat → Nat) (x y a : Nat) : Prop := ∀ x' y' b, x' < 16 → y' < 16 → b < 16 → al x' = true → al y' = true → go_lk A La x' y' → D (x' * 16 + b) = true → go_ok D W T U C x' y' b ∨ (x' = x ∧ y' = y ∧ bt (nI a) b = true)
section
variable (nn ac pc tm md lo : Nat) (al : Nat → Bool) (A La P Lp : Nat → Nat) (E D W : Nat → Bool) (T : Nat → Nat) (U : Nat → Bool) (C : Nat → Nat)
theorem go_h9 {x y a : Nat} (hac : 2 ≤ ac ∧ ac ≤ 4) (Z : go_Z ac pc A La P Lp E T U C) (hl : lo + 10 < 2 ^ 31) (hx : x < 16) (hy : y < 16) (ha : a < 65536) (hms : ∀ b, b < 16 → bt (nI a) b = true → D (x * 16 + b) = true) : ∃ (E' D' W' : Nat → Bool) (T' : Nat → Nat) (U' : Nat → Bool) (C' : Nat → Nat) (lo' : Nat), go_Z ac pc A La P Lp E' T' U' C' ∧ lo' ≤ lo + 10 ∧ (∀ j, D j = true → D' j = true) ∧ (∀ z b, b < 16 → D' (z * 16 + b) = true → D (z * 16 + b) = true ∨ D (x * 16 + b) = true) ∧ go_pe U C lo U' C' lo' (go_ms D') ∧ (lo' = lo → go_in1 al A La D W T U C x y a → go_inv al A La D' W' T' U' C') ∧ (∀ post : St2 → Prop, post (nI nn, nI ac, nI pc, nI tm, nI md, nI lo', go_B al, go_N A, go_N La, go_N P, go_N Lp, go_M E', go_M D', go_M W', go_N T', go_S U' C') → wpX_onGossip post (nI nn, nI ac, nI pc, nI tm, nI md, nI lo, go_B al, go_N A, go_N La, go_N P, go_N Lp, go_M E, go_M D, go_M W, go_N T, go_S U C) (nI y) (nI x) (nI a)) := by
  obtain ⟨IA, JE, I, hT, S⟩ := Z
  have hla := IA.2.1 y
  obtain ⟨g, hg, eg⟩ := go_and16n ha (go_M D y ^^^ (-1))
  have eX : nI a &&& (go_M D (nI y).toNatClampNeg ^^^ (-1)) = nI g := by rw [go_rM D y]; exact eg
  have hgb : ∀ b, b < 16 → bt (nI g) b = (bt (nI a) b && !D (y * 16 + b)) := fun b hb => by rw [← eg]; exact go_abit a D y b hb
  have hga : ∀ b, b < 16 → bt (nI g) b = true → bt (nI a) b = true := fun b hb q => by
    rw [hgb b hb] at q
    exact (Bool.and_eq_true_iff.mp q).1
  by_cases g0 : g = 0
  · have q : nI g = 0 := by rw [g0]; exact nI_0
    obtain ⟨U1, C1, lo1, S1, hl1, hpe1, _, hX1⟩ := go_send nn ac pc tm md lo al A La P Lp (go_up E (y * 16 + x) false) D W T U C (k := 12) (a := 0) S (by omega) hy hx (by omega) (by omega) (by omega)
    refine ⟨go_up E (y * 16 + x) false, D, W, T, U1, C1, lo1, ⟨IA, go_Eclr JE _, I, hT, S1⟩, by omega, fun _ h => h, fun _ _ _ h => Or.inl h, go_pew hpe1 (fun c hc => by rw [hc]; exact go_msn (by omega) (by omega) hy hx (by omega) (by omega)), fun e H x' y' b hx' hy' hb ax ay l d => ?_, fun post hp => ⟨vp_in_nI hy (by omega), nm_r eX (br_t q ⟨vp_in_nI hy (by omega), vp_in_nI hy (by omega), nm_r (go_uMc E y x hx) (hX1 _ hp)⟩)⟩⟩
    rcases H x' y' b hx' hy' hb ax ay l d with h | ⟨h1, h2, h3⟩
    · exact go_okp hpe1 h
    · rw [h2]
      have w := hgb b hb
      rw [q, b_0] at w
      exact Or.inl (go_bfalse w.symm h3)
  · have q : ¬ nI g = 0 := nI_ne0 (by omega) (by omega)
    have hD : upd (go_M D) (nI y).toNatClampNeg (go_M D (nI y).toNatClampNeg ||| nI g) = go_M (go_ov D true y (nI g) 16) := by
      rw [nI_clamp (by omega)]
      exact go_Dor D y (nI g) (fun i h1 _ => go_n16 hg h1)
    have hT' : ∀ j, go_ov T 0 y (nI g) 16 j ≤ 8 := by
      intro j
      unfold go_ov
      split
      · omega
      · exact hT j
    have hDD : ∀ j, D j = true → go_ov D true y (nI g) 16 j = true := by
      intro j h
      unfold go_ov
      split
      · rfl
      · exact h
    have hmD : ∀ b, b < 16 → bt (nI g) b = true → go_ov D true y (nI g) 16 (y * 16 + b) = true := fun b hb h => by
      rw [go_ovr D true y (nI g) y b hb, if_pos ⟨rfl, h⟩]
    have key : ∀ E' : Nat → Bool, go_IE A La E' → (∀ Q : St2 → Prop, Q (nI nn, nI ac, nI pc, nI tm, nI md, nI lo, go_B al, go_N A, go_N La, go_N P, go_N Lp, go_M E', go_M (go_ov D true y (nI g) 16), go_M (go_oW W y (nI g) 16), go_N (go_ov T 0 y (nI g) 16), go_S U C) → wpX_makeEager Q (nI nn, nI ac, nI pc, nI tm, nI md, nI lo, go_B al, go_N A, go_N La, go_N P, go_N Lp, go_M E, go_M (go_ov D true y (nI g) 16), go_M (go_oW W y (nI g) 16), go_N (go_ov T 0 y (nI g) 16), go_S U C) (nI y) (nI x)) → ∃ (E' D' W' : Nat → Bool) (T' : Nat → Nat) (U' : Nat → Bool) (C' : Nat → Nat) (lo' : Nat), go_Z ac pc A La P Lp E' T' U' C' ∧ lo' ≤ lo + 10 ∧ (∀ j, D j = true → D' j = true) ∧ (∀ z b, b < 16 → D' (z * 16 + b) = true → D (z * 16 + b) = true ∨ D (x * 16 + b) = true) ∧ go_pe U C lo U' C' lo' (go_ms D') ∧ (lo' = lo → go_in1 al A La D W T U C x y a → go_inv al A La D' W' T' U' C') ∧ (∀ post : St2 → Prop, post (nI nn, nI ac, nI pc, nI tm, nI md, nI lo', go_B al, go_N A, go_N La, go_N P, go_N Lp, go_M E', go_M D', go_M W', go_N T', go_S U' C') → wpX_onGossip post (nI nn, nI ac, nI pc, nI tm, nI md, nI lo, go_B al, go_N A, go_N La, go_N P, go_N Lp, go_M E, go_M D, go_M W, go_N T, go_S U C) (nI y) (nI x) (nI a)) := by
      intro E' JE' hM
      obtain ⟨U1, C1, lo1, S1, hl1, hpe1, hgt1, hX1⟩ := go_fwd nn ac pc tm md lo al A La P Lp E' (go_ov D true y (nI g) 16) (go_oW W y (nI g) 16) (go_ov T 0 y (nI g) 16) U C (nI x) IA.1 (by omega) S (by omega) hy hg hmD
      refine ⟨E', go_ov D true y (nI g) 16, go_oW W y (nI g) 16, go_ov T 0 y (nI g) 16, U1, C1, lo1, ⟨IA, JE', I, hT', S1⟩, by omega, hDD, fun z b hb h => ?_, hpe1, fun e H x' y' b hx' hy' hb ax ay l d => ?_, fun post hp => ⟨vp_in_nI hy (by omega), nm_r eX (br_f q ⟨vp_in_nI hy (by omega), vp_in_nI hy (by omega), nm_r hD (go_stop nn ac pc tm md lo al A La P Lp E (go_ov D true y (nI g) 16) W T U C hy _ (hM _ (hX1 _ hp)))⟩)⟩⟩
      · rw [go_ovr D true y (nI g) z b hb] at h
        by_cases w : z = y ∧ bt (nI g) b = true
        · exact Or.inr (hms b hb (hga b hb w.2))
        · rw [if_neg w] at h; exact Or.inl h
      · by_cases c1 : y' = y ∧ bt (nI g) b = true
        · exact Or.inl (by rw [go_ovr D true y (nI g) y' b hb, if_pos c1])
        · have keep : go_ok D W T U C x' y' b → go_ok (go_ov D true y (nI g) 16) (go_oW W y (nI g) 16) (go_ov T 0 y (nI g) 16) U1 C1 x' y' b := by
            intro h
            rcases go_okp hpe1 h with h | h | h | h | h
            · exact Or.inl (hDD _ h)
            · exact Or.inr (Or.inl h)
            · exact Or.inr (Or.inr (Or.inl h))
            · refine Or.inr (Or.inr (Or.inr (Or.inl ⟨?_, ?_⟩)))
              · rw [go_oWr W y (nI g) y' b x' hb hx', if_neg c1]; exact h.1
              · rw [go_ovr T 0 y (nI g) y' b hb, if_neg c1]; exact h.2
            · exact Or.inr (Or.inr (Or.inr (Or.inr h)))
          rw [go_ovr D true y (nI g) x' b hb] at d
          by_cases c2 : x' = y ∧ bt (nI g) b = true
          · obtain ⟨i, hi, hAi⟩ := l
            rw [c2.1] at hi hAi ⊢
            by_cases c3 : y' = x
            · rw [c3]
              exact Or.inl (hDD _ (hms b hb (hga b hb c2.2)))
            · have nsv : ¬ nI (A (y * 4 + i)) = nI x := by
                rw [hAi, nI_eq (by omega) (by omega)]; exact c3
              rcases hgt1 e i hi nsv (by rw [hAi]; exact ay) with w | w
              · rw [hAi] at w
                exact Or.inr (Or.inl (go_gth (by omega) (by omega) hy hy' hg hb c2.2 w))
              · rw [hAi] at w
                exact Or.inr (Or.inr (Or.inl (go_gth (by omega) (by omega) hy hy' hg hb c2.2 w)))
          · rw [if_neg c2] at d
            rcases H x' y' b hx' hy' hb ax ay l d with h | ⟨h1, h2, h3⟩
            · exact keep h
            · have w := hgb b hb
              have c4 : bt (nI g) b = false := by
                cases hh : bt (nI g) b with
                | false => rfl
                | true => exact absurd ⟨h2, hh⟩ c1
              rw [c4] at w
              rw [h2]
              exact Or.inl (hDD _ (go_bfalse w.symm h3))
    rcases go_first (fun i => A (y * 4 + i) = x) (La y) with hA | ⟨i, hi, hAi, hAb⟩
    · exact key E JE (fun Q hQ => go_me0 nn ac pc tm md lo al A La P Lp E (go_ov D true y (nI g) 16) (go_oW W y (nI g) 16) (go_ov T 0 y (nI g) 16) U C IA.1 (by omega) hy hx hA Q hQ)
    · exact key (go_up E (y * 16 + x) true) (go_Eset JE hx hi hAi) (fun Q hQ => go_me1 nn ac pc tm md lo al A La P Lp E (go_ov D true y (nI g) 16) (go_oW W y (nI g) 16) (go_ov T 0 y (nI g) 16) U C IA.1 (by omega) hy hx hi hAi Q hQ)
theorem go_h11 {x y a : Nat} (hac : 2 ≤ ac ∧ ac ≤ 4) (Z : go_Z ac pc A La P Lp E T U C) (hl : lo + 10 < 2 ^ 31) (hx : x < 16) (hy : y < 16) (ha : a < 65536) : ∃ (E' : Nat → Bool) (U' : Nat → Bool) (C' : Nat → Nat) (lo' : Nat), go_Z ac pc A La P Lp E' T U' C' ∧ lo' ≤ lo + 10 ∧ go_pe U C lo U' C' lo' (go_ms D) ∧ (lo' = lo → go_in1 al A La D W T U C y x a → go_inv al A La D W T U' C') ∧ (∀ post : St2 → Prop, post (nI nn, nI ac, nI pc, nI tm, nI md, nI lo', go_B al, go_N A, go_N La, go_N P, go_N Lp, go_M E', go_M D, go_M W, go_N T, go_S U' C') → wpX_onGraft post (nI nn, nI ac, nI pc, nI tm, nI md, nI lo, go_B al, go_N A, go_N La, go_N P, go_N Lp, go_M E, go_M D, go_M W, go_N T, go_S U C) (nI y) (nI x) (nI a)) := by
  obtain ⟨IA, JE, I, hT, S⟩ := Z
  have hla := IA.2.1 y
  obtain ⟨g, hg, eg⟩ := go_and16n ha (go_M D y)
  have eX : nI a &&& go_M D (nI y).toNatClampNeg = nI g := by rw [go_rM D y]; exact eg
  have hgb : ∀ b, b < 16 → bt (nI g) b = (bt (nI a) b && D (y * 16 + b)) := fun b hb => by rw [← eg, b_and, go_Mb D y b (by omega), decide_eq_true hb, Bool.true_and]
  have key : ∀ E' : Nat → Bool, ∃ (U' : Nat → Bool) (C' : Nat → Nat) (lo' : Nat), go_IS U' C' ∧ lo' ≤ lo + 10 ∧ go_pe U C lo U' C' lo' (go_ms D) ∧ (lo' = lo → go_in1 al A La D W T U C y x a → go_inv al A La D W T U' C') ∧ (∀ post : St2 → Prop, post (nI nn, nI ac, nI pc, nI tm, nI md, nI lo', go_B al, go_N A, go_N La, go_N P, go_N Lp, go_M E', go_M D, go_M W, go_N T, go_S U' C') → (vp_in (nI y) 16 ∧ (∀ z : Int32, z = nI a &&& (go_M D (nI y).toNatClampNeg) → (((z = 0 → post (nI nn, nI ac, nI pc, nI tm, nI md, nI lo, go_B al, go_N A, go_N La, go_N P, go_N Lp, go_M E', go_M D, go_M W, go_N T, go_S U C)) ∧ (¬ z = 0 → wpX_send post (nI nn, nI ac, nI pc, nI tm, nI md, nI lo, go_B al, go_N A, go_N La, go_N P, go_N Lp, go_M E', go_M D, go_M W, go_N T, go_S U C) (nI y) (nI x) 9 z)))))) := by
    intro E'
    by_cases g0 : g = 0
    · have q : nI g = 0 := by rw [g0]; exact nI_0
      refine ⟨U, C, lo, S, by omega, go_pe0 U C lo _, fun e H x' y' b hx' hy' hb ax ay l d => ?_, fun post hp => ⟨vp_in_nI hy (by omega), nm_r eX (br_t q hp)⟩⟩
      rcases H x' y' b hx' hy' hb ax ay l d with h | ⟨h1, h2, h3⟩
      · exact h
      · have w := hgb b hb
        rw [q, b_0, h3] at w
        rw [h1] at d
        rw [d] at w
        exact absurd w (by decide)
    · have q : ¬ nI g = 0 := nI_ne0 (by omega) (by omega)
      obtain ⟨U1, C1, lo1, S1, hl1, hpe1, hgt1, hX1⟩ := go_send nn ac pc tm md lo al A La P Lp E' D W T U C (k := 9) S (by omega) hy hx (by omega) (by omega) hg
      refine ⟨U1, C1, lo1, S1, by omega, go_pew hpe1 (fun c hc => by rw [hc]; exact go_ms9 hy hx hg (fun b hb h => by rw [hgb b hb] at h; exact (Bool.and_eq_true_iff.mp h).2)), fun e H x' y' b hx' hy' hb ax ay l d => ?_, fun post hp => ⟨vp_in_nI hy (by omega), nm_r eX (br_f q (hX1 _ hp))⟩⟩
      rcases H x' y' b hx' hy' hb ax ay l d with h | ⟨h1, h2, h3⟩
      · exact go_okp hpe1 h
      · have w := hgb b hb
        rw [h1] at d
        rw [h3, d] at w
        rw [h2] at ay
        rw [h1, h2]
        exact Or.inr (Or.inl (go_gth (by omega) (by omega) hy hx hg hb w (hgt1 e ay)))
  rcases go_first (fun i => A (y * 4 + i) = x) (La y) with hA | ⟨i, hi, hAi, hAb⟩
  · obtain ⟨U', C', lo', S', hl', hpe, hiv, hX⟩ := key E
    refine ⟨E, U', C', lo', ⟨IA, JE, I, hT, S'⟩, hl', hpe, hiv, fun post hp => ?_⟩
    unfold wpX_onGraft
    exact go_me0 nn ac pc tm md lo al A La P Lp E D W T U C IA.1 (by omega) hy hx hA _ (hX _ hp)
  · obtain ⟨U', C', lo', S', hl', hpe, hiv, hX⟩ := key (go_up E (y * 16 + x) true)
    refine ⟨go_up E (y * 16 + x) true, U', C', lo', ⟨IA, go_Eset JE hx hi hAi, I, hT, S'⟩, hl', hpe, hiv, fun post hp => ?_⟩
    unfold wpX_onGraft
    exact go_me1 nn ac pc tm md lo al A La P Lp E D W T U C IA.1 (by omega) hy hx hi hAi _ (hX _ hp)
end
section
variable (nn ac pc tm md lo : Nat) (al : Nat → Bool) (A La P Lp : Nat → Nat) (E D : Nat → Bool) (U : Nat → Bool) (C : Nat → Nat)
theorem go_hil {x y a m : Nat} (htm : 1 ≤ tm ∧ tm ≤ 8) (hx : x < 16) (hy : y < 16) (hm : ∀ b, b < 16 → bt (nI m) b = (bt (nI a) b && !D (y * 16 + b))) : ∀ d b (W : Nat → Bool) (T : Nat → Nat), b + d = 16 → (∀ j, T j ≤ 8) → ∃ (W' : Nat → Bool) (T' : Nat → Nat), (∀ j, T' j ≤ 8) ∧ (∀ j, W j = true → W' j = true) ∧ (∀ j, 0 < T j → 0 < T' j) ∧ (∀ c, b ≤ c → c < 16 → bt (nI m) c = true → W' ((y * 16 + c) * 16 + x) = true ∧ 0 < T' (y * 16 + c)) ∧ (∀ post : St2 → Prop, post (nI nn, nI ac, nI pc, nI tm, nI md, nI lo, go_B al, go_N A, go_N La, go_N P, go_N Lp, go_M E, go_M D, go_M W', go_N T', go_S U C) → wX_onIhave_15 post (nI y) (nI x) (nI m) (nI nn) (nI ac) (nI pc) (nI tm) (nI md) (nI lo) (d + 1) (nI b) (go_B al) (go_N A) (go_N La) (go_N P) (go_N Lp) (go_M E) (go_M D) (go_M W) (go_N T) (go_S U C)) := by
  intro d
  induction d with
  | zero =>
    intro b W T hb hT
    exact ⟨W, T, hT, fun _ h => h, fun _ h => h, fun c h1 h2 => absurd h2 (by omega), fun post hp => br_t (nI_le (a := 16) (by omega) (by omega)) hp⟩
  | succ d ih =>
    intro b W T hb hT
    have h16 : b < 16 := by omega
    have hne : ¬ (16 : Int32) ≤ nI b := nI_ge (b := 16) h16 (by omega)
    have ix := go_ix16 y b
    cases zm : bt (nI m) b with
    | false =>
      obtain ⟨W', T', hT', hW1, hT1, hset, hX⟩ := ih (b + 1) W T (by omega) hT
      refine ⟨W', T', hT', hW1, hT1, fun c h1 h2 h3 => ?_, fun post hp => br_f hne (br_t ((go_bm m b h16).mpr zm) (nm_r (nI_1 b) (hX post hp)))⟩
      by_cases q : c = b
      · rw [q, zm] at h3; exact absurd h3 (by decide)
      · exact hset c (by omega) h2 h3
    | true =>
      have qm : ¬ (nI m &&& ((1 : Int32) <<< (nI b &&& 31))) = 0 := fun q => by rw [(go_bm m b h16).mp q] at zm; exact absurd zm (by decide)
      have rT := go_rN (e := nI (y * 16 + b)) T (y * 16 + b) rfl (by omega)
      have hTb := hT (y * 16 + b)
      have hv : vp_in (nI (y * 16 + b)) 256 := vp_in_nI (by omega) (by omega)
      have hWu : ∀ j, W j = true → go_up W ((y * 16 + b) * 16 + x) true j = true := fun j h => by
        by_cases q : j = (y * 16 + b) * 16 + x
        · rw [q]; exact go_us
        · rw [go_un q]; exact h
      by_cases t0 : T (y * 16 + b) = 0
      · have hT2 : ∀ j, go_up T (y * 16 + b) tm j ≤ 8 := by
          intro j
          by_cases e : j = y * 16 + b
          · rw [e, go_us]; omega
          · rw [go_un e]; exact hT j
        have hTu : ∀ j, 0 < T j → 0 < go_up T (y * 16 + b) tm j := fun j h => by
          by_cases q : j = y * 16 + b
          · rw [q, go_us]; omega
          · rw [go_un q]; exact h
        obtain ⟨W', T', hT', hW1, hT1, hset, hX⟩ := ih (b + 1) (go_up W ((y * 16 + b) * 16 + x) true) (go_up T (y * 16 + b) tm) (by omega) hT2
        refine ⟨W', T', hT', fun j h => hW1 j (hWu j h), fun j h => hT1 j (hTu j h), fun c h1 h2 h3 => ?_, fun post hp => br_f hne (br_f qm (nm_r ix ⟨hv, hv, nm_r (go_uMs W (y * 16 + b) x hx) ⟨hv, br_t (by rw [rT, t0]; exact nI_0) ⟨hv, nm_r (go_uN T (y * 16 + b) tm rfl) (nm_r (nI_1 b) (hX post hp))⟩⟩⟩))⟩
        by_cases q : c = b
        · rw [q]; exact ⟨hW1 _ go_us, hT1 _ (by rw [go_us]; omega)⟩
        · exact hset c (by omega) h2 h3
      · obtain ⟨W', T', hT', hW1, hT1, hset, hX⟩ := ih (b + 1) (go_up W ((y * 16 + b) * 16 + x) true) T (by omega) hT
        refine ⟨W', T', hT', fun j h => hW1 j (hWu j h), hT1, fun c h1 h2 h3 => ?_, fun post hp => br_f hne (br_f qm (nm_r ix ⟨hv, hv, nm_r (go_uMs W (y * 16 + b) x hx) ⟨hv, br_f (by rw [rT]; exact nI_ne0 (by omega) (by omega)) (nm_r (nI_1 b) (hX post hp))⟩⟩))⟩
        by_cases q : c = b
        · rw [q]; exact ⟨hW1 _ go_us, hT1 _ (by omega)⟩
        · exact hset c (by omega) h2 h3
end
section
variable (nn ac pc tm md lo : Nat) (al : Nat → Bool) (A La P Lp : Nat → Nat) (E D W : Nat → Bool) (T : Nat → Nat) (U : Nat → Bool) (C : Nat → Nat)
theorem go_h10 {x y a : Nat} (htm : 1 ≤ tm ∧ tm ≤ 8) (Z : go_Z ac pc A La P Lp E T U C) (hx : x < 16) (hy : y < 16) (ha : a < 65536) : ∃ (W' : Nat → Bool) (T' : Nat → Nat), go_Z ac pc A La P Lp E T' U C ∧ (go_in1 al A La D W T U C x y a → go_inv al A La D W' T' U C) ∧ (∀ post : St2 → Prop, post (nI nn, nI ac, nI pc, nI tm, nI md, nI lo, go_B al, go_N A, go_N La, go_N P, go_N Lp, go_M E, go_M D, go_M W', go_N T', go_S U C) → wpX_onIhave post (nI nn, nI ac, nI pc, nI tm, nI md, nI lo, go_B al, go_N A, go_N La, go_N P, go_N Lp, go_M E, go_M D, go_M W, go_N T, go_S U C) (nI y) (nI x) (nI a)) := by
  obtain ⟨IA, JE, I, hT, S⟩ := Z
  obtain ⟨m, hm, em⟩ := go_and16n ha (go_M D y ^^^ (-1))
  have eX : nI a &&& (go_M D (nI y).toNatClampNeg ^^^ (-1)) = nI m := by rw [go_rM D y]; exact em
  have hb : ∀ b, b < 16 → bt (nI m) b = (bt (nI a) b && !D (y * 16 + b)) := fun b h16 => by rw [← em]; exact go_abit a D y b h16
  obtain ⟨W', T', hT', hW1, hT1, hset, hX⟩ := go_hil nn ac pc tm md lo al A La P Lp E D U C htm hx hy hb 16 0 W T (by omega) hT
  refine ⟨W', T', ⟨IA, JE, I, hT', S⟩, fun H x' y' b hx' hy' hb' ax ay l d => ?_, fun post hp => ⟨vp_in_nI hy (by omega), nm_r eX ⟨_, hX post hp⟩⟩⟩
  rcases H x' y' b hx' hy' hb' ax ay l d with h | ⟨h1, h2, h3⟩
  · rcases h with h | h | h | h | h
    · exact Or.inl h
    · exact Or.inr (Or.inl h)
    · exact Or.inr (Or.inr (Or.inl h))
    · exact Or.inr (Or.inr (Or.inr (Or.inl ⟨hW1 _ h.1, hT1 _ h.2⟩)))
    · exact Or.inr (Or.inr (Or.inr (Or.inr h)))
  · rw [h1, h2]
    cases hD : D (y * 16 + b) with
    | true => exact Or.inl hD
    | false => exact Or.inr (Or.inr (Or.inr (Or.inl (hset b (by omega) hb' (by rw [hb b hb', h3, hD]; rfl)))))
end
