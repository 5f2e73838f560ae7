theorem go_rem1 {U : Nat → Bool} {C : Nat → Nat} {k x y b : Nat} (s : Nat) (h : go_hs U C k x y b) : go_hs (go_up U s false) C k x y b ∨ (C s / 2 ^ 24 = k ∧ C s / 2 ^ 20 % 2 ^ 4 = x ∧ C s / 2 ^ 16 % 2 ^ 4 = y ∧ bt (nI (C s)) b = true) := by
  obtain ⟨t, ht, hU, h1, h2, h3, h4⟩ := h
  by_cases e : t = s
  · rw [e] at h1 h2 h3 h4
    exact Or.inr ⟨h1, h2, h3, h4⟩
  · exact Or.inl ⟨t, ht, (go_un e).trans hU, h1, h2, h3, h4⟩
theorem go_okrem {D W : Nat → Bool} {T : Nat → Nat} {U : Nat → Bool} {C : Nat → Nat} {s x' y' b : Nat} (hc : C s < 2 ^ 31) (hb : b < 16) (h : go_ok D W T U C x' y' b) : go_ok D W T (go_up U s false) C x' y' b ∨ ((C s / 2 ^ 24 = 9 ∨ C s / 2 ^ 24 = 10) ∧ x' = C s / 2 ^ 20 % 2 ^ 4 ∧ y' = C s / 2 ^ 16 % 2 ^ 4 ∧ bt (nI (C s % 2 ^ 16)) b = true) ∨ (C s / 2 ^ 24 = 11 ∧ x' = C s / 2 ^ 16 % 2 ^ 4 ∧ y' = C s / 2 ^ 20 % 2 ^ 4 ∧ bt (nI (C s % 2 ^ 16)) b = true) := by
  rw [go_lowb hc hb]
  rcases h with h | h | h | h | h
  · exact Or.inl (Or.inl h)
  · rcases go_rem1 s h with g | ⟨g1, g2, g3, g4⟩
    · exact Or.inl (Or.inr (Or.inl g))
    · exact Or.inr (Or.inl ⟨Or.inl g1, g2.symm, g3.symm, g4⟩)
  · rcases go_rem1 s h with g | ⟨g1, g2, g3, g4⟩
    · exact Or.inl (Or.inr (Or.inr (Or.inl g)))
    · exact Or.inr (Or.inl ⟨Or.inr g1, g2.symm, g3.symm, g4⟩)
  · exact Or.inl (Or.inr (Or.inr (Or.inr (Or.inl h))))
  · rcases go_rem1 s h with g | ⟨g1, g2, g3, g4⟩
    · exact Or.inl (Or.inr (Or.inr (Or.inr (Or.inr g))))
    · exact Or.inr (Or.inr ⟨g1, g3.symm, g2.symm, g4⟩)
theorem go_iv0 {al : Nat → Bool} {A La : Nat → Nat} {D W : Nat → Bool} {T : Nat → Nat} {U : Nat → Bool} {C : Nat → Nat} {s : Nat} (hc : C s < 2 ^ 31) (h9 : C s / 2 ^ 24 ≠ 9) (h10 : C s / 2 ^ 24 ≠ 10) (h11 : C s / 2 ^ 24 ≠ 11) (H : go_inv al A La D W T U C) : go_inv al A La D W T (go_up U s false) C := by
  intro x' y' b hx' hy' hb ax ay l d
  rcases go_okrem (s := s) hc hb (H x' y' b hx' hy' hb ax ay l d) with h | h | h
  · exact h
  · exact absurd h.1 (by omega)
  · exact absurd h.1 h11
theorem go_iv1 {al : Nat → Bool} {A La : Nat → Nat} {D W : Nat → Bool} {T : Nat → Nat} {U : Nat → Bool} {C : Nat → Nat} {s : Nat} (hc : C s < 2 ^ 31) (h11 : C s / 2 ^ 24 ≠ 11) (H : go_inv al A La D W T U C) : go_in1 al A La D W T (go_up U s false) C (C s / 2 ^ 20 % 2 ^ 4) (C s / 2 ^ 16 % 2 ^ 4) (C s % 2 ^ 16) := by
  intro x' y' b hx' hy' hb ax ay l d
  rcases go_okrem (s := s) hc hb (H x' y' b hx' hy' hb ax ay l d) with h | h | h
  · exact Or.inl h
  · exact Or.inr h.2
  · exact absurd h.1 h11
theorem go_iv2 {al : Nat → Bool} {A La : Nat → Nat} {D W : Nat → Bool} {T : Nat → Nat} {U : Nat → Bool} {C : Nat → Nat} {s : Nat} (hc : C s < 2 ^ 31) (h9 : C s / 2 ^ 24 ≠ 9) (h10 : C s / 2 ^ 24 ≠ 10) (H : go_inv al A La D W T U C) : go_in1 al A La D W T (go_up U s false) C (C s / 2 ^ 16 % 2 ^ 4) (C s / 2 ^ 20 % 2 ^ 4) (C s % 2 ^ 16) := by
  intro x' y' b hx' hy' hb ax ay l d
  rcases go_okrem (s := s) hc hb (H x' y' b hx' hy' hb ax ay l d) with h | h | h
  · exact Or.inl h
  · exact absurd h.1 (by omega)
  · exact Or.inr h.2
section
variable (nn ac pc tm md lo : Nat) (al : Nat → Bool) (A La P Lp : Nat → Nat) (E D W : Nat → Bool) (T : Nat → Nat) (U : Nat → Bool) (C : Nat → Nat)
theorem go_deliver {s : Nat} (hn : 2 ≤ nn ∧ nn ≤ 16) (hac : 2 ≤ ac ∧ ac ≤ 4) (hpc : 1 ≤ pc ∧ pc ≤ 8) (htm : 1 ≤ tm ∧ tm ≤ 8) (Z : go_Z ac pc A La P Lp E T U C) (hl : lo + 10 < 2 ^ 31) (KD : ∀ z b, b < 16 → D (z * 16 + b) = true → b < md) (MS : ∀ t, U t = true → go_ms D (C t)) (hs : s < 64) (hU : U s = true) : ∃ (A' La' P' Lp' : Nat → Nat) (E' D' W' : Nat → Bool) (T' : Nat → Nat) (U' : Nat → Bool) (C' : Nat → Nat) (lo' : Nat), go_Z ac pc A' La' P' Lp' E' T' U' C' ∧ lo' ≤ lo + 10 ∧ lo ≤ lo' ∧ (∀ j, D j = true → D' j = true) ∧ (∀ z b, b < 16 → D' (z * 16 + b) = true → b < md) ∧ (∀ t, U' t = true → go_ms D' (C' t)) ∧ (lo' = lo → go_inv al A La D W T U C → go_inv al A' La' D' W' T' U' C') ∧ (∀ post : Int32 → St2 → Prop, post 1 (nI nn, nI ac, nI pc, nI tm, nI md, nI lo', go_B al, go_N A', go_N La', go_N P', go_N Lp', go_M E', go_M D', go_M W', go_N T', go_S U' C') → wpX_deliver post (nI nn, nI ac, nI pc, nI tm, nI md, nI lo, go_B al, go_N A, go_N La, go_N P, go_N Lp, go_M E, go_M D, go_M W, go_N T, go_S U C) (nI s)) := by
  have S0 := Z.2.2.2.2
  have Z1 : go_Z ac pc A La P Lp E T (go_up U s false) C := ⟨Z.1, Z.2.1, Z.2.2.1, Z.2.2.2.1, go_ISf S0 s⟩
  have hc := (S0 s).1
  have MS1 : ∀ t, go_up U s false t = true → go_ms D (C t) := by
    intro t h
    by_cases e : t = s
    · rw [e, go_us] at h; exact absurd h (by decide)
    · rw [go_un e] at h; exact MS t h
  have hv : vp_in (nI s) 64 := vp_in_nI hs (by omega)
  have rS : go_S U C (nI s).toNatClampNeg = nI (C s) := go_rS s hU
  have d24 := go_d24 hc
  have d20 := go_d20 hc
  have d16 := go_d16 hc
  have d0 := go_d0 hc
  have hx : C s / 2 ^ 20 % 2 ^ 4 < 16 := by omega
  have hy : C s / 2 ^ 16 % 2 ^ 4 < 16 := by omega
  have ha : C s % 2 ^ 16 < 65536 := by omega
  have hk : C s / 2 ^ 24 < 128 := by omega
  have hms : C s / 2 ^ 24 = 9 → ∀ b, b < 16 → bt (nI (C s % 2 ^ 16)) b = true → D (C s / 2 ^ 20 % 2 ^ 4 * 16 + b) = true := fun q b hb h => MS s hU q b hb (by rw [← go_lowb hc hb]; exact h)
  have IV0 := fun h9 h10 h11 => go_iv0 (al := al) (A := A) (La := La) (D := D) (W := W) (T := T) (U := U) (s := s) hc h9 h10 h11
  have IV1 := fun h11 => go_iv1 (al := al) (A := A) (La := La) (D := D) (W := W) (T := T) (U := U) (s := s) hc h11
  have IV2 := fun h9 h10 => go_iv2 (al := al) (A := A) (La := La) (D := D) (W := W) (T := T) (U := U) (s := s) hc h9 h10
  generalize C s / 2 ^ 20 % 2 ^ 4 = x at d20 hx hms IV1 IV2
  generalize C s / 2 ^ 16 % 2 ^ 4 = y at d16 hy IV1 IV2
  generalize C s % 2 ^ 16 = a at d0 ha hms IV1 IV2
  generalize C s / 2 ^ 24 = k at d24 hk hms IV0 IV1 IV2
  by_cases k1 : k = 1
  · have dx : nI (C s) >>> ((24 : Int32) &&& 31) = 1 := by rw [d24, k1]; rfl
    obtain ⟨A', La', P', Lp', E', U', C', lo', Z', hl', hpe, hlr, hX⟩ := go_h1 nn ac pc tm md lo al A La P Lp E D W T (go_up U s false) C hac hpc Z1 hl hx hy
    refine ⟨A', La', P', Lp', E', D, W, T, U', C', lo', Z', hl', hpe.2.2, fun _ h => h, KD, go_msp MS1 (fun _ h => h) hpe, fun e H => go_ivr (IV0 (by omega) (by omega) (by omega) H) hpe hlr e, fun post hp => ?_⟩
    unfold wpX_deliver
    exact go_usX nn ac pc tm md lo al A La P Lp E D W T U C S0 hs hU _ (br_f (by decide) ⟨hv, nm_r rS ⟨hv, nm_r (go_uSf U C s) (nm_r d20 (nm_r d16 (nm_r d0 (nm_r dx (br_f (by decide) (br_f (by decide) (br_t rfl (hX _ hp))))))))⟩⟩)
  by_cases k2 : k = 2
  · have dx : nI (C s) >>> ((24 : Int32) &&& 31) = 2 := by rw [d24, k2]; rfl
    obtain ⟨A', La', P', Lp', E', U', C', lo', Z', hl', hpe, hlr, hX⟩ := go_h2 nn ac pc tm md lo al A La P Lp E D W T (go_up U s false) C hac hpc Z1 hl hx hy ha
    refine ⟨A', La', P', Lp', E', D, W, T, U', C', lo', Z', hl', hpe.2.2, fun _ h => h, KD, go_msp MS1 (fun _ h => h) hpe, fun e H => go_ivr (IV0 (by omega) (by omega) (by omega) H) hpe hlr e, fun post hp => ?_⟩
    unfold wpX_deliver
    exact go_usX nn ac pc tm md lo al A La P Lp E D W T U C S0 hs hU _ (br_f (by decide) ⟨hv, nm_r rS ⟨hv, nm_r (go_uSf U C s) (nm_r d20 (nm_r d16 (nm_r d0 (nm_r dx (br_f (by decide) (br_f (by decide) (br_f (by decide) (br_t rfl (hX _ hp)))))))))⟩⟩)
  by_cases k3 : k = 3
  · have dx : nI (C s) >>> ((24 : Int32) &&& 31) = 3 := by rw [d24, k3]; rfl
    obtain ⟨A', La', E', P', Lp', U', C', lo', IA', JE', I', S', hl', hpe, hlr, hX⟩ := go_addA nn ac pc tm md lo al A La P Lp E D W T (go_up U s false) C false hac Z1.1 Z1.2.1 hpc Z1.2.2.1 Z1.2.2.2.2 (by omega) hy hx
    refine ⟨A', La', P', Lp', E', D, W, T, U', C', lo', ⟨IA', JE', I', Z1.2.2.2.1, S'⟩, by omega, hpe.2.2, fun _ h => h, KD, go_msp MS1 (fun _ h => h) hpe, fun e H => go_ivr (IV0 (by omega) (by omega) (by omega) H) hpe hlr e, fun post hp => ?_⟩
    unfold wpX_deliver
    exact go_usX nn ac pc tm md lo al A La P Lp E D W T U C S0 hs hU _ (br_f (by decide) ⟨hv, nm_r rS ⟨hv, nm_r (go_uSf U C s) (nm_r d20 (nm_r d16 (nm_r d0 (nm_r dx (br_f (by decide) (br_f (by decide) (br_f (by decide) (br_f (by decide) (br_t rfl (hX _ hp))))))))))⟩⟩)
  by_cases k4 : k = 4
  · have dx : nI (C s) >>> ((24 : Int32) &&& 31) = 4 := by rw [d24, k4]; rfl
    obtain ⟨A', La', P', Lp', E', U', C', lo', Z', hl', hpe, hlr, hX⟩ := go_h4 nn ac pc tm md lo al A La P Lp E D W T (go_up U s false) C hac hpc Z1 hx hy
    refine ⟨A', La', P', Lp', E', D, W, T, U', C', lo', Z', hl', hpe.2.2, fun _ h => h, KD, go_msp MS1 (fun _ h => h) hpe, fun e H => go_ivr (IV0 (by omega) (by omega) (by omega) H) hpe hlr e, fun post hp => ?_⟩
    unfold wpX_deliver
    exact go_usX nn ac pc tm md lo al A La P Lp E D W T U C S0 hs hU _ (br_f (by decide) ⟨hv, nm_r rS ⟨hv, nm_r (go_uSf U C s) (nm_r d20 (nm_r d16 (nm_r d0 (nm_r dx (br_f (by decide) (br_f (by decide) (br_f (by decide) (br_f (by decide) (br_f (by decide) (br_t rfl (hX _ hp)))))))))))⟩⟩)
  by_cases k5 : k = 5
  · have dx : nI (C s) >>> ((24 : Int32) &&& 31) = 5 := by rw [d24, k5]; rfl
    obtain ⟨A', La', P', Lp', E', U', C', lo', Z', hl', hpe, hlr, hX⟩ := go_h5 nn ac pc tm md lo al A La P Lp E D W T (go_up U s false) C hac hpc Z1 hl hx hy ha
    refine ⟨A', La', P', Lp', E', D, W, T, U', C', lo', Z', hl', hpe.2.2, fun _ h => h, KD, go_msp MS1 (fun _ h => h) hpe, fun e H => go_ivr (IV0 (by omega) (by omega) (by omega) H) hpe hlr e, fun post hp => ?_⟩
    unfold wpX_deliver
    exact go_usX nn ac pc tm md lo al A La P Lp E D W T U C S0 hs hU _ (br_f (by decide) ⟨hv, nm_r rS ⟨hv, nm_r (go_uSf U C s) (nm_r d20 (nm_r d16 (nm_r d0 (nm_r dx (br_f (by decide) (br_f (by decide) (br_f (by decide) (br_f (by decide) (br_f (by decide) (br_f (by decide) (br_t rfl (hX _ hp))))))))))))⟩⟩)
  by_cases k6 : k = 6
  · have dx : nI (C s) >>> ((24 : Int32) &&& 31) = 6 := by rw [d24, k6]; rfl
    obtain ⟨P1, Lp1, I1, hX1⟩ := go_addP nn ac pc tm md lo al A La P Lp E D W T (go_up U s false) C hac.2 Z1.1 hpc Z1.2.2.1 hy hx
    obtain ⟨P', Lp', U', C', lo', I', S', hl', hpe, hX⟩ := go_repair nn ac pc tm md lo al A La P1 Lp1 E D W T (go_up U s false) C hac (Z1.1.2.1 y) hpc I1 Z1.2.2.2.2 (by omega) hy
    refine ⟨A, La, P', Lp', E, D, W, T, U', C', lo', ⟨Z1.1, Z1.2.1, I', Z1.2.2.2.1, S'⟩, by omega, hpe.2.2, fun _ h => h, KD, go_msp MS1 (fun _ h => h) hpe, fun e H => go_ivp hpe (IV0 (by omega) (by omega) (by omega) H), fun post hp => ?_⟩
    unfold wpX_deliver
    exact go_usX nn ac pc tm md lo al A La P Lp E D W T U C S0 hs hU _ (br_f (by decide) ⟨hv, nm_r rS ⟨hv, nm_r (go_uSf U C s) (nm_r d20 (nm_r d16 (nm_r d0 (nm_r dx (br_f (by decide) (br_f (by decide) (br_f (by decide) (br_f (by decide) (br_f (by decide) (br_f (by decide) (br_f (by decide) (br_t rfl (hX1 _ (hX _ hp))))))))))))))⟩⟩)
  by_cases k7 : k = 7
  · have dx : nI (C s) >>> ((24 : Int32) &&& 31) = 7 := by rw [d24, k7]; rfl
    obtain ⟨A', La', P', Lp', E', U', C', lo', Z', hl', hpe, hlr, hX⟩ := go_h7 nn ac pc tm md lo al A La P Lp E D W T (go_up U s false) C (a := a) hn hac hpc Z1 hl hx hy
    refine ⟨A', La', P', Lp', E', D, W, T, U', C', lo', Z', hl', hpe.2.2, fun _ h => h, KD, go_msp MS1 (fun _ h => h) hpe, fun e H => go_ivr (IV0 (by omega) (by omega) (by omega) H) hpe hlr e, fun post hp => ?_⟩
    unfold wpX_deliver
    exact go_usX nn ac pc tm md lo al A La P Lp E D W T U C S0 hs hU _ (br_f (by decide) ⟨hv, nm_r rS ⟨hv, nm_r (go_uSf U C s) (nm_r d20 (nm_r d16 (nm_r d0 (nm_r dx (br_f (by decide) (br_f (by decide) (br_f (by decide) (br_f (by decide) (br_f (by decide) (br_f (by decide) (br_f (by decide) (br_f (by decide) (br_t rfl (hX _ hp))))))))))))))⟩⟩)
  by_cases k8 : k = 8
  · have dx : nI (C s) >>> ((24 : Int32) &&& 31) = 8 := by rw [d24, k8]; rfl
    obtain ⟨A', La', P', Lp', E', U', C', lo', Z', hl', hpe, hlr, hX⟩ := go_h8 nn ac pc tm md lo al A La P Lp E D W T (go_up U s false) C (a := a) hn hac hpc Z1 hy
    refine ⟨A', La', P', Lp', E', D, W, T, U', C', lo', Z', hl', hpe.2.2, fun _ h => h, KD, go_msp MS1 (fun _ h => h) hpe, fun e H => go_ivr (IV0 (by omega) (by omega) (by omega) H) hpe hlr e, fun post hp => ?_⟩
    unfold wpX_deliver
    exact go_usX nn ac pc tm md lo al A La P Lp E D W T U C S0 hs hU _ (br_f (by decide) ⟨hv, nm_r rS ⟨hv, nm_r (go_uSf U C s) (nm_r d20 (nm_r d16 (nm_r d0 (nm_r dx (br_f (by decide) (br_f (by decide) (br_f (by decide) (br_f (by decide) (br_f (by decide) (br_f (by decide) (br_f (by decide) (br_f (by decide) (br_f (by decide) (br_t rfl (hX _ hp)))))))))))))))⟩⟩)
  by_cases k9 : k = 9
  · have dx : nI (C s) >>> ((24 : Int32) &&& 31) = 9 := by rw [d24, k9]; rfl
    obtain ⟨E', D', W', T', U', C', lo', Z', hl', hDD, hD2, hpe, hiv, hX⟩ := go_h9 nn ac pc tm md lo al A La P Lp E D W T (go_up U s false) C hac Z1 hl hx hy ha (hms k9)
    refine ⟨A, La, P, Lp, E', D', W', T', U', C', lo', Z', hl', hpe.2.2, hDD, fun z b hb h => (hD2 z b hb h).elim (KD z b hb) (KD x b hb), go_msp MS1 hDD hpe, fun e H => hiv e (IV1 (by omega) H), fun post hp => ?_⟩
    unfold wpX_deliver
    exact go_usX nn ac pc tm md lo al A La P Lp E D W T U C S0 hs hU _ (br_f (by decide) ⟨hv, nm_r rS ⟨hv, nm_r (go_uSf U C s) (nm_r d20 (nm_r d16 (nm_r d0 (nm_r dx (br_f (by decide) (br_f (by decide) (br_f (by decide) (br_f (by decide) (br_f (by decide) (br_f (by decide) (br_f (by decide) (br_f (by decide) (br_f (by decide) (br_f (by decide) (br_t rfl (hX _ hp))))))))))))))))⟩⟩)
  by_cases k10 : k = 10
  · have dx : nI (C s) >>> ((24 : Int32) &&& 31) = 10 := by rw [d24, k10]; rfl
    obtain ⟨W', T', Z', hiv, hX⟩ := go_h10 nn ac pc tm md lo al A La P Lp E D W T (go_up U s false) C htm Z1 hx hy ha
    refine ⟨A, La, P, Lp, E, D, W', T', go_up U s false, C, lo, Z', by omega, Nat.le_refl _, fun _ h => h, KD, MS1, fun e H => hiv (IV1 (by omega) H), fun post hp => ?_⟩
    unfold wpX_deliver
    exact go_usX nn ac pc tm md lo al A La P Lp E D W T U C S0 hs hU _ (br_f (by decide) ⟨hv, nm_r rS ⟨hv, nm_r (go_uSf U C s) (nm_r d20 (nm_r d16 (nm_r d0 (nm_r dx (br_f (by decide) (br_f (by decide) (br_f (by decide) (br_f (by decide) (br_f (by decide) (br_f (by decide) (br_f (by decide) (br_f (by decide) (br_f (by decide) (br_f (by decide) (br_f (by decide) (br_t rfl (hX _ hp)))))))))))))))))⟩⟩)
  by_cases k11 : k = 11
  · have dx : nI (C s) >>> ((24 : Int32) &&& 31) = 11 := by rw [d24, k11]; rfl
    obtain ⟨E', U', C', lo', Z', hl', hpe, hiv, hX⟩ := go_h11 nn ac pc tm md lo al A La P Lp E D W T (go_up U s false) C hac Z1 hl hx hy ha
    refine ⟨A, La, P, Lp, E', D, W, T, U', C', lo', Z', hl', hpe.2.2, fun _ h => h, KD, go_msp MS1 (fun _ h => h) hpe, fun e H => hiv e (IV2 (by omega) (by omega) H), fun post hp => ?_⟩
    unfold wpX_deliver
    exact go_usX nn ac pc tm md lo al A La P Lp E D W T U C S0 hs hU _ (br_f (by decide) ⟨hv, nm_r rS ⟨hv, nm_r (go_uSf U C s) (nm_r d20 (nm_r d16 (nm_r d0 (nm_r dx (br_f (by decide) (br_f (by decide) (br_f (by decide) (br_f (by decide) (br_f (by decide) (br_f (by decide) (br_f (by decide) (br_f (by decide) (br_f (by decide) (br_f (by decide) (br_f (by decide) (br_f (by decide) (br_t rfl (hX _ hp))))))))))))))))))⟩⟩)
  by_cases k12 : k = 12
  · have dx : nI (C s) >>> ((24 : Int32) &&& 31) = 12 := by rw [d24, k12]; rfl
    refine ⟨A, La, P, Lp, go_up E (y * 16 + x) false, D, W, T, go_up U s false, C, lo, ⟨Z1.1, go_Eclr Z1.2.1 _, Z1.2.2.1, Z1.2.2.2.1, Z1.2.2.2.2⟩, by omega, Nat.le_refl _, fun _ h => h, KD, MS1, fun e H => IV0 (by omega) (by omega) (by omega) H, fun post hp => ?_⟩
    unfold wpX_deliver
    exact go_usX nn ac pc tm md lo al A La P Lp E D W T U C S0 hs hU _ (br_f (by decide) ⟨hv, nm_r rS ⟨hv, nm_r (go_uSf U C s) (nm_r d20 (nm_r d16 (nm_r d0 (nm_r dx (br_f (by decide) (br_f (by decide) (br_f (by decide) (br_f (by decide) (br_f (by decide) (br_f (by decide) (br_f (by decide) (br_f (by decide) (br_f (by decide) (br_f (by decide) (br_f (by decide) (br_f (by decide) (br_f (by decide) (br_t rfl ⟨vp_in_nI hy (by omega), vp_in_nI hy (by omega), nm_r (go_uMc E y x hx) hp⟩))))))))))))))))))⟩⟩)
  refine ⟨A, La, P, Lp, E, D, W, T, go_up U s false, C, lo, Z1, by omega, Nat.le_refl _, fun _ h => h, KD, MS1, fun e H => IV0 k9 k10 k11 H, fun post hp => ?_⟩
  unfold wpX_deliver
  refine go_usX nn ac pc tm md lo al A La P Lp E D W T U C S0 hs hU _ (br_f (by decide) ⟨hv, nm_r rS ⟨hv, nm_r (go_uSf U C s) (nm_r d20 (nm_r d16 (nm_r d0 (nm_r d24 ?_))))⟩⟩)
  rcases Nat.eq_zero_or_pos k with q | q
  · exact br_t (by rw [q]; decide) hp
  · exact br_f (Int32.not_lt.mpr (nI_le (a := 1) q (by omega))) (br_t (nI_lt (a := 12) (by omega) (by omega)) hp)
end

