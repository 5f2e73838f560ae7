def go_G (nn ac pc tm md lo : Nat) (al : Nat → Bool) (A La P Lp : Nat → Nat) (E D W : Nat → Bool) (T : Nat → Nat) (U : Nat → Bool) (C : Nat → Nat) : Prop := ((2 ≤ nn ∧ nn ≤ 16) ∧ (2 ≤ ac ∧ ac ≤ 4) ∧ (1 ≤ pc ∧ pc ≤ 8) ∧ (1 ≤ tm ∧ tm ≤ 8)) ∧ md ≤ 16 ∧ go_Z ac pc A La P Lp E T U C ∧ (∀ z b, b < 16 → D (z * 16 + b) = true → b < md) ∧ (∀ t, U t = true → go_ms D (C t)) ∧ (lo = 0 → go_inv al A La D W T U C)
theorem go_cls (v : Int32) (nn : Nat) (hn : nn < 2 ^ 31) : (v < 0 ∨ nI nn ≤ v) ∨ ∃ j, j < nn ∧ v = nI j := by
  rcases pk_ix v hn with h | h | h
  · exact Or.inl (Or.inl h)
  · exact Or.inl (Or.inr h)
  · exact Or.inr h
section
variable (nn ac pc tm md lo : Nat) (al : Nat → Bool) (A La P Lp : Nat → Nat) (E D W : Nat → Bool) (T : Nat → Nat) (U : Nat → Bool) (C : Nat → Nat)
theorem go_cJ (v1 v2 : Int32) (G : go_G nn ac pc tm md lo al A La P Lp E D W T U C) (hl : lo + 300 < 2 ^ 31) : ∃ (al' : Nat → Bool) (A' La' P' Lp' : Nat → Nat) (E' D' W' : Nat → Bool) (T' : Nat → Nat) (U' : Nat → Bool) (C' : Nat → Nat) (lo' : Nat), go_G nn ac pc tm md lo' al' A' La' P' Lp' E' D' W' T' U' C' ∧ lo' ≤ lo + 300 ∧ (∀ j, D j = true → D' j = true) ∧ ∃ r : Int32, ∀ post : Int32 → St2 → Prop, post r (nI nn, nI ac, nI pc, nI tm, nI md, nI lo', go_B al', go_N A', go_N La', go_N P', go_N Lp', go_M E', go_M D', go_M W', go_N T', go_S U' C') → wpX_join post (nI nn, nI ac, nI pc, nI tm, nI md, nI lo, go_B al, go_N A, go_N La, go_N P, go_N Lp, go_M E, go_M D, go_M W, go_N T, go_S U C) v1 v2 := by
  have G0 := G
  obtain ⟨⟨hn, hac, hpc, htm⟩, hmd, Z, KD, MS, IV⟩ := G
  have stay : (∀ post : Int32 → St2 → Prop, post 0 (nI nn, nI ac, nI pc, nI tm, nI md, nI lo, go_B al, go_N A, go_N La, go_N P, go_N Lp, go_M E, go_M D, go_M W, go_N T, go_S U C) → wpX_join post (nI nn, nI ac, nI pc, nI tm, nI md, nI lo, go_B al, go_N A, go_N La, go_N P, go_N Lp, go_M E, go_M D, go_M W, go_N T, go_S U C) v1 v2) → ∃ (al' : Nat → Bool) (A' La' P' Lp' : Nat → Nat) (E' D' W' : Nat → Bool) (T' : Nat → Nat) (U' : Nat → Bool) (C' : Nat → Nat) (lo' : Nat), go_G nn ac pc tm md lo' al' A' La' P' Lp' E' D' W' T' U' C' ∧ lo' ≤ lo + 300 ∧ (∀ j, D j = true → D' j = true) ∧ ∃ r : Int32, ∀ post : Int32 → St2 → Prop, post r (nI nn, nI ac, nI pc, nI tm, nI md, nI lo', go_B al', go_N A', go_N La', go_N P', go_N Lp', go_M E', go_M D', go_M W', go_N T', go_S U' C') → wpX_join post (nI nn, nI ac, nI pc, nI tm, nI md, nI lo, go_B al, go_N A, go_N La, go_N P, go_N Lp, go_M E, go_M D, go_M W, go_N T, go_S U C) v1 v2 := fun h => ⟨al, A, La, P, Lp, E, D, W, T, U, C, lo, G0, by omega, fun _ h => h, 0, h⟩
  rcases go_cls v1 nn (by omega) with h1 | ⟨j1, hj1, rfl⟩
  · refine stay (fun post hp => ?_)
    unfold wpX_join
    exact go_alX0 nn ac pc tm md lo al A La P Lp E D W T U C hn.2 (Or.inl h1) _ (br_t rfl hp)
  cases ha1 : al j1 with
  | false =>
    refine stay (fun post hp => ?_)
    unfold wpX_join
    exact go_alX0 nn ac pc tm md lo al A La P Lp E D W T U C hn.2 (Or.inr ⟨j1, hj1, rfl, ha1⟩) _ (br_t rfl hp)
  | true =>
    rcases go_cls v2 nn (by omega) with h2 | ⟨j2, hj2, rfl⟩
    · refine stay (fun post hp => ?_)
      unfold wpX_join
      exact go_alX nn ac pc tm md lo al A La P Lp E D W T U C hn.2 hj1 ha1 _ (br_f (by decide) (go_alX0 nn ac pc tm md lo al A La P Lp E D W T U C hn.2 (Or.inl h2) _ (br_t rfl hp)))
    cases ha2 : al j2 with
    | false =>
      refine stay (fun post hp => ?_)
      unfold wpX_join
      exact go_alX nn ac pc tm md lo al A La P Lp E D W T U C hn.2 hj1 ha1 _ (br_f (by decide) (go_alX0 nn ac pc tm md lo al A La P Lp E D W T U C hn.2 (Or.inr ⟨j2, hj2, rfl, ha2⟩) _ (br_t rfl hp)))
    | true =>
      by_cases e : nI j1 = nI j2
      · refine stay (fun post hp => ?_)
        unfold wpX_join
        exact go_alX nn ac pc tm md lo al A La P Lp E D W T U C hn.2 hj1 ha1 _ (br_f (by decide) (go_alX nn ac pc tm md lo al A La P Lp E D W T U C hn.2 hj2 ha2 _ (br_f (by decide) (br_t e hp))))
      · obtain ⟨U', C', lo', S', hl', hpe, _, hX⟩ := go_send nn ac pc tm md lo al A La P Lp E D W T U C (k := 1) (a := 0) Z.2.2.2.2 (by omega) (show j1 < 16 by omega) (show j2 < 16 by omega) (by omega) (by omega) (by omega)
        have hpe2 : go_pe U C lo U' C' lo' (go_ms D) := go_pew hpe (fun c hc => by rw [hc]; exact go_msn (by omega) (by omega) (by omega) (by omega) (by omega) (by omega))
        have q := hpe.2.2
        refine ⟨al, A, La, P, Lp, E, D, W, T, U', C', lo', ⟨⟨hn, hac, hpc, htm⟩, hmd, ⟨Z.1, Z.2.1, Z.2.2.1, Z.2.2.2.1, S'⟩, KD, go_msp MS (fun _ h => h) hpe2, fun e0 => go_ivp hpe (IV (by omega))⟩, by omega, fun _ h => h, 1, fun post hp => ?_⟩
        unfold wpX_join
        exact go_alX nn ac pc tm md lo al A La P Lp E D W T U C hn.2 hj1 ha1 _ (br_f (by decide) (go_alX nn ac pc tm md lo al A La P Lp E D W T U C hn.2 hj2 ha2 _ (br_f (by decide) (br_f e (hX _ hp)))))
theorem go_cS (v1 : Int32) (G : go_G nn ac pc tm md lo al A La P Lp E D W T U C) (hl : lo + 300 < 2 ^ 31) : ∃ (al' : Nat → Bool) (A' La' P' Lp' : Nat → Nat) (E' D' W' : Nat → Bool) (T' : Nat → Nat) (U' : Nat → Bool) (C' : Nat → Nat) (lo' : Nat), go_G nn ac pc tm md lo' al' A' La' P' Lp' E' D' W' T' U' C' ∧ lo' ≤ lo + 300 ∧ (∀ j, D j = true → D' j = true) ∧ ∃ r : Int32, ∀ post : Int32 → St2 → Prop, post r (nI nn, nI ac, nI pc, nI tm, nI md, nI lo', go_B al', go_N A', go_N La', go_N P', go_N Lp', go_M E', go_M D', go_M W', go_N T', go_S U' C') → wpX_shuffle post (nI nn, nI ac, nI pc, nI tm, nI md, nI lo, go_B al, go_N A, go_N La, go_N P, go_N Lp, go_M E, go_M D, go_M W, go_N T, go_S U C) v1 := by
  have G0 := G
  obtain ⟨⟨hn, hac, hpc, htm⟩, hmd, Z, KD, MS, IV⟩ := G
  have stay : (∀ post : Int32 → St2 → Prop, post 0 (nI nn, nI ac, nI pc, nI tm, nI md, nI lo, go_B al, go_N A, go_N La, go_N P, go_N Lp, go_M E, go_M D, go_M W, go_N T, go_S U C) → wpX_shuffle post (nI nn, nI ac, nI pc, nI tm, nI md, nI lo, go_B al, go_N A, go_N La, go_N P, go_N Lp, go_M E, go_M D, go_M W, go_N T, go_S U C) v1) → ∃ (al' : Nat → Bool) (A' La' P' Lp' : Nat → Nat) (E' D' W' : Nat → Bool) (T' : Nat → Nat) (U' : Nat → Bool) (C' : Nat → Nat) (lo' : Nat), go_G nn ac pc tm md lo' al' A' La' P' Lp' E' D' W' T' U' C' ∧ lo' ≤ lo + 300 ∧ (∀ j, D j = true → D' j = true) ∧ ∃ r : Int32, ∀ post : Int32 → St2 → Prop, post r (nI nn, nI ac, nI pc, nI tm, nI md, nI lo', go_B al', go_N A', go_N La', go_N P', go_N Lp', go_M E', go_M D', go_M W', go_N T', go_S U' C') → wpX_shuffle post (nI nn, nI ac, nI pc, nI tm, nI md, nI lo, go_B al, go_N A, go_N La, go_N P, go_N Lp, go_M E, go_M D, go_M W, go_N T, go_S U C) v1 := fun h => ⟨al, A, La, P, Lp, E, D, W, T, U, C, lo, G0, by omega, fun _ h => h, 0, h⟩
  rcases go_cls v1 nn (by omega) with h1 | ⟨x, hx, rfl⟩
  · refine stay (fun post hp => ?_)
    unfold wpX_shuffle
    exact go_alX0 nn ac pc tm md lo al A La P Lp E D W T U C hn.2 (Or.inl h1) _ (br_t rfl hp)
  have hv : vp_in (nI x) 16 := vp_in_nI (by omega) (by omega)
  have hla := Z.1.2.1 x
  have hlp := Z.2.2.1.2.1 x
  cases hal : al x with
  | false =>
    refine stay (fun post hp => ?_)
    unfold wpX_shuffle
    exact go_alX0 nn ac pc tm md lo al A La P Lp E D W T U C hn.2 (Or.inr ⟨x, hx, rfl, hal⟩) _ (br_t rfl hp)
  | true =>
    by_cases h0 : La x = 0
    · have z : go_N La (nI x).toNatClampNeg = 0 := by rw [go_rN La x rfl (by omega), h0]; exact nI_0
      refine stay (fun post hp => ?_)
      unfold wpX_shuffle
      exact go_alX nn ac pc tm md lo al A La P Lp E D W T U C hn.2 hx hal _ (br_f (by decide) ⟨hv, br_t z hp⟩)
    · have hx16 : x < 16 := by omega
      have hq : A (x * 4 + 0) < 16 := Z.1.1 _
      have c2 : nI x * 4 = nI (x * 4) := pk_mul x 4
      have c3 : go_N A (nI x * 4).toNatClampNeg = nI (A (x * 4 + 0)) := go_rN A (x * 4) c2 (by omega)
      have z : ¬ go_N La (nI x).toNatClampNeg = 0 := by rw [go_rN La x rfl (by omega)]; exact nI_ne0 (by omega) (by omega)
      obtain ⟨m, hm, em⟩ := go_16 (x := ((go_w A (x * 4) (La x) ||| go_w P (x * 8) (Lp x)) ||| ((1 : Int32) <<< (nI x &&& 31))) &&& (((1 : Int32) <<< (nI (A (x * 4 + 0)) &&& 31)) ^^^ (-1))) (fun i h1 h2 => by
        rw [b_and, b_or, b_or, go_w16 Z.1.1 _ _ i h1 h2, go_w16 Z.2.2.1.1 _ _ i h1 h2, go_1b x (by omega) h2, decide_eq_false (by omega)]
        rfl)
      obtain ⟨U', C', lo', S', hl', hpe, _, hX⟩ := go_send nn ac pc tm md lo al A La P Lp E D W T U C (k := 7) Z.2.2.2.2 (by omega) hx16 hq (by omega) (by omega) hm
      have hpe2 : go_pe U C lo U' C' lo' (go_ms D) := go_pew hpe (fun c hc => by rw [hc]; exact go_msn (by omega) (by omega) hx16 hq hm (by omega))
      have q := hpe.2.2
      rw [← em] at hX
      refine ⟨al, A, La, P, Lp, E, D, W, T, U', C', lo', ⟨⟨hn, hac, hpc, htm⟩, hmd, ⟨Z.1, Z.2.1, Z.2.2.1, Z.2.2.2.1, S'⟩, KD, go_msp MS (fun _ h => h) hpe2, fun e0 => go_ivp hpe (IV (by omega))⟩, by omega, fun _ h => h, 1, fun post hp => ?_⟩
      unfold wpX_shuffle
      exact go_alX nn ac pc tm md lo al A La P Lp E D W T U C hn.2 hx hal _ (br_f (by decide) ⟨hv, br_f z ⟨pk_in (x * 4) 64 (by omega) c2, nm_r c3 ⟨La x + 1, go_amX nn ac pc tm md lo al A La P Lp E D W T U C Z.1.1 (by omega) hx16 _ ⟨Lp x + 1, go_pmX nn ac pc tm md lo al A La P Lp E D W T U C Z.2.2.1.1 (by omega) hx16 _ (fun z ez => by subst ez; exact hX _ hp) _ 0 (by omega) (by omega)⟩ _ 0 (by omega) (by omega)⟩⟩⟩)
theorem go_cC (v1 : Int32) (G : go_G nn ac pc tm md lo al A La P Lp E D W T U C) (hl : lo + 300 < 2 ^ 31) : ∃ (al' : Nat → Bool) (A' La' P' Lp' : Nat → Nat) (E' D' W' : Nat → Bool) (T' : Nat → Nat) (U' : Nat → Bool) (C' : Nat → Nat) (lo' : Nat), go_G nn ac pc tm md lo' al' A' La' P' Lp' E' D' W' T' U' C' ∧ lo' ≤ lo + 300 ∧ (∀ j, D j = true → D' j = true) ∧ ∃ r : Int32, ∀ post : Int32 → St2 → Prop, post r (nI nn, nI ac, nI pc, nI tm, nI md, nI lo', go_B al', go_N A', go_N La', go_N P', go_N Lp', go_M E', go_M D', go_M W', go_N T', go_S U' C') → wpX_crash post (nI nn, nI ac, nI pc, nI tm, nI md, nI lo, go_B al, go_N A, go_N La, go_N P, go_N Lp, go_M E, go_M D, go_M W, go_N T, go_S U C) v1 := by
  have G0 := G
  obtain ⟨⟨hn, hac, hpc, htm⟩, hmd, Z, KD, MS, IV⟩ := G
  have stay : (∀ post : Int32 → St2 → Prop, post 0 (nI nn, nI ac, nI pc, nI tm, nI md, nI lo, go_B al, go_N A, go_N La, go_N P, go_N Lp, go_M E, go_M D, go_M W, go_N T, go_S U C) → wpX_crash post (nI nn, nI ac, nI pc, nI tm, nI md, nI lo, go_B al, go_N A, go_N La, go_N P, go_N Lp, go_M E, go_M D, go_M W, go_N T, go_S U C) v1) → ∃ (al' : Nat → Bool) (A' La' P' Lp' : Nat → Nat) (E' D' W' : Nat → Bool) (T' : Nat → Nat) (U' : Nat → Bool) (C' : Nat → Nat) (lo' : Nat), go_G nn ac pc tm md lo' al' A' La' P' Lp' E' D' W' T' U' C' ∧ lo' ≤ lo + 300 ∧ (∀ j, D j = true → D' j = true) ∧ ∃ r : Int32, ∀ post : Int32 → St2 → Prop, post r (nI nn, nI ac, nI pc, nI tm, nI md, nI lo', go_B al', go_N A', go_N La', go_N P', go_N Lp', go_M E', go_M D', go_M W', go_N T', go_S U' C') → wpX_crash post (nI nn, nI ac, nI pc, nI tm, nI md, nI lo, go_B al, go_N A, go_N La, go_N P, go_N Lp, go_M E, go_M D, go_M W, go_N T, go_S U C) v1 := fun h => ⟨al, A, La, P, Lp, E, D, W, T, U, C, lo, G0, by omega, fun _ h => h, 0, h⟩
  rcases go_cls v1 nn (by omega) with h1 | ⟨x, hx, rfl⟩
  · refine stay (fun post hp => ?_)
    unfold wpX_crash
    exact go_alX0 nn ac pc tm md lo al A La P Lp E D W T U C hn.2 (Or.inl h1) _ (br_t rfl hp)
  cases hal : al x with
  | false =>
    refine stay (fun post hp => ?_)
    unfold wpX_crash
    exact go_alX0 nn ac pc tm md lo al A La P Lp E D W T U C hn.2 (Or.inr ⟨x, hx, rfl, hal⟩) _ (br_t rfl hp)
  | true =>
    obtain ⟨A', La', P', Lp', E', W', T', U', C', lo', Z', hl', hlo, MS', hiv, hX⟩ := go_crash nn ac pc tm md lo al A La P Lp E D W T U C hn hac hpc Z (by omega) MS hx hal
    exact ⟨go_up al x false, A', La', P', Lp', E', D, W', T', U', C', lo', ⟨⟨hn, hac, hpc, htm⟩, hmd, Z', KD, MS', fun e0 => hiv (by omega) (IV (by omega))⟩, by omega, fun _ h => h, 1, hX⟩
theorem go_cD (v1 : Int32) (G : go_G nn ac pc tm md lo al A La P Lp E D W T U C) (hl : lo + 300 < 2 ^ 31) : ∃ (al' : Nat → Bool) (A' La' P' Lp' : Nat → Nat) (E' D' W' : Nat → Bool) (T' : Nat → Nat) (U' : Nat → Bool) (C' : Nat → Nat) (lo' : Nat), go_G nn ac pc tm md lo' al' A' La' P' Lp' E' D' W' T' U' C' ∧ lo' ≤ lo + 300 ∧ (∀ j, D j = true → D' j = true) ∧ ∃ r : Int32, ∀ post : Int32 → St2 → Prop, post r (nI nn, nI ac, nI pc, nI tm, nI md, nI lo', go_B al', go_N A', go_N La', go_N P', go_N Lp', go_M E', go_M D', go_M W', go_N T', go_S U' C') → wpX_deliver post (nI nn, nI ac, nI pc, nI tm, nI md, nI lo, go_B al, go_N A, go_N La, go_N P, go_N Lp, go_M E, go_M D, go_M W, go_N T, go_S U C) v1 := by
  have G0 := G
  obtain ⟨⟨hn, hac, hpc, htm⟩, hmd, Z, KD, MS, IV⟩ := G
  have stay : (∀ post : Int32 → St2 → Prop, post 0 (nI nn, nI ac, nI pc, nI tm, nI md, nI lo, go_B al, go_N A, go_N La, go_N P, go_N Lp, go_M E, go_M D, go_M W, go_N T, go_S U C) → wpX_deliver post (nI nn, nI ac, nI pc, nI tm, nI md, nI lo, go_B al, go_N A, go_N La, go_N P, go_N Lp, go_M E, go_M D, go_M W, go_N T, go_S U C) v1) → ∃ (al' : Nat → Bool) (A' La' P' Lp' : Nat → Nat) (E' D' W' : Nat → Bool) (T' : Nat → Nat) (U' : Nat → Bool) (C' : Nat → Nat) (lo' : Nat), go_G nn ac pc tm md lo' al' A' La' P' Lp' E' D' W' T' U' C' ∧ lo' ≤ lo + 300 ∧ (∀ j, D j = true → D' j = true) ∧ ∃ r : Int32, ∀ post : Int32 → St2 → Prop, post r (nI nn, nI ac, nI pc, nI tm, nI md, nI lo', go_B al', go_N A', go_N La', go_N P', go_N Lp', go_M E', go_M D', go_M W', go_N T', go_S U' C') → wpX_deliver post (nI nn, nI ac, nI pc, nI tm, nI md, nI lo, go_B al, go_N A, go_N La, go_N P, go_N Lp, go_M E, go_M D, go_M W, go_N T, go_S U C) v1 := fun h => ⟨al, A, La, P, Lp, E, D, W, T, U, C, lo, G0, by omega, fun _ h => h, 0, h⟩
  rcases go_cls v1 64 (by omega) with h1 | ⟨s, hs, rfl⟩
  · refine stay (fun post hp => ?_)
    unfold wpX_deliver
    exact go_usX0 nn ac pc tm md lo al A La P Lp E D W T U C Z.2.2.2.2 (Or.inl h1) _ (br_t rfl hp)
  cases hU : U s with
  | false =>
    refine stay (fun post hp => ?_)
    unfold wpX_deliver
    exact go_usX0 nn ac pc tm md lo al A La P Lp E D W T U C Z.2.2.2.2 (Or.inr ⟨s, hs, rfl, hU⟩) _ (br_t rfl hp)
  | true =>
    obtain ⟨A', La', P', Lp', E', D', W', T', U', C', lo', Z', hl', hlo, hDD, KD', MS', hiv, hX⟩ := go_deliver nn ac pc tm md lo al A La P Lp E D W T U C hn hac hpc htm Z (by omega) KD MS hs hU
    exact ⟨al, A', La', P', Lp', E', D', W', T', U', C', lo', ⟨⟨hn, hac, hpc, htm⟩, hmd, Z', KD', MS', fun e0 => hiv (by omega) (IV (by omega))⟩, by omega, hDD, 1, hX⟩
theorem go_cP (v1 : Int32) (G : go_G nn ac pc tm md lo al A La P Lp E D W T U C) (hl : lo + 300 < 2 ^ 31) : ∃ (al' : Nat → Bool) (A' La' P' Lp' : Nat → Nat) (E' D' W' : Nat → Bool) (T' : Nat → Nat) (U' : Nat → Bool) (C' : Nat → Nat) (lo' : Nat), go_G nn ac pc tm md lo' al' A' La' P' Lp' E' D' W' T' U' C' ∧ lo' = lo ∧ (∀ j, D j = true → D' j = true) ∧ ∃ r : Int32, ∀ post : Int32 → St2 → Prop, post r (nI nn, nI ac, nI pc, nI tm, nI md, nI lo', go_B al', go_N A', go_N La', go_N P', go_N Lp', go_M E', go_M D', go_M W', go_N T', go_S U' C') → wpX_drop post (nI nn, nI ac, nI pc, nI tm, nI md, nI lo, go_B al, go_N A, go_N La, go_N P, go_N Lp, go_M E, go_M D, go_M W, go_N T, go_S U C) v1 := by
  have G0 := G
  obtain ⟨⟨hn, hac, hpc, htm⟩, hmd, Z, KD, MS, IV⟩ := G
  have stay : (∀ post : Int32 → St2 → Prop, post 0 (nI nn, nI ac, nI pc, nI tm, nI md, nI lo, go_B al, go_N A, go_N La, go_N P, go_N Lp, go_M E, go_M D, go_M W, go_N T, go_S U C) → wpX_drop post (nI nn, nI ac, nI pc, nI tm, nI md, nI lo, go_B al, go_N A, go_N La, go_N P, go_N Lp, go_M E, go_M D, go_M W, go_N T, go_S U C) v1) → ∃ (al' : Nat → Bool) (A' La' P' Lp' : Nat → Nat) (E' D' W' : Nat → Bool) (T' : Nat → Nat) (U' : Nat → Bool) (C' : Nat → Nat) (lo' : Nat), go_G nn ac pc tm md lo' al' A' La' P' Lp' E' D' W' T' U' C' ∧ lo' = lo ∧ (∀ j, D j = true → D' j = true) ∧ ∃ r : Int32, ∀ post : Int32 → St2 → Prop, post r (nI nn, nI ac, nI pc, nI tm, nI md, nI lo', go_B al', go_N A', go_N La', go_N P', go_N Lp', go_M E', go_M D', go_M W', go_N T', go_S U' C') → wpX_drop post (nI nn, nI ac, nI pc, nI tm, nI md, nI lo, go_B al, go_N A, go_N La, go_N P, go_N Lp, go_M E, go_M D, go_M W, go_N T, go_S U C) v1 := fun h => ⟨al, A, La, P, Lp, E, D, W, T, U, C, lo, G0, rfl, fun _ h => h, 0, h⟩
  rcases go_cls v1 64 (by omega) with h1 | ⟨s, hs, rfl⟩
  · refine stay (fun post hp => ?_)
    unfold wpX_drop
    exact go_usX0 nn ac pc tm md lo al A La P Lp E D W T U C Z.2.2.2.2 (Or.inl h1) _ (br_t rfl hp)
  cases hU : U s with
  | false =>
    refine stay (fun post hp => ?_)
    unfold wpX_drop
    exact go_usX0 nn ac pc tm md lo al A La P Lp E D W T U C Z.2.2.2.2 (Or.inr ⟨s, hs, rfl, hU⟩) _ (br_t rfl hp)
  | true =>
    have hc := (Z.2.2.2.2 s).1
    have hv : vp_in (nI s) 64 := vp_in_nI hs (by omega)
    have dX : go_S U C (nI s).toNatClampNeg >>> ((24 : Int32) &&& 31) = nI (C s / 2 ^ 24) := by rw [go_rS s hU]; exact go_d24 hc
    have hk : C s / 2 ^ 24 < 128 := by omega
    by_cases q9 : nI (C s / 2 ^ 24) = 9
    · refine stay (fun post hp => ?_)
      unfold wpX_drop
      exact go_usX nn ac pc tm md lo al A La P Lp E D W T U C Z.2.2.2.2 hs hU _ (br_f (by decide) ⟨hv, nm_r dX (br_t q9 hp)⟩)
    by_cases q10 : nI (C s / 2 ^ 24) = 10
    · refine stay (fun post hp => ?_)
      unfold wpX_drop
      exact go_usX nn ac pc tm md lo al A La P Lp E D W T U C Z.2.2.2.2 hs hU _ (br_f (by decide) ⟨hv, nm_r dX (br_f q9 (br_t q10 hp))⟩)
    by_cases q11 : nI (C s / 2 ^ 24) = 11
    · refine stay (fun post hp => ?_)
      unfold wpX_drop
      exact go_usX nn ac pc tm md lo al A La P Lp E D W T U C Z.2.2.2.2 hs hU _ (br_f (by decide) ⟨hv, nm_r dX (br_f q9 (br_f q10 (br_t q11 hp)))⟩)
    by_cases q12 : nI (C s / 2 ^ 24) = 12
    · refine stay (fun post hp => ?_)
      unfold wpX_drop
      exact go_usX nn ac pc tm md lo al A La P Lp E D W T U C Z.2.2.2.2 hs hU _ (br_f (by decide) ⟨hv, nm_r dX (br_f q9 (br_f q10 (br_f q11 (br_t q12 hp))))⟩)
    · have MS1 : ∀ t, go_up U s false t = true → go_ms D (C t) := by
        intro t h
        by_cases e : t = s
        · rw [e, go_us] at h; exact absurd h (by decide)
        · rw [go_un e] at h; exact MS t h
      refine ⟨al, A, La, P, Lp, E, D, W, T, go_up U s false, C, lo, ⟨⟨hn, hac, hpc, htm⟩, hmd, ⟨Z.1, Z.2.1, Z.2.2.1, Z.2.2.2.1, go_ISf Z.2.2.2.2 s⟩, KD, MS1, fun e0 => go_iv0 hc (fun q => q9 (by rw [q]; rfl)) (fun q => q10 (by rw [q]; rfl)) (fun q => q11 (by rw [q]; rfl)) (IV e0)⟩, rfl, fun _ h => h, 1, fun post hp => ?_⟩
      unfold wpX_drop
      exact go_usX nn ac pc tm md lo al A La P Lp E D W T U C Z.2.2.2.2 hs hU _ (br_f (by decide) ⟨hv, nm_r dX (br_f q9 (br_f q10 (br_f q11 (br_f q12 ⟨hv, nm_r (go_uSf U C s) hp⟩))))⟩)
theorem go_cT (G : go_G nn ac pc tm md lo al A La P Lp E D W T U C) (hl : lo + 300 < 2 ^ 31) : ∃ (al' : Nat → Bool) (A' La' P' Lp' : Nat → Nat) (E' D' W' : Nat → Bool) (T' : Nat → Nat) (U' : Nat → Bool) (C' : Nat → Nat) (lo' : Nat), go_G nn ac pc tm md lo' al' A' La' P' Lp' E' D' W' T' U' C' ∧ lo' ≤ lo + 300 ∧ (∀ j, D j = true → D' j = true) ∧ ∃ r : Int32, ∀ post : Int32 → St2 → Prop, post r (nI nn, nI ac, nI pc, nI tm, nI md, nI lo', go_B al', go_N A', go_N La', go_N P', go_N Lp', go_M E', go_M D', go_M W', go_N T', go_S U' C') → wpX_tick post (nI nn, nI ac, nI pc, nI tm, nI md, nI lo, go_B al, go_N A, go_N La, go_N P, go_N Lp, go_M E, go_M D, go_M W, go_N T, go_S U C) := by
  obtain ⟨⟨hn, hac, hpc, htm⟩, hmd, Z, KD, MS, IV⟩ := G
  obtain ⟨cnt', lo', E', W', T', U', C', JE', hT', S', hl', hpe, hiv, hX⟩ := go_tko nn ac pc tm md al A La P Lp D hn.2 hac htm Z.1 nn 0 0 lo E W T U C (by omega) Z.2.1 Z.2.2.2.1 Z.2.2.2.2 (by omega)
  have q := hpe.2.2
  exact ⟨al, A, La, P, Lp, E', D, W', T', U', C', lo', ⟨⟨hn, hac, hpc, htm⟩, hmd, ⟨Z.1, JE', Z.2.2.1, hT', S'⟩, KD, go_msp MS (fun _ h => h) hpe, fun e0 => hiv (by omega) (IV (by omega))⟩, by omega, fun _ h => h, nI cnt', fun post hp => ⟨_, hX post hp⟩⟩
theorem go_cB (x : Nat) (G : go_G nn ac pc tm md lo al A La P Lp E D W T U C) (hl : lo + 300 < 2 ^ 31) (hx : x < nn) : (∀ post : Int32 → St2 → Prop, post (-1) (nI nn, nI ac, nI pc, nI tm, nI md, nI lo, go_B al, go_N A, go_N La, go_N P, go_N Lp, go_M E, go_M D, go_M W, go_N T, go_S U C) → wpX_broadcast post (nI nn, nI ac, nI pc, nI tm, nI md, nI lo, go_B al, go_N A, go_N La, go_N P, go_N Lp, go_M E, go_M D, go_M W, go_N T, go_S U C) (nI x)) ∨ ∃ (D' : Nat → Bool) (U' : Nat → Bool) (C' : Nat → Nat) (lo' : Nat), md < 16 ∧ go_G nn ac pc tm (md + 1) lo' al A La P Lp E D' W T U' C' ∧ lo' ≤ lo + 300 ∧ (∀ j, D j = true → D' j = true) ∧ D' (x * 16 + md) = true ∧ ∀ post : Int32 → St2 → Prop, post (nI md) (nI nn, nI ac, nI pc, nI tm, nI (md + 1), nI lo', go_B al, go_N A, go_N La, go_N P, go_N Lp, go_M E, go_M D', go_M W, go_N T, go_S U' C') → wpX_broadcast post (nI nn, nI ac, nI pc, nI tm, nI md, nI lo, go_B al, go_N A, go_N La, go_N P, go_N Lp, go_M E, go_M D, go_M W, go_N T, go_S U C) (nI x) := by
  obtain ⟨⟨hn, hac, hpc, htm⟩, hmd, Z, KD, MS, IV⟩ := G
  have hv : vp_in (nI x) 16 := vp_in_nI (by omega) (by omega)
  have hx16 : x < 16 := by omega
  have hla := Z.1.2.1 x
  cases hal : al x with
  | false =>
    refine Or.inl (fun post hp => ?_)
    unfold wpX_broadcast
    exact go_alX0 nn ac pc tm md lo al A La P Lp E D W T U C hn.2 (Or.inr ⟨x, hx, rfl, hal⟩) _ (br_t rfl hp)
  | true =>
    by_cases h16 : md < 16
    · have c : nI md < 16 := nI_lt (b := 16) h16 (by omega)
      obtain ⟨a, _, ha, ea⟩ := go_1n md h16
      have hab : ∀ b, b < 16 → bt (nI a) b = true → b = md := fun b hb h => by
        rw [← ea, go_1b md (by omega) (by omega)] at h
        exact of_decide_eq_true h
      have hamd : bt (nI a) md = true := by rw [← ea, go_1b md (by omega) (by omega)]; exact decide_eq_true rfl
      have hDD : ∀ j, D j = true → go_up D (x * 16 + md) true j = true := fun j h => by
        by_cases q : j = x * 16 + md
        · rw [q]; exact go_us
        · rw [go_un q]; exact h
      obtain ⟨U', C', lo', S', hl', hpe, hgt, hX⟩ := go_fwd nn ac pc tm (md + 1) lo al A La P Lp E (go_up D (x * 16 + md) true) W T U C (-1) Z.1.1 (by omega) Z.2.2.2.2 (by omega) hx16 ha (fun b hb h => by rw [hab b hb h]; exact go_us)
      rw [← ea] at hX
      have q := hpe.2.2
      refine Or.inr ⟨go_up D (x * 16 + md) true, U', C', lo', h16, ⟨⟨hn, hac, hpc, htm⟩, h16, ⟨Z.1, Z.2.1, Z.2.2.1, Z.2.2.2.1, S'⟩, fun z b hb h => ?_, go_msp MS hDD hpe, fun e0 x' y' b hx' hy' hb ax ay l d => ?_⟩, by omega, hDD, go_us, fun post hp => ?_⟩
      · by_cases e : z * 16 + b = x * 16 + md
        · omega
        · rw [go_un e] at h
          have := KD z b hb h
          omega
      · by_cases e : x' * 16 + b = x * 16 + md
        · have e1 : x' = x := by omega
          have e2 : b = md := by omega
          obtain ⟨i, hi, hAi⟩ := l
          rw [e1] at hi hAi ⊢
          rw [e2]
          have nsv : ¬ nI (A (x * 4 + i)) = -1 := by
            intro w
            have := congrArg (fun z => decide (z < 0)) w
            simp only [decide_eq_false (nI_pos (n := A (x * 4 + i)) (by have := Z.1.1 (x * 4 + i); omega))] at this
            exact absurd this (by decide)
          rcases hgt (by omega) i hi nsv (by rw [hAi]; exact ay) with w | w
          · rw [hAi] at w
            exact Or.inr (Or.inl (go_gth (by omega) (by omega) hx16 hy' ha h16 hamd w))
          · rw [hAi] at w
            exact Or.inr (Or.inr (Or.inl (go_gth (by omega) (by omega) hx16 hy' ha h16 hamd w)))
        · rw [go_un e] at d
          rcases go_okp hpe (IV (by omega) x' y' b hx' hy' hb ax ay l d) with h | h | h | h | h
          · exact Or.inl (hDD _ h)
          · exact Or.inr (Or.inl h)
          · exact Or.inr (Or.inr (Or.inl h))
          · exact Or.inr (Or.inr (Or.inr (Or.inl h)))
          · exact Or.inr (Or.inr (Or.inr (Or.inr h)))
      · unfold wpX_broadcast
        exact go_alX nn ac pc tm md lo al A La P Lp E D W T U C hn.2 hx hal _ (br_f (by decide) (br_t c (nm_r (nI_1 md) ⟨hv, hv, nm_r (go_uMs D x md h16) (hX _ hp)⟩)))
    · have c : ¬ nI md < 16 := nI_nlt (b := 16) (by omega) (by omega)
      refine Or.inl (fun post hp => ?_)
      unfold wpX_broadcast
      exact go_alX nn ac pc tm md lo al A La P Lp E D W T U C hn.2 hx hal _ (br_f (by decide) (br_f c hp))
end
