theorem go_lk0 {A La : Nat → Nat} {n z w : Nat} (h : go_lk A (go_up La n 0) z w) (hz : z ≠ n) : go_lk A La z w := by
  obtain ⟨i, h1, h2⟩ := h
  rw [go_un hz] at h1
  exact ⟨i, h1, h2⟩
theorem go_hsr {U : Nat → Bool} {C : Nat → Nat} {n k x y b : Nat} (hx : x ≠ n) (hy : y ≠ n) (h : go_hs U C k x y b) : go_hs (go_rU U C n 64) C k x y b := by
  obtain ⟨s, hs, hU, h1, h2, h3, h4⟩ := h
  refine ⟨s, hs, ?_, h1, h2, h3, h4⟩
  unfold go_rU
  rw [if_neg]
  · exact hU
  · intro q
    rcases q.2 with q | q
    · exact hx (h2.symm.trans q)
    · exact hy (h3.symm.trans q)
theorem go_msp {D D' : Nat → Bool} {U U' : Nat → Bool} {C C' : Nat → Nat} {lo lo' : Nat} (h : ∀ s, U s = true → go_ms D (C s)) (hD : ∀ j, D j = true → D' j = true) (p : go_pe U C lo U' C' lo' (go_ms D')) : ∀ s, U' s = true → go_ms D' (C' s) := by
  intro s hs
  rcases p.2.1 s hs with ⟨a, e⟩ | a
  · rw [e]; exact go_msm hD (h s a)
  · exact a
section
variable (nn ac pc tm md : Nat) (al : Nat → Bool) (D W : Nat → Bool) (T : Nat → Nat)
theorem go_crl {x : Nat} (hn : nn ≤ 16) (hac : 2 ≤ ac ∧ ac ≤ 4) (hpc : 1 ≤ pc ∧ pc ≤ 8) (hT : ∀ j, T j ≤ 8) (hx : x < 16) : ∀ d i (lo : Nat) (A La P Lp : Nat → Nat) (E : Nat → Bool) (U : Nat → Bool) (C : Nat → Nat), i + d = nn → go_Z ac pc A La P Lp E T U C → lo + d < 2 ^ 31 → ∃ (A' La' P' Lp' : Nat → Nat) (E' : Nat → Bool) (U' : Nat → Bool) (C' : Nat → Nat) (lo' : Nat), go_Z ac pc A' La' P' Lp' E' T U' C' ∧ lo' ≤ lo + d ∧ go_pe U C lo U' C' lo' (go_ms D) ∧ (∀ z w, go_lk A' La' z w → go_lk A La z w) ∧ (∀ post : Int32 → St2 → Prop, post 1 (nI nn, nI ac, nI pc, nI tm, nI md, nI lo', go_B al, go_N A', go_N La', go_N P', go_N Lp', go_M E', go_M D, go_M W, go_N T, go_S U' C') → wX_crash_29 post (nI x) (d + 1) (nI i) (nI nn) (nI ac) (nI pc) (nI tm) (nI md) (nI lo) (go_B al) (go_N A) (go_N La) (go_N P) (go_N Lp) (go_M E) (go_M D) (go_M W) (go_N T) (go_S U C)) := by
  intro d
  induction d with
  | zero =>
    intro i lo A La P Lp E U C hi Z hl
    exact ⟨A, La, P, Lp, E, U, C, lo, Z, by omega, go_pe0 U C lo _, fun _ _ h => h, fun post hp => br_t (nI_le (by omega) (by omega)) hp⟩
  | succ d ih =>
    intro i lo A La P Lp E U C hi Z hl
    have Z0 := Z
    obtain ⟨IA, JE, I, _, S⟩ := Z
    have hi16 : i < 16 := by omega
    have hla := IA.2.1 i
    have hne : ¬ nI nn ≤ nI i := nI_ge (by omega) (by omega)
    have hv : vp_in (nI i) 16 := vp_in_nI hi16 (by omega)
    cases hal : al i with
    | false =>
      obtain ⟨A', La', P', Lp', E', U', C', lo', Z', hl', hpe, hlk, hX⟩ := ih (i + 1) lo A La P Lp E U C (by omega) Z0 (by omega)
      exact ⟨A', La', P', Lp', E', U', C', lo', Z', by omega, hpe, hlk, fun post hp => br_f hne ⟨hv, br_t (go_bz al i hal) (nm_r (nI_1 i) (hX post hp))⟩⟩
    | true =>
      rcases go_first (fun j => A (i * 4 + j) = x) (La i) with hA | ⟨j, hj, hAj, hAb⟩
      · obtain ⟨A', La', P', Lp', E', U', C', lo', Z', hl', hpe, hlk, hX⟩ := ih (i + 1) lo A La P Lp E U C (by omega) Z0 (by omega)
        exact ⟨A', La', P', Lp', E', U', C', lo', Z', by omega, hpe, hlk, fun post hp => br_f hne ⟨hv, br_f (go_bn al i hal) (go_rX04 nn ac pc tm md lo al A La P Lp E D W T U C hac.2 IA JE hi16 hx hA _ (br_t rfl (nm_r (nI_1 i) (hX post hp))))⟩⟩
      · have I2 := go_rm4 hac.2 IA hj
        have J2 := go_rmE hac.2 IA JE hj hAj
        obtain ⟨P1, Lp1, U1, C1, lo1, I1, S1, hl1, hpe1, hX1⟩ := go_repair nn ac pc tm md lo al (go_sh A (i * 4 + j) (i * 4 + (La i - 1))) (go_up La i (La i - 1)) P Lp (go_up E (i * 16 + x) false) D W T U C hac (I2.2.1 i) hpc I S (by omega) hi16
        obtain ⟨A', La', P', Lp', E', U', C', lo', Z', hl', hpe, hlk, hX⟩ := ih (i + 1) lo1 _ _ P1 Lp1 _ U1 C1 (by omega) ⟨I2, J2, I1, hT, S1⟩ (by omega)
        exact ⟨A', La', P', Lp', E', U', C', lo', Z', by omega, go_pet hpe1 hpe, fun z w h => go_lkr hac.2 IA hj z w (hlk z w h), fun post hp => br_f hne ⟨hv, br_f (go_bn al i hal) (go_rX14 nn ac pc tm md lo al A La P Lp E D W T U C hac.2 IA hi16 hx hj hAj _ (br_f (by decide) (hX1 _ (nm_r (nI_1 i) (hX post hp)))))⟩⟩
end
section
variable (nn ac pc tm md lo : Nat) (al : Nat → Bool) (A La P Lp : Nat → Nat) (E D W : Nat → Bool) (T : Nat → Nat) (U : Nat → Bool) (C : Nat → Nat)
theorem go_crash {x : Nat} (hn : 2 ≤ nn ∧ nn ≤ 16) (hac : 2 ≤ ac ∧ ac ≤ 4) (hpc : 1 ≤ pc ∧ pc ≤ 8) (Z : go_Z ac pc A La P Lp E T U C) (hl : lo + 20 < 2 ^ 31) (MS : ∀ s, U s = true → go_ms D (C s)) (hx : x < nn) (hal : al x = true) : ∃ (A' La' P' Lp' : Nat → Nat) (E' W' : Nat → Bool) (T' : Nat → Nat) (U' : Nat → Bool) (C' : Nat → Nat) (lo' : Nat), go_Z ac pc A' La' P' Lp' E' T' U' C' ∧ lo' ≤ lo + 20 ∧ lo ≤ lo' ∧ (∀ s, U' s = true → go_ms D (C' s)) ∧ (lo' = lo → go_inv al A La D W T U C → go_inv (go_up al x false) A' La' D W' T' U' C') ∧ (∀ post : Int32 → St2 → Prop, post 1 (nI nn, nI ac, nI pc, nI tm, nI md, nI lo', go_B (go_up al x false), go_N A', go_N La', go_N P', go_N Lp', go_M E', go_M D, go_M W', go_N T', go_S U' C') → wpX_crash post (nI nn, nI ac, nI pc, nI tm, nI md, nI lo, go_B al, go_N A, go_N La, go_N P, go_N Lp, go_M E, go_M D, go_M W, go_N T, go_S U C) (nI x)) := by
  obtain ⟨IA, JE, I, hT, S⟩ := Z
  have hx16 : x < 16 := by omega
  have hT' : ∀ j, go_ov T 0 x (nI 65535) 16 j ≤ 8 := by
    intro j
    unfold go_ov
    split
    · omega
    · exact hT j
  have hv : vp_in (nI x) 16 := vp_in_nI hx16 (by omega)
  obtain ⟨A', La', P', Lp', E', U', C', lo', Z', hl', hpe, hlk, hX⟩ := go_crl nn ac pc tm md (go_up al x false) D (go_oW W x (nI 65535) 16) (go_ov T 0 x (nI 65535) 16) (x := x) hn.2 hac hpc hT' hx16 nn 0 lo A (go_up La x 0) P (go_up Lp x 0) (go_z E false (x * 16) (x * 16 + 16)) (go_rU U C x 64) C (by omega) ⟨go_cl4 IA x, go_Erow JE x, go_cl8 I x, hT', go_rUS S x 64⟩ (by omega)
  have MS1 : ∀ s, go_rU U C x 64 s = true → go_ms D (C s) := by
    intro s h
    unfold go_rU at h
    split at h
    · exact absurd h (by decide)
    · exact MS s h
  refine ⟨A', La', P', Lp', E', go_oW W x (nI 65535) 16, go_ov T 0 x (nI 65535) 16, U', C', lo', Z', by omega, hpe.2.2, go_msp MS1 (fun _ h => h) hpe, fun e H x' y' b hx' hy' hb ax ay l d => ?_, fun post hp => ?_⟩
  · have ex : x' ≠ x := fun q => by rw [q, go_us] at ax; exact absurd ax (by decide)
    have ey : y' ≠ x := fun q => by rw [q, go_us] at ay; exact absurd ay (by decide)
    rw [go_un ex] at ax
    rw [go_un ey] at ay
    have l1 := go_lk0 (hlk x' y' l) ex
    refine go_okp hpe ?_
    rcases H x' y' b hx' hy' hb ax ay l1 d with h | h | h | h | h
    · exact Or.inl h
    · exact Or.inr (Or.inl (go_hsr ex ey h))
    · exact Or.inr (Or.inr (Or.inl (go_hsr ex ey h)))
    · refine Or.inr (Or.inr (Or.inr (Or.inl ⟨?_, ?_⟩)))
      · rw [go_oWr W x (nI 65535) y' b x' hb hx', if_neg (fun q => ey q.1)]; exact h.1
      · rw [go_ovr T 0 x (nI 65535) y' b hb, if_neg (fun q => ey q.1)]; exact h.2
    · exact Or.inr (Or.inr (Or.inr (Or.inr (go_hsr ey ex h))))
  · unfold wpX_crash
    refine go_alX nn ac pc tm md lo al A La P Lp E D W T U C hn.2 hx hal _ (br_f (by decide) ⟨hv, nm_r (go_uB al x false rfl) (go_fpX nn ac pc tm md lo (go_up al x false) A La P Lp E D W T U C hx16 _ ⟨65, ?_⟩)⟩)
    have w : ∀ Q : St2 → Prop, Q (nI nn, nI ac, nI pc, nI tm, nI md, nI lo, go_B (go_up al x false), go_N A, go_N (go_up La x 0), go_N P, go_N (go_up Lp x 0), go_M (go_z E false (x * 16) (x * 16 + 16)), go_M D, go_M (go_oW W x (nI 65535) 16), go_N (go_ov T 0 x (nI 65535) 16), go_S (go_rU U C x 64) C) → wX_removeMessagesOf_2 Q (nI x) (nI nn) (nI ac) (nI pc) (nI tm) (nI md) (nI lo) 65 (nI 0) (go_B (go_up al x false)) (go_N A) (go_N (go_up La x 0)) (go_N P) (go_N (go_up Lp x 0)) (go_M (go_z E false (x * 16) (x * 16 + 16))) (go_M D) (go_M (go_oW W x (nI 65535) 16)) (go_N (go_ov T 0 x (nI 65535) 16)) (go_S U C) := by
      intro Q hQ
      have w := go_rmX nn ac pc tm md lo (go_up al x false) A (go_up La x 0) P (go_up Lp x 0) (go_z E false (x * 16) (x * 16 + 16)) D (go_oW W x (nI 65535) 16) (go_ov T 0 x (nI 65535) 16) U C S hx16 Q hQ 65 0 (by omega) (by omega)
      rw [go_rU0] at w
      exact w
    exact w _ ⟨_, hX post hp⟩
end
