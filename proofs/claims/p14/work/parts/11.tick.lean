/-- the timer of cell c is set to t, and cell c's announcers to those of W' : what a link rests on is kept -/
theorem go_oks {D W W' : Nat → Bool} {T T' : Nat → Nat} {U U' : Nat → Bool} {C C' : Nat → Nat} {lo lo' n q : Nat} {N : Nat → Prop} (hn : n < 16) (hq : q < 16) (p : go_pe U C lo U' C' lo' N) (hW : ∀ c, c ≠ n * 16 + q → ∀ x, x < 16 → W' (c * 16 + x) = W (c * 16 + x)) (hT : ∀ c, c ≠ n * 16 + q → T' c = T c) {x y b : Nat} (hx : x < 16) (hb : b < 16) (h : go_ok D W T U C x y b) (hc : y = n → b = q → W ((n * 16 + q) * 16 + x) = true → 0 < T (n * 16 + q) → go_ok D W' T' U' C' x n q) : go_ok D W' T' U' C' x y b := by
  by_cases e : y * 16 + b = n * 16 + q
  · have e1 : y = n := by omega
    have e2 : b = q := by omega
    rcases go_okp p h with g | g | g | g | g
    · exact Or.inl g
    · exact Or.inr (Or.inl g)
    · exact Or.inr (Or.inr (Or.inl g))
    · rw [e1, e2] at g ⊢
      exact hc e1 e2 g.1 g.2
    · exact Or.inr (Or.inr (Or.inr (Or.inr g)))
  · rcases go_okp p h with g | g | g | g | g
    · exact Or.inl g
    · exact Or.inr (Or.inl g)
    · exact Or.inr (Or.inr (Or.inl g))
    · refine Or.inr (Or.inr (Or.inr (Or.inl ⟨?_, ?_⟩)))
      · rw [hW _ e x hx]; exact g.1
      · rw [hT _ e]; exact g.2
    · exact Or.inr (Or.inr (Or.inr (Or.inr g)))
section
variable (nn ac pc tm md lo : Nat) (al : Nat → Bool) (A La P Lp : Nat → Nat) (E D W : Nat → Bool) (T : Nat → Nat) (U : Nat → Bool) (C : Nat → Nat)
theorem go_graft {x b i0 : Nat} (hac : 2 ≤ ac ∧ ac ≤ 4) (htm : 1 ≤ tm ∧ tm ≤ 8) (IA : go_IV4 ac A La) (JE : go_IE A La E) (hT : ∀ j, T j ≤ 8) (S : go_IS U C) (hl : lo + 1 < 2 ^ 31) (hx : x < 16) (hb : b < 16) (h0 : i0 < 16) (hW : W ((x * 16 + b) * 16 + i0) = true) (hWb : ∀ j, j < i0 → W ((x * 16 + b) * 16 + j) = false) : ∃ (E' W' : Nat → Bool) (T' : Nat → Nat) (U' : Nat → Bool) (C' : Nat → Nat) (lo' : Nat), go_IE A La E' ∧ (∀ j, T' j ≤ 8) ∧ go_IS U' C' ∧ lo' ≤ lo + 1 ∧ go_pe U C lo U' C' lo' (go_ms D) ∧ (lo' = lo → al i0 = true → go_hs U' C' 11 x i0 b) ∧ (∀ j, j ≠ (x * 16 + b) * 16 + i0 → W' j = W j) ∧ (∀ c, c ≠ x * 16 + b → T' c = T c) ∧ (∀ p, p < 16 → W' ((x * 16 + b) * 16 + p) = true → 0 < T' (x * 16 + b)) ∧ (∀ post : St2 → Prop, post (nI nn, nI ac, nI pc, nI tm, nI md, nI lo', go_B al, go_N A, go_N La, go_N P, go_N Lp, go_M E', go_M D, go_M W', go_N T', go_S U' C') → wpX_graftNextAnnouncer post (nI nn, nI ac, nI pc, nI tm, nI md, nI lo, go_B al, go_N A, go_N La, go_N P, go_N Lp, go_M E, go_M D, go_M W, go_N T, go_S U C) (nI x) (nI b)) := by
  have hla := IA.2.1 x
  have hv : vp_in (nI (x * 16 + b)) 256 := vp_in_nI (by omega) (by omega)
  obtain ⟨a, ha0, ha, ea⟩ := go_1n b hb
  have hab : bt (nI a) b = true := by rw [← ea, go_1b b (by omega) (by omega)]; exact decide_eq_true rfl
  have key : ∀ E' : Nat → Bool, go_IE A La E' → (∀ Q : St2 → Prop, Q (nI nn, nI ac, nI pc, nI tm, nI md, nI lo, go_B al, go_N A, go_N La, go_N P, go_N Lp, go_M E', go_M D, go_M (go_up W ((x * 16 + b) * 16 + i0) false), go_N T, go_S U C) → wpX_makeEager Q (nI nn, nI ac, nI pc, nI tm, nI md, nI lo, go_B al, go_N A, go_N La, go_N P, go_N Lp, go_M E, go_M D, go_M (go_up W ((x * 16 + b) * 16 + i0) false), go_N T, go_S U C) (nI x) (nI i0)) → ∃ (E' W' : Nat → Bool) (T' : Nat → Nat) (U' : Nat → Bool) (C' : Nat → Nat) (lo' : Nat), go_IE A La E' ∧ (∀ j, T' j ≤ 8) ∧ go_IS U' C' ∧ lo' ≤ lo + 1 ∧ go_pe U C lo U' C' lo' (go_ms D) ∧ (lo' = lo → al i0 = true → go_hs U' C' 11 x i0 b) ∧ (∀ j, j ≠ (x * 16 + b) * 16 + i0 → W' j = W j) ∧ (∀ c, c ≠ x * 16 + b → T' c = T c) ∧ (∀ p, p < 16 → W' ((x * 16 + b) * 16 + p) = true → 0 < T' (x * 16 + b)) ∧ (∀ post : St2 → Prop, post (nI nn, nI ac, nI pc, nI tm, nI md, nI lo', go_B al, go_N A, go_N La, go_N P, go_N Lp, go_M E', go_M D, go_M W', go_N T', go_S U' C') → wpX_graftNextAnnouncer post (nI nn, nI ac, nI pc, nI tm, nI md, nI lo, go_B al, go_N A, go_N La, go_N P, go_N Lp, go_M E, go_M D, go_M W, go_N T, go_S U C) (nI x) (nI b)) := by
    intro E' JE' hM
    obtain ⟨U1, C1, lo1, S1, hl1, hpe1, hgt1, hX1⟩ := go_send nn ac pc tm md lo al A La P Lp E' D (go_up W ((x * 16 + b) * 16 + i0) false) T U C (k := 11) S hl hx h0 (by omega) (by omega) ha
    have hpe2 : go_pe U C lo U1 C1 lo1 (go_ms D) := go_pew hpe1 (fun c hc => by rw [hc]; exact go_msn (by omega) (by omega) hx h0 ha (by omega))
    have hhs : lo1 = lo → al i0 = true → go_hs U1 C1 11 x i0 b := fun e ai => go_gth (by omega) (by omega) hx h0 ha hb hab (hgt1 e ai)
    rw [← ea] at hX1
    have rW := go_rM (e := nI (x * 16 + b)) (go_up W ((x * 16 + b) * 16 + i0) false) (x * 16 + b) rfl (by omega)
    rcases go_first (fun p => go_up W ((x * 16 + b) * 16 + i0) false ((x * 16 + b) * 16 + p) = true) 16 with hf | ⟨j0, hj0, hjt, _⟩
    · have hf' : ∀ p, p < 16 → go_up W ((x * 16 + b) * 16 + i0) false ((x * 16 + b) * 16 + p) = false := fun p hp => by have := hf p hp; simpa using this
      have z : go_M (go_up W ((x * 16 + b) * 16 + i0) false) (nI (x * 16 + b)).toNatClampNeg = 0 := by rw [rW]; exact (go_M0 _ _).mpr hf'
      exact ⟨E', go_up W ((x * 16 + b) * 16 + i0) false, T, U1, C1, lo1, JE', hT, S1, hl1, hpe2, hhs, fun j hj => go_un hj, fun _ _ => rfl, fun p hp q => absurd q (hf p hp), fun post hp => nm_r (go_ix16 x b) ⟨hv, ⟨17, go_low h0 (fun j hj => go_mz W (x * 16 + b) j (by omega) (hWb j hj)) (go_mn W (x * 16 + b) i0 h0 hW) _ ⟨hv, hv, nm_r (go_uMc W (x * 16 + b) i0 h0) (hM _ (hX1 _ ⟨hv, br_t z hp⟩))⟩ 17 0 (by omega) (by omega)⟩⟩⟩
    · have z : ¬ go_M (go_up W ((x * 16 + b) * 16 + i0) false) (nI (x * 16 + b)).toNatClampNeg = 0 := by
        rw [rW, go_M0]
        intro q
        rw [q j0 hj0] at hjt
        exact absurd hjt (by decide)
      have hT2 : ∀ j, go_up T (x * 16 + b) tm j ≤ 8 := by
        intro j
        by_cases e : j = x * 16 + b
        · rw [e, go_us]; omega
        · rw [go_un e]; exact hT j
      exact ⟨E', go_up W ((x * 16 + b) * 16 + i0) false, go_up T (x * 16 + b) tm, U1, C1, lo1, JE', hT2, S1, hl1, hpe2, hhs, fun j hj => go_un hj, fun c hc => go_un hc, fun p hp q => by rw [go_us]; omega, fun post hp => nm_r (go_ix16 x b) ⟨hv, ⟨17, go_low h0 (fun j hj => go_mz W (x * 16 + b) j (by omega) (hWb j hj)) (go_mn W (x * 16 + b) i0 h0 hW) _ ⟨hv, hv, nm_r (go_uMc W (x * 16 + b) i0 h0) (hM _ (hX1 _ ⟨hv, br_f z ⟨hv, nm_r (go_uN T (x * 16 + b) tm rfl) hp⟩⟩))⟩ 17 0 (by omega) (by omega)⟩⟩⟩
  rcases go_first (fun i => A (x * 4 + i) = i0) (La x) with hA | ⟨i, hi, hAi, hAb⟩
  · exact key E JE (fun Q hQ => go_me0 nn ac pc tm md lo al A La P Lp E D (go_up W ((x * 16 + b) * 16 + i0) false) T U C IA.1 (by omega) hx h0 hA Q hQ)
  · exact key (go_up E (x * 16 + i0) true) (go_Eset JE h0 hi hAi) (fun Q hQ => go_me1 nn ac pc tm md lo al A La P Lp E D (go_up W ((x * 16 + b) * 16 + i0) false) T U C IA.1 (by omega) hx h0 hi hAi Q hQ)
end
section
variable (nn ac pc tm md : Nat) (al : Nat → Bool) (A La P Lp : Nat → Nat) (D : Nat → Bool)
theorem go_tkl {x : Nat} (hac : 2 ≤ ac ∧ ac ≤ 4) (htm : 1 ≤ tm ∧ tm ≤ 8) (IA : go_IV4 ac A La) (hx : x < 16) (hal : al x = true) : ∀ d b (cnt lo : Nat) (E W : Nat → Bool) (T : Nat → Nat) (U : Nat → Bool) (C : Nat → Nat), b + d = 16 → go_IE A La E → (∀ j, T j ≤ 8) → go_IS U C → lo + d < 2 ^ 31 → ∃ (cnt' lo' : Nat) (E' W' : Nat → Bool) (T' : Nat → Nat) (U' : Nat → Bool) (C' : Nat → Nat), go_IE A La E' ∧ (∀ j, T' j ≤ 8) ∧ go_IS U' C' ∧ lo' ≤ lo + d ∧ go_pe U C lo U' C' lo' (go_ms D) ∧ (lo' = lo → go_inv al A La D W T U C → go_inv al A La D W' T' U' C') ∧ (∀ (post : Int32 → St2 → Prop) (J : Int32 → Int32 → Int32 → Int32 → Int32 → Int32 → Int32 → Int32 → (Nat → Int32) → (Nat → Int32) → (Nat → Int32) → (Nat → Int32) → (Nat → Int32) → (Nat → Int32) → (Nat → Int32) → (Nat → Int32) → (Nat → Int32) → (Nat → Int32) → Prop), J (nI cnt') (nI (x + 1)) (nI nn) (nI ac) (nI pc) (nI tm) (nI md) (nI lo') (go_B al) (go_N A) (go_N La) (go_N P) (go_N Lp) (go_M E') (go_M D) (go_M W') (go_N T') (go_S U' C') → wX_tick_14 post J (nI x) (d + 1) (nI cnt) (nI b) (nI nn) (nI ac) (nI pc) (nI tm) (nI md) (nI lo) (go_B al) (go_N A) (go_N La) (go_N P) (go_N Lp) (go_M E) (go_M D) (go_M W) (go_N T) (go_S U C)) := by
  intro d
  induction d with
  | zero =>
    intro b cnt lo E W T U C hb JE hT S hl
    exact ⟨cnt, lo, E, W, T, U, C, JE, hT, S, by omega, go_pe0 U C lo _, fun _ h => h, fun post J hJ => br_t (nI_le (a := 16) (by omega) (by omega)) (nm_r (nI_1 x) hJ)⟩
  | succ d ih =>
    intro b cnt lo E W T U C hb JE hT S hl
    have hb16 : b < 16 := by omega
    have hne : ¬ (16 : Int32) ≤ nI b := nI_ge (b := 16) hb16 (by omega)
    have hv : vp_in (nI x) 16 := vp_in_nI hx (by omega)
    have h8 := hT (x * 16 + b)
    by_cases t0 : T (x * 16 + b) = 0
    · obtain ⟨cnt', lo', E', W', T', U', C', JE', hT', S', hl', hpe, hiv, hX⟩ := ih (b + 1) cnt lo E W T U C (by omega) JE hT S (by omega)
      exact ⟨cnt', lo', E', W', T', U', C', JE', hT', S', by omega, hpe, hiv, fun post J hJ => br_f hne ⟨hv, br_f (go_bn al x hal) (go_cd0 nn ac pc tm md lo al A La P Lp E D W T U C hx hb16 t0 _ (br_t rfl (nm_r (nI_1 b) (hX post J hJ))))⟩⟩
    · have hT1 : ∀ j, go_up T (x * 16 + b) (T (x * 16 + b) - 1) j ≤ 8 := by
        intro j
        by_cases e : j = x * 16 + b
        · rw [e, go_us]; omega
        · rw [go_un e]; exact hT j
      by_cases t1 : T (x * 16 + b) = 1
      · have e0 : T (x * 16 + b) - 1 = 0 := by omega
        rw [e0] at hT1
        rcases go_first (fun p => W ((x * 16 + b) * 16 + p) = true) 16 with hf | ⟨i0, h0, hW, hWb⟩
        · have hf' : ∀ p, p < 16 → W ((x * 16 + b) * 16 + p) = false := fun p hp => by have := hf p hp; simpa using this
          obtain ⟨cnt', lo', E', W', T', U', C', JE', hT', S', hl', hpe, hiv, hX⟩ := ih (b + 1) cnt lo E W (go_up T (x * 16 + b) 0) U C (by omega) JE hT1 S (by omega)
          refine ⟨cnt', lo', E', W', T', U', C', JE', hT', S', by omega, hpe, fun e H => hiv e (fun x' y' b' hx' hy' hb' ax ay l d' => ?_), fun post J hJ => br_f hne ⟨hv, br_f (go_bn al x hal) (go_cd2 nn ac pc tm md lo al A La P Lp E D W T U C hx hb16 t1 ((go_M0 W _).mpr hf') _ (br_t rfl (nm_r (nI_1 b) (hX post J hJ))))⟩⟩
          exact go_oks hx hb16 (go_pe0 U C lo (go_ms D)) (fun _ _ _ _ => rfl) (fun c hc => go_un hc) hx' hb' (H x' y' b' hx' hy' hb' ax ay l d') (fun _ _ w _ => absurd w (by rw [hf' x' hx']; decide))
        · have hWb' : ∀ j, j < i0 → W ((x * 16 + b) * 16 + j) = false := fun j hj => by have := hWb j hj; simpa using this
          have hM : ¬ go_M W (x * 16 + b) = 0 := by
            rw [go_M0]
            intro q
            rw [q i0 h0] at hW
            exact absurd hW (by decide)
          obtain ⟨E1, W1, T1, U1, C1, lo1, JE1, hT1', S1, hl1, hpe1, hhs1, hW1, hTc1, hTp1, hX1⟩ := go_graft nn ac pc tm md lo al A La P Lp E D W (go_up T (x * 16 + b) 0) U C hac htm IA JE hT1 S (by omega) hx hb16 h0 hW hWb'
          obtain ⟨cnt', lo', E', W', T', U', C', JE', hT', S', hl', hpe, hiv, hX⟩ := ih (b + 1) (cnt + 1) lo1 E1 W1 T1 U1 C1 (by omega) JE1 hT1' S1 (by omega)
          have q1 := hpe1.2.2
          have q2 := hpe.2.2
          refine ⟨cnt', lo', E', W', T', U', C', JE', hT', S', by omega, go_pet hpe1 hpe, fun e H => hiv (by omega) (fun x' y' b' hx' hy' hb' ax ay l d' => ?_), fun post J hJ => br_f hne ⟨hv, br_f (go_bn al x hal) (go_cd3 nn ac pc tm md lo al A La P Lp E D W T U C hx hb16 t1 hM _ (br_f (by decide) (hX1 _ (nm_r (nI_1 cnt) (nm_r (nI_1 b) (hX post J hJ))))))⟩⟩
          refine go_oks hx hb16 hpe1 (fun c hc z hz => hW1 _ (by omega)) (fun c hc => (hTc1 c hc).trans (go_un hc)) hx' hb' (H x' y' b' hx' hy' hb' ax ay l d') (fun _ _ w _ => ?_)
          by_cases ex : x' = i0
          · rw [ex] at ax ⊢
            exact Or.inr (Or.inr (Or.inr (Or.inr (hhs1 (by omega) ax))))
          · have ww : W1 ((x * 16 + b) * 16 + x') = true := (hW1 _ (by omega)).trans w
            exact Or.inr (Or.inr (Or.inr (Or.inl ⟨ww, hTp1 x' hx' ww⟩)))
      · obtain ⟨cnt', lo', E', W', T', U', C', JE', hT', S', hl', hpe, hiv, hX⟩ := ih (b + 1) cnt lo E W (go_up T (x * 16 + b) (T (x * 16 + b) - 1)) U C (by omega) JE hT1 S (by omega)
        refine ⟨cnt', lo', E', W', T', U', C', JE', hT', S', by omega, hpe, fun e H => hiv e (fun x' y' b' hx' hy' hb' ax ay l d' => ?_), fun post J hJ => br_f hne ⟨hv, br_f (go_bn al x hal) (go_cd1 nn ac pc tm md lo al A La P Lp E D W T U C hT hx hb16 (by omega) _ (br_t rfl (nm_r (nI_1 b) (hX post J hJ))))⟩⟩
        exact go_oks hx hb16 (go_pe0 U C lo (go_ms D)) (fun _ _ _ _ => rfl) (fun c hc => go_un hc) hx' hb' (H x' y' b' hx' hy' hb' ax ay l d') (fun _ _ w _ => Or.inr (Or.inr (Or.inr (Or.inl ⟨w, by show 0 < go_up T (x * 16 + b) (T (x * 16 + b) - 1) (x * 16 + b); rw [go_us]; omega⟩))))
theorem go_tko (hn : nn ≤ 16) (hac : 2 ≤ ac ∧ ac ≤ 4) (htm : 1 ≤ tm ∧ tm ≤ 8) (IA : go_IV4 ac A La) : ∀ d i (cnt lo : Nat) (E W : Nat → Bool) (T : Nat → Nat) (U : Nat → Bool) (C : Nat → Nat), i + d = nn → go_IE A La E → (∀ j, T j ≤ 8) → go_IS U C → lo + 16 * d < 2 ^ 31 → ∃ (cnt' lo' : Nat) (E' W' : Nat → Bool) (T' : Nat → Nat) (U' : Nat → Bool) (C' : Nat → Nat), go_IE A La E' ∧ (∀ j, T' j ≤ 8) ∧ go_IS U' C' ∧ lo' ≤ lo + 16 * d ∧ go_pe U C lo U' C' lo' (go_ms D) ∧ (lo' = lo → go_inv al A La D W T U C → go_inv al A La D W' T' U' C') ∧ (∀ (post : Int32 → St2 → Prop), post (nI cnt') (nI nn, nI ac, nI pc, nI tm, nI md, nI lo', go_B al, go_N A, go_N La, go_N P, go_N Lp, go_M E', go_M D, go_M W', go_N T', go_S U' C') → wX_tick_4 post (d + 1) (nI cnt) (nI i) (nI nn) (nI ac) (nI pc) (nI tm) (nI md) (nI lo) (go_B al) (go_N A) (go_N La) (go_N P) (go_N Lp) (go_M E) (go_M D) (go_M W) (go_N T) (go_S U C)) := by
  intro d
  induction d with
  | zero =>
    intro i cnt lo E W T U C hi JE hT S hl
    exact ⟨cnt, lo, E, W, T, U, C, JE, hT, S, by omega, go_pe0 U C lo _, fun _ h => h, fun post hp => br_t (nI_le (by omega) (by omega)) hp⟩
  | succ d ih =>
    intro i cnt lo E W T U C hi JE hT S hl
    have hi16 : i < 16 := by omega
    have hne : ¬ nI nn ≤ nI i := nI_ge (by omega) (by omega)
    cases hal : al i with
    | false =>
      obtain ⟨cnt', lo', E', W', T', U', C', JE', hT', S', hl', hpe, hiv, hX⟩ := ih (i + 1) cnt lo E W T U C (by omega) JE hT S (by omega)
      exact ⟨cnt', lo', E', W', T', U', C', JE', hT', S', by omega, hpe, hiv, fun post hp => br_f hne ⟨17, go_tkD nn ac pc tm md lo al A La P Lp E D W T U C hi16 hal post _ (hX post hp) 17 0 (by omega) (by omega)⟩⟩
    | true =>
      obtain ⟨cnt1, lo1, E1, W1, T1, U1, C1, JE1, hT1, S1, hl1, hpe1, hiv1, hX1⟩ := go_tkl nn ac pc tm md al A La P Lp D (x := i) hac htm IA hi16 hal 16 0 cnt lo E W T U C (by omega) JE hT S (by omega)
      obtain ⟨cnt', lo', E', W', T', U', C', JE', hT', S', hl', hpe, hiv, hX⟩ := ih (i + 1) cnt1 lo1 E1 W1 T1 U1 C1 (by omega) JE1 hT1 S1 (by omega)
      have q1 := hpe1.2.2
      have q2 := hpe.2.2
      exact ⟨cnt', lo', E', W', T', U', C', JE', hT', S', by omega, go_pet hpe1 hpe, fun e H => hiv (by omega) (hiv1 (by omega) H), fun post hp => br_f hne ⟨_, hX1 post _ (hX post hp)⟩⟩
end
