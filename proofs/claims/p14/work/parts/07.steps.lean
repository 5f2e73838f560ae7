def go_Z (ac pc : Nat) (A La P Lp : Nat → Nat) (E : Nat → Bool) (T : Nat → Nat) (U : Nat → Bool) (C : Nat → Nat) : Prop := go_IV4 ac A La ∧ go_IE A La E ∧ go_IV8 pc P Lp ∧ (∀ j, T j ≤ 8) ∧ go_IS U C
/-- a link that is new is announced, unless a send was lost -/
def go_lr (al D : Nat → Bool) (A La A' La' : Nat → Nat) (U' : Nat → Bool) (C' : Nat → Nat) (lo lo' : Nat) : Prop := ∀ z w, go_lk A' La' z w → go_lk A La z w ∨ (lo' = lo → al w = true → ∀ b, b < 16 → D (z * 16 + b) = true → go_hs U' C' 10 z w b)
theorem go_lr0 (al D : Nat → Bool) (A La : Nat → Nat) (U' : Nat → Bool) (C' : Nat → Nat) (lo lo' : Nat) : go_lr al D A La A La U' C' lo lo' := fun _ _ h => Or.inl h
theorem go_lrp {al D : Nat → Bool} {A La A' La' : Nat → Nat} {U U1 U2 : Nat → Bool} {C C1 C2 : Nat → Nat} {lo lo1 lo2 : Nat} {N N' : Nat → Prop} (h : go_lr al D A La A' La' U1 C1 lo lo1) (p : go_pe U C lo U1 C1 lo1 N) (q : go_pe U1 C1 lo1 U2 C2 lo2 N') : go_lr al D A La A' La' U2 C2 lo lo2 := by
  intro z w g
  rcases h z w g with g | g
  · exact Or.inl g
  · refine Or.inr (fun e aw b hb d => go_hsp q (g ?_ aw b hb d))
    have := p.2.2
    have := q.2.2
    omega
theorem go_ivr {al D W : Nat → Bool} {T : Nat → Nat} {A La A' La' : Nat → Nat} {U U1 : Nat → Bool} {C C1 : Nat → Nat} {lo lo1 : Nat} {N : Nat → Prop} (g : go_inv al A La D W T U C) (p : go_pe U C lo U1 C1 lo1 N) (h : go_lr al D A La A' La' U1 C1 lo lo1) (e : lo1 = lo) : go_inv al A' La' D W T U1 C1 := by
  intro x y b hx hy hb ax ay l d
  rcases h x y l with q | q
  · exact go_okp p (g x y b hx hy hb ax ay q d)
  · exact Or.inr (Or.inr (Or.inl (q e ay b hb d)))
section
variable (nn ac pc tm md lo : Nat) (al : Nat → Bool) (A La P Lp : Nat → Nat) (E D W : Nat → Bool) (T : Nat → Nat) (U : Nat → Bool) (C : Nat → Nat)
theorem go_send {x y k a : Nat} (I : go_IS U C) (hl : lo + 1 < 2 ^ 31) (hx : x < 16) (hy : y < 16) (hk0 : 0 < k) (hk : k < 128) (ha : a < 65536) : ∃ (U' : Nat → Bool) (C' : Nat → Nat) (lo' : Nat), go_IS U' C' ∧ lo' ≤ lo + 1 ∧ go_pe U C lo U' C' lo' (fun c => c = go_cd k x y a) ∧ (lo' = lo → al y = true → go_gt U' C' (go_cd k x y a)) ∧ (∀ post : St2 → Prop, post (nI nn, nI ac, nI pc, nI tm, nI md, nI lo', go_B al, go_N A, go_N La, go_N P, go_N Lp, go_M E, go_M D, go_M W, go_N T, go_S U' C') → wpX_send post (nI nn, nI ac, nI pc, nI tm, nI md, nI lo, go_B al, go_N A, go_N La, go_N P, go_N Lp, go_M E, go_M D, go_M W, go_N T, go_S U C) (nI x) (nI y) (nI k) (nI a)) := by
  have hc := go_cdI k x y a hk hx hy ha
  obtain ⟨hc0, hc1, _⟩ := go_cdb hk0 hk hx hy ha
  cases hal : al y with
  | false => exact ⟨U, C, lo, I, by omega, go_pe0 U C lo _, fun _ q => absurd q (by decide), fun post hp => ⟨vp_in_nI hy (by omega), br_t (go_bz al y hal) hp⟩⟩
  | true =>
    rcases go_first (fun s => U s = false) 64 with h | ⟨s, hs, hf, hb⟩
    · have h' : ∀ s, s < 64 → U s = true := fun s hs => by have := h s hs; simpa using this
      exact ⟨U, C, lo + 1, I, by omega, ⟨fun _ h => ⟨h, rfl⟩, fun _ h => Or.inl ⟨h, rfl⟩, by omega⟩, fun q => absurd q (by omega), fun post hp => ⟨vp_in_nI hy (by omega), br_f (go_bn al y hal) ⟨65, go_sXf nn ac pc tm md lo al A La P Lp E D W T U C I hl h' post hp 65 0 (by omega) (by omega)⟩⟩⟩
    · refine ⟨go_up U s true, go_up C s (go_cd k x y a), lo, go_ISt I s _ hc0 hc1, by omega, ⟨fun t h => ?_, fun t h => ?_, Nat.le_refl _⟩, fun _ _ => ⟨s, hs, go_us, go_us⟩, fun post hp => ⟨vp_in_nI hy (by omega), br_f (go_bn al y hal) ⟨65, go_sXs nn ac pc tm md lo al A La P Lp E D W T U C I hc hs hf hb post hp 65 0 (by omega) (by omega)⟩⟩⟩
      · have e : t ≠ s := fun q => by rw [q, hf] at h; exact absurd h (by decide)
        exact ⟨(go_un e).trans h, go_un e⟩
      · by_cases e : t = s
        · rw [e]; exact Or.inr go_us
        · rw [go_un e] at h; exact Or.inl ⟨h, go_un e⟩
theorem go_addP {x y : Nat} (hac : ac ≤ 4) (IA : go_IV4 ac A La) (hpc : 1 ≤ pc ∧ pc ≤ 8) (I : go_IV8 pc P Lp) (hx : x < 16) (hy : y < 16) : ∃ (P' Lp' : Nat → Nat), go_IV8 pc P' Lp' ∧ (∀ post : St2 → Prop, post (nI nn, nI ac, nI pc, nI tm, nI md, nI lo, go_B al, go_N A, go_N La, go_N P', go_N Lp', go_M E, go_M D, go_M W, go_N T, go_S U C) → wpX_addPassive post (nI nn, nI ac, nI pc, nI tm, nI md, nI lo, go_B al, go_N A, go_N La, go_N P, go_N Lp, go_M E, go_M D, go_M W, go_N T, go_S U C) (nI x) (nI y)) := by
  have hla := IA.2.1 x
  have hlp := I.2.1 x
  by_cases e : y = x
  · exact ⟨P, Lp, I, fun post hp => br_t (by rw [e]) hp⟩
  have e' : ¬ nI y = nI x := by rw [nI_eq (by omega) (by omega)]; exact e
  rcases go_first (fun i => A (x * 4 + i) = y) (La x) with hA | ⟨i, hi, hAi, hAb⟩
  rotate_left
  · exact ⟨P, Lp, I, fun post hp => br_f e' (go_isy4 nn ac pc tm md lo al A La P Lp E D W T U C IA.1 (by omega) hx hy hi hAi _ (br_f (by decide) hp))⟩
  rcases go_first (fun i => P (x * 8 + i) = y) (Lp x) with hP | ⟨i, hi, hPi, hPb⟩
  rotate_left
  · exact ⟨P, Lp, I, fun post hp => br_f e' (go_is4 nn ac pc tm md lo al A La P Lp E D W T U C IA.1 (by omega) hx hy hA _ (br_t rfl (go_isy8 nn ac pc tm md lo al A La P Lp E D W T U C I.1 (by omega) hx hy hi hPi _ (br_f (by decide) hp))))⟩
  by_cases hf : Lp x = pc
  · have h0 : 0 < Lp x := by omega
    have I2 := go_rm8 hpc.2 I h0
    have l2 : go_up Lp x (Lp x - 1) x = Lp x - 1 := go_us
    have n2 : ∀ i, i < go_up Lp x (Lp x - 1) x → go_sh P (x * 8 + 0) (x * 8 + (Lp x - 1)) (x * 8 + i) ≠ y := by
      intro i hi
      rw [l2] at hi
      rw [go_rm8_at h0 hi, if_neg (by omega)]
      exact hP (i + 1) (by omega)
    have I3 := go_ap8 hpc.2 I2 (by rw [l2]; omega) hy n2
    have c1 : go_N Lp (nI x).toNatClampNeg = nI pc := by rw [go_rN Lp x rfl (by omega), hf]
    have c2 : nI x * 8 = nI (x * 8) := pk_mul x 8
    have c3 : go_N P (nI x * 8).toNatClampNeg = nI (P (x * 8 + 0)) := go_rN P (x * 8) c2 (by omega)
    have hz : P (x * 8 + 0) < 16 := I.1 _
    refine ⟨_, _, I3, fun post hp => br_f e' (go_is4 nn ac pc tm md lo al A La P Lp E D W T U C IA.1 (by omega) hx hy hA _ (br_t rfl (go_is8 nn ac pc tm md lo al A La P Lp E D W T U C I.1 (by omega) hx hy hP _ (br_t rfl ⟨vp_in_nI hx (by omega), br_t c1 ⟨pk_in (x * 8) 128 (by omega) c2, nm_r c3 ?_⟩⟩))))⟩
    exact go_rX18 nn ac pc tm md lo al A La P Lp E D W T U C hpc.2 I hx hz h0 rfl _ (go_pyX nn ac pc tm md lo al A La (go_sh P (x * 8 + 0) (x * 8 + (Lp x - 1))) (go_up Lp x (Lp x - 1)) E D W T U C hx hy (by rw [l2]; omega) post hp)
  · have I3 := go_ap8 hpc.2 I (by omega) hy hP
    have c1 : ¬ go_N Lp (nI x).toNatClampNeg = nI pc := by rw [go_rN Lp x rfl (by omega), nI_eq (by omega) (by omega)]; exact hf
    exact ⟨_, _, I3, fun post hp => br_f e' (go_is4 nn ac pc tm md lo al A La P Lp E D W T U C IA.1 (by omega) hx hy hA _ (br_t rfl (go_is8 nn ac pc tm md lo al A La P Lp E D W T U C I.1 (by omega) hx hy hP _ (br_t rfl ⟨vp_in_nI hx (by omega), br_f c1 (go_pyX nn ac pc tm md lo al A La P Lp E D W T U C hx hy (by omega) post hp)⟩))))⟩
theorem go_ih {x y : Nat} (I : go_IS U C) (hl : lo + 1 < 2 ^ 31) (hx : x < 16) (hy : y < 16) : ∃ (U' : Nat → Bool) (C' : Nat → Nat) (lo' : Nat), go_IS U' C' ∧ lo' ≤ lo + 1 ∧ go_pe U C lo U' C' lo' (go_ms D) ∧ (lo' = lo → al y = true → ∀ b, b < 16 → D (x * 16 + b) = true → go_hs U' C' 10 x y b) ∧ (∀ post : St2 → Prop, post (nI nn, nI ac, nI pc, nI tm, nI md, nI lo', go_B al, go_N A, go_N La, go_N P, go_N Lp, go_M E, go_M D, go_M W, go_N T, go_S U' C') → wX_addActive_127 post (nI x) (nI y) (nI nn) (nI ac) (nI pc) (nI tm) (nI md) (nI lo) (go_B al) (go_N A) (go_N La) (go_N P) (go_N Lp) (go_M E) (go_M D) (go_M W) (go_N T) (go_S U C)) := by
  have r := go_rM (e := nI x) D x rfl (by omega)
  by_cases h : go_M D x = 0
  · refine ⟨U, C, lo, I, by omega, go_pe0 U C lo _, fun _ _ b hb d => ?_, fun post hp => ⟨vp_in_nI hx (by omega), br_t (r.trans h) hp⟩⟩
    rw [(go_M0 D x).mp h b hb] at d
    exact absurd d (by decide)
  · obtain ⟨m, hm, em⟩ := go_Mn D x
    obtain ⟨U', C', lo', I', hl', hpe, hgt, hX⟩ := go_send nn ac pc tm md lo al A La P Lp E D W T U C (k := 10) I hl hx hy (by omega) (by omega) hm
    refine ⟨U', C', lo', I', hl', go_pew hpe (fun c hc => by rw [hc]; exact go_msn (by omega) (by omega) hx hy hm (by omega)), fun e ay b hb d => go_gth (by omega) (by omega) hx hy hm hb ?_ (hgt e ay), fun post hp => ⟨vp_in_nI hx (by omega), br_f (by rw [r]; exact h) ⟨vp_in_nI hx (by omega), ?_⟩⟩⟩
    · rw [← em, go_Mb D x b (by omega), decide_eq_true hb, Bool.true_and]; exact d
    · rw [r, em]
      exact hX _ hp
theorem go_ta {x y : Nat} (lk : Bool) (I : go_IS U C) (hl : lo + 2 < 2 ^ 31) (hx : x < 16) (hy : y < 16) (hn : La x < 4) : ∃ (U' : Nat → Bool) (C' : Nat → Nat) (lo' : Nat), go_IS U' C' ∧ lo' ≤ lo + 2 ∧ go_pe U C lo U' C' lo' (go_ms D) ∧ (lo' = lo → al y = true → ∀ b, b < 16 → D (x * 16 + b) = true → go_hs U' C' 10 x y b) ∧ (∀ post : St2 → Prop, post (nI nn, nI ac, nI pc, nI tm, nI md, nI lo', go_B al, go_N (go_up A (x * 4 + La x) y), go_N (go_up La x (La x + 1)), go_N P, go_N Lp, go_M (go_up E (x * 16 + y) true), go_M D, go_M W, go_N T, go_S U' C') → wX_addActive_77 post (nI x) (nI y) (go_c lk) (nI nn) (nI ac) (nI pc) (nI tm) (nI md) (nI lo) (go_B al) (go_N A) (go_N La) (go_N P) (go_N Lp) (go_M E) (go_M D) (go_M W) (go_N T) (go_S U C)) := by
  have e1 : nI x * 4 + go_N La (nI x).toNatClampNeg = nI (x * 4 + La x) := by rw [go_rN La x rfl (by omega)]; exact go_ix4 x (La x)
  have e2 : go_N La (nI x).toNatClampNeg + 1 = nI (La x + 1) := by rw [go_rN La x rfl (by omega)]; exact nI_1 _
  cases lk with
  | false =>
    obtain ⟨U', C', lo', I', hl', hpe, hh, hX⟩ := go_ih nn ac pc tm md lo al (go_up A (x * 4 + La x) y) (go_up La x (La x + 1)) P Lp (go_up E (x * 16 + y) true) D W T U C I (by omega) hx hy
    exact ⟨U', C', lo', I', by omega, hpe, hh, fun post hp => ⟨vp_in_nI hx (by omega), pk_in (x * 4 + La x) 64 (by omega) e1, nm_r (go_uN A (x * 4 + La x) y rfl e1) ⟨vp_in_nI hx (by omega), vp_in_nI hx (by omega), nm_r (go_uN La x (La x + 1) e2) ⟨vp_in_nI hx (by omega), vp_in_nI hx (by omega), nm_r (go_uMs E x y hy) (br_t rfl (hX post hp))⟩⟩⟩⟩
  | true =>
    obtain ⟨U1, C1, lo1, I1, hl1, hpe1, _, hX1⟩ := go_send nn ac pc tm md lo al (go_up A (x * 4 + La x) y) (go_up La x (La x + 1)) P Lp (go_up E (x * 16 + y) true) D W T U C (k := 3) (a := 0) I (by omega) hx hy (by omega) (by omega) (by omega)
    obtain ⟨U', C', lo', I', hl', hpe, hh, hX⟩ := go_ih nn ac pc tm md lo1 al (go_up A (x * 4 + La x) y) (go_up La x (La x + 1)) P Lp (go_up E (x * 16 + y) true) D W T U1 C1 I1 (by omega) hx hy
    have q1 := hpe1.2.2
    have q2 := hpe.2.2
    exact ⟨U', C', lo', I', by omega, go_pet (go_pew hpe1 (fun c hc => by rw [hc]; exact go_msn (by omega) (by omega) hx hy (by omega) (by omega))) hpe, fun e => hh (by omega), fun post hp => ⟨vp_in_nI hx (by omega), pk_in (x * 4 + La x) 64 (by omega) e1, nm_r (go_uN A (x * 4 + La x) y rfl e1) ⟨vp_in_nI hx (by omega), vp_in_nI hx (by omega), nm_r (go_uN La x (La x + 1) e2) ⟨vp_in_nI hx (by omega), vp_in_nI hx (by omega), nm_r (go_uMs E x y hy) (br_f (by decide) (hX1 _ (hX post hp)))⟩⟩⟩⟩
theorem go_remP {x y : Nat} (hpc : 1 ≤ pc ∧ pc ≤ 8) (I : go_IV8 pc P Lp) (hx : x < 16) (hy : y < 16) : ∃ (P' Lp' : Nat → Nat), go_IV8 pc P' Lp' ∧ (∀ post : St2 → Prop, post (nI nn, nI ac, nI pc, nI tm, nI md, nI lo, go_B al, go_N A, go_N La, go_N P', go_N Lp', go_M E, go_M D, go_M W, go_N T, go_S U C) → wpX_removePassive post (nI nn, nI ac, nI pc, nI tm, nI md, nI lo, go_B al, go_N A, go_N La, go_N P, go_N Lp, go_M E, go_M D, go_M W, go_N T, go_S U C) (nI x) (nI y)) := by
  rcases go_first (fun i => P (x * 8 + i) = y) (Lp x) with hP | ⟨i, hi, hPi, hPb⟩
  · exact ⟨P, Lp, I, fun post hp => go_rX08 nn ac pc tm md lo al A La P Lp E D W T U C hpc.2 I hx hy hP post hp⟩
  · exact ⟨_, _, go_rm8 hpc.2 I hi, fun post hp => go_rX18 nn ac pc tm md lo al A La P Lp E D W T U C hpc.2 I hx hy hi hPi post hp⟩
theorem go_addA {x y : Nat} (lk : Bool) (hac : 2 ≤ ac ∧ ac ≤ 4) (IA : go_IV4 ac A La) (JE : go_IE A La E) (hpc : 1 ≤ pc ∧ pc ≤ 8) (I : go_IV8 pc P Lp) (S : go_IS U C) (hl : lo + 3 < 2 ^ 31) (hx : x < 16) (hy : y < 16) : ∃ (A' La' : Nat → Nat) (E' : Nat → Bool) (P' Lp' : Nat → Nat) (U' : Nat → Bool) (C' : Nat → Nat) (lo' : Nat), go_IV4 ac A' La' ∧ go_IE A' La' E' ∧ go_IV8 pc P' Lp' ∧ go_IS U' C' ∧ lo' ≤ lo + 3 ∧ go_pe U C lo U' C' lo' (go_ms D) ∧ go_lr al D A La A' La' U' C' lo lo' ∧ (∀ post : St2 → Prop, post (nI nn, nI ac, nI pc, nI tm, nI md, nI lo', go_B al, go_N A', go_N La', go_N P', go_N Lp', go_M E', go_M D, go_M W, go_N T, go_S U' C') → wpX_addActive post (nI nn, nI ac, nI pc, nI tm, nI md, nI lo, go_B al, go_N A, go_N La, go_N P, go_N Lp, go_M E, go_M D, go_M W, go_N T, go_S U C) (nI x) (nI y) (go_c lk)) := by
  have hla := IA.2.1 x
  by_cases e : y = x
  · exact ⟨A, La, E, P, Lp, U, C, lo, IA, JE, I, S, by omega, go_pe0 U C lo _, go_lr0 _ _ _ _ _ _ _ _, fun post hp => br_t (by rw [e]) hp⟩
  have e' : ¬ nI y = nI x := by rw [nI_eq (by omega) (by omega)]; exact e
  cases hal : al y with
  | false => exact ⟨A, La, E, P, Lp, U, C, lo, IA, JE, I, S, by omega, go_pe0 U C lo _, go_lr0 _ _ _ _ _ _ _ _, fun post hp => br_f e' ⟨vp_in_nI hy (by omega), br_t (go_bz al y hal) hp⟩⟩
  | true =>
    rcases go_first (fun i => A (x * 4 + i) = y) (La x) with hA | ⟨i, hi, hAi, hAb⟩
    rotate_left
    · exact ⟨A, La, E, P, Lp, U, C, lo, IA, JE, I, S, by omega, go_pe0 U C lo _, go_lr0 _ _ _ _ _ _ _ _, fun post hp => br_f e' ⟨vp_in_nI hy (by omega), br_f (go_bn al y hal) (go_isy4 nn ac pc tm md lo al A La P Lp E D W T U C IA.1 (by omega) hx hy hi hAi _ (br_f (by decide) hp))⟩⟩
    obtain ⟨P1, Lp1, I1, hX1⟩ := go_remP nn ac pc tm md lo al A La P Lp E D W T U C hpc I hx hy
    by_cases hf : La x = ac
    · have h0 : 0 < La x := by omega
      have hz : A (x * 4 + 0) < 16 := IA.1 _
      have I2 := go_rm4 hac.2 IA h0
      have J2 := go_rmE hac.2 IA JE h0 rfl
      have l2 : go_up La x (La x - 1) x = La x - 1 := go_us
      have n2 : ∀ i, i < go_up La x (La x - 1) x → go_sh A (x * 4 + 0) (x * 4 + (La x - 1)) (x * 4 + i) ≠ y := by
        intro i hi
        rw [l2] at hi
        rw [go_rm4_at h0 hi, if_neg (by omega)]
        exact hA (i + 1) (by omega)
      obtain ⟨P3, Lp3, I3, hX3⟩ := go_addP nn ac pc tm md lo al (go_sh A (x * 4 + 0) (x * 4 + (La x - 1))) (go_up La x (La x - 1)) P1 Lp1 (go_up E (x * 16 + A (x * 4 + 0)) false) D W T U C hac.2 I2 hpc I1 hx hz
      obtain ⟨U4, C4, lo4, S4, hl4, hpe4, _, hX4⟩ := go_send nn ac pc tm md lo al (go_sh A (x * 4 + 0) (x * 4 + (La x - 1))) (go_up La x (La x - 1)) P3 Lp3 (go_up E (x * 16 + A (x * 4 + 0)) false) D W T U C (k := 4) (a := 0) S (by omega) hx hz (by omega) (by omega) (by omega)
      obtain ⟨U5, C5, lo5, S5, hl5, hpe5, hh5, hX5⟩ := go_ta nn ac pc tm md lo4 al (go_sh A (x * 4 + 0) (x * 4 + (La x - 1))) (go_up La x (La x - 1)) P3 Lp3 (go_up E (x * 16 + A (x * 4 + 0)) false) D W T U4 C4 lk S4 (by omega) hx hy (by rw [l2]; omega)
      have I6 := go_ap4 hac.2 I2 (by rw [l2]; omega) hy n2
      have J6 := go_apE (x := x) hac.2 I2 J2 (by rw [l2]; omega) hy
      have c1 : go_N La (nI x).toNatClampNeg = nI ac := by rw [go_rN La x rfl (by omega), hf]
      have c2 : nI x * 4 = nI (x * 4) := pk_mul x 4
      have c3 : go_N A (nI x * 4).toNatClampNeg = nI (A (x * 4 + 0)) := go_rN A (x * 4) c2 (by omega)
      have q4 := hpe4.2.2
      have q5 := hpe5.2.2
      refine ⟨_, _, _, P3, Lp3, U5, C5, lo5, I6, J6, I3, S5, by omega, go_pet (go_pew hpe4 (fun c hc => by rw [hc]; exact go_msn (by omega) (by omega) hx hz (by omega) (by omega))) hpe5, fun z w g => ?_, fun post hp => br_f e' ⟨vp_in_nI hy (by omega), br_f (go_bn al y hal) (go_is4 nn ac pc tm md lo al A La P Lp E D W T U C IA.1 (by omega) hx hy hA _ (br_t rfl (hX1 _ ⟨vp_in_nI hx (by omega), br_t c1 ⟨pk_in (x * 4) 64 (by omega) c2, nm_r c3 (go_rX14 nn ac pc tm md lo al A La P1 Lp1 E D W T U C hac.2 IA hx hz h0 rfl _ (hX3 _ (hX4 _ (hX5 post hp))))⟩⟩)))⟩⟩
      rcases go_lka hac.2 I2 (by rw [l2]; omega) z w g with q | ⟨q1, q2⟩
      · exact Or.inl (go_lkr hac.2 IA h0 z w q)
      · rw [q1, q2]
        exact Or.inr (fun e => hh5 (by omega))
    · obtain ⟨U5, C5, lo5, S5, hl5, hpe5, hh5, hX5⟩ := go_ta nn ac pc tm md lo al A La P1 Lp1 E D W T U C lk S (by omega) hx hy (by omega)
      have I6 := go_ap4 hac.2 IA (by omega) hy hA
      have J6 := go_apE (x := x) hac.2 IA JE (by omega) hy
      have c1 : ¬ go_N La (nI x).toNatClampNeg = nI ac := by rw [go_rN La x rfl (by omega), nI_eq (by omega) (by omega)]; exact hf
      refine ⟨_, _, _, P1, Lp1, U5, C5, lo5, I6, J6, I1, S5, by omega, hpe5, fun z w g => ?_, fun post hp => br_f e' ⟨vp_in_nI hy (by omega), br_f (go_bn al y hal) (go_is4 nn ac pc tm md lo al A La P Lp E D W T U C IA.1 (by omega) hx hy hA _ (br_t rfl (hX1 _ ⟨vp_in_nI hx (by omega), br_f c1 (hX5 post hp)⟩)))⟩⟩
      rcases go_lka (x := x) hac.2 IA (by omega) z w g with q | ⟨q1, q2⟩
      · exact Or.inl q
      · rw [q1, q2]
        exact Or.inr hh5
end
