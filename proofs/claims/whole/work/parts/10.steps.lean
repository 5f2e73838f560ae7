section
variable (nn ac pc tm md lo : Nat) (al : Nat → Bool) (A La P Lp : Nat → Nat) (E D W : Nat → Bool) (T : Nat → Nat) (U : Nat → Bool) (C : Nat → Nat)
theorem go_remP {x y : Nat} (hpc : 1 ≤ pc ∧ pc ≤ 8) (I : go_IV8 pc P Lp) (hx : x < 16) (hy : y < 16) : ∃ (P' Lp' : Nat → Nat), go_IV8 pc P' Lp' ∧ (∀ post : SX → Prop, post (nI nn, nI ac, nI pc, nI tm, nI md, nI lo, go_B al, go_N A, go_N La, go_N P', go_N Lp', go_M E, go_M D, go_M W, go_N T, go_S U C) → wpX_removePassive post (nI nn, nI ac, nI pc, nI tm, nI md, nI lo, go_B al, go_N A, go_N La, go_N P, go_N Lp, go_M E, go_M D, go_M W, go_N T, go_S U C) (nI x) (nI y)) ∧ (∀ post : SY → Prop, post (nI nn, nI ac, nI pc, nI tm, nI lo, nI md, go_B al, go_N A, go_N La, go_N P', go_N Lp', go_B E, go_B D, go_B W, go_N T, go_B U, go_N C) → wpY_removeP post (nI nn, nI ac, nI pc, nI tm, nI lo, nI md, go_B al, go_N A, go_N La, go_N P, go_N Lp, go_B E, go_B D, go_B W, go_N T, go_B U, go_N C) (nI x) (nI y)) := by
  rcases go_first (fun i => P (x * 8 + i) = y) (Lp x) with hP | ⟨i, hi, hPi, hPb⟩
  · exact ⟨P, Lp, I, fun post hp => go_rX08 nn ac pc tm md lo al A La P Lp E D W T U C hpc.2 I hx hy hP post hp, fun post hp => go_rY08 nn ac pc tm md lo al A La P Lp E D W T U C hpc.2 I hx hy hP post hp⟩
  · exact ⟨_, _, go_rm8 hpc.2 I hi, fun post hp => go_rX18 nn ac pc tm md lo al A La P Lp E D W T U C hpc.2 I hx hy hi hPi post hp, fun post hp => go_rY18 nn ac pc tm md lo al A La P Lp E D W T U C hpc.2 I hx hy hi hPi hPb post hp⟩
theorem go_addA {x y : Nat} (lk : Bool) (hac : 2 ≤ ac ∧ ac ≤ 4) (IA : go_IV4 ac A La) (JE : go_IE A La E) (hpc : 1 ≤ pc ∧ pc ≤ 8) (I : go_IV8 pc P Lp) (S : go_IS U C) (hl : lo + 3 < 2 ^ 31) (hx : x < 16) (hy : y < 16) : ∃ (A' La' : Nat → Nat) (E' : Nat → Bool) (P' Lp' : Nat → Nat) (U' : Nat → Bool) (C' : Nat → Nat) (lo' : Nat), go_IV4 ac A' La' ∧ go_IE A' La' E' ∧ go_IV8 pc P' Lp' ∧ go_IS U' C' ∧ lo' ≤ lo + 3 ∧ (∀ post : SX → Prop, post (nI nn, nI ac, nI pc, nI tm, nI md, nI lo', go_B al, go_N A', go_N La', go_N P', go_N Lp', go_M E', go_M D, go_M W, go_N T, go_S U' C') → wpX_addActive post (nI nn, nI ac, nI pc, nI tm, nI md, nI lo, go_B al, go_N A, go_N La, go_N P, go_N Lp, go_M E, go_M D, go_M W, go_N T, go_S U C) (nI x) (nI y) (go_c lk)) ∧ (∀ post : SY → Prop, post (nI nn, nI ac, nI pc, nI tm, nI lo', nI md, go_B al, go_N A', go_N La', go_N P', go_N Lp', go_B E', go_B D, go_B W, go_N T, go_B U', go_N C') → wpY_addA post (nI nn, nI ac, nI pc, nI tm, nI lo, nI md, go_B al, go_N A, go_N La, go_N P, go_N Lp, go_B E, go_B D, go_B W, go_N T, go_B U, go_N C) (nI x) (nI y) (go_c lk)) := by
  have hla := IA.2.1 x
  by_cases e : y = x
  · exact ⟨A, La, E, P, Lp, U, C, lo, IA, JE, I, S, by omega, fun post hp => br_t (by rw [e]) hp, fun post hp => br_t (by rw [e]) hp⟩
  have e' : ¬ nI y = nI x := by rw [nI_eq (by omega) (by omega)]; exact e
  cases hal : al y with
  | false => exact ⟨A, La, E, P, Lp, U, C, lo, IA, JE, I, S, by omega, fun post hp => br_f e' ⟨vp_in_nI hy (by omega), br_t (go_bz al y hal) hp⟩, fun post hp => br_f e' ⟨vp_in_nI hy (by omega), br_t (go_bz al y hal) hp⟩⟩
  | true =>
    rcases go_first (fun i => A (x * 4 + i) = y) (La x) with hA | ⟨i, hi, hAi, hAb⟩
    rotate_left
    · exact ⟨A, La, E, P, Lp, U, C, lo, IA, JE, I, S, by omega, fun post hp => br_f e' ⟨vp_in_nI hy (by omega), br_f (go_bn al y hal) (go_isy4 nn ac pc tm md lo al A La P Lp E D W T U C IA.1 (by omega) hx hy hi hAi _ (br_f (by decide) hp))⟩, fun post hp => br_f e' ⟨vp_in_nI hy (by omega), br_f (go_bn al y hal) (go_psy4 nn ac pc tm md lo al A La P Lp E D W T U C IA.1 (by omega) hx hy hi hAi hAb _ (br_f (nI_pos (by omega)) hp))⟩⟩
    obtain ⟨P1, Lp1, I1, hX1, hY1⟩ := go_remP nn ac pc tm md lo al A La P Lp E D W T U C hpc I hx hy
    by_cases hf : La x = ac
    · have h0 : 0 < La x := by omega
      have hz : A (x * 4 + 0) < 16 := IA.1 _
      have I2 := go_rm4 hac.2 IA h0
      have J2 := go_rmE hac.2 IA JE h0 rfl
      have l2 : go_up La x (La x - 1) x = La x - 1 := go_us
      have n2 : ∀ i, i < go_up La x (La x - 1) x → go_sh A (x * 4 + 0) (x * 4 + (La x - 1)) (x * 4 + i) ≠ y := by
        intro i hi
        rw [l2] at hi
        rw [go_rm4_at h0 hi, if_neg (by omega)]
        exact hA (i + 1) (by omega)
      obtain ⟨P3, Lp3, I3, hX3, hY3⟩ := go_addP nn ac pc tm md lo al (go_sh A (x * 4 + 0) (x * 4 + (La x - 1))) (go_up La x (La x - 1)) P1 Lp1 (go_up E (x * 16 + A (x * 4 + 0)) false) D W T U C hac.2 I2 hpc I1 hx hz
      obtain ⟨U4, C4, lo4, S4, hl4, hX4, hY4⟩ := go_send nn ac pc tm md lo al (go_sh A (x * 4 + 0) (x * 4 + (La x - 1))) (go_up La x (La x - 1)) P3 Lp3 (go_up E (x * 16 + A (x * 4 + 0)) false) D W T U C (k := 4) (a := 0) S (by omega) hx hz (by omega) (by omega) (by omega)
      obtain ⟨U5, C5, lo5, S5, hl5, hX5, hY5⟩ := go_ta nn ac pc tm md lo4 al (go_sh A (x * 4 + 0) (x * 4 + (La x - 1))) (go_up La x (La x - 1)) P3 Lp3 (go_up E (x * 16 + A (x * 4 + 0)) false) D W T U4 C4 lk S4 (by omega) hx hy (by rw [l2]; omega)
      have I6 := go_ap4 hac.2 I2 (by rw [l2]; omega) hy n2
      have J6 := go_apE (x := x) hac.2 I2 J2 (by rw [l2]; omega) hy
      have c1 : go_N La (nI x).toNatClampNeg = nI ac := by rw [go_rN La x rfl (by omega), hf]
      have c2 : nI x * 4 = nI (x * 4) := pk_mul x 4
      have c3 : go_N A (nI x * 4).toNatClampNeg = nI (A (x * 4 + 0)) := go_rN A (x * 4) c2 (by omega)
      exact ⟨_, _, _, P3, Lp3, U5, C5, lo5, I6, J6, I3, S5, by omega, fun post hp => br_f e' ⟨vp_in_nI hy (by omega), br_f (go_bn al y hal) (go_is4 nn ac pc tm md lo al A La P Lp E D W T U C IA.1 (by omega) hx hy hA _ (br_t rfl (hX1 _ ⟨vp_in_nI hx (by omega), br_t c1 ⟨pk_in (x * 4) 64 (by omega) c2, nm_r c3 (go_rX14 nn ac pc tm md lo al A La P1 Lp1 E D W T U C hac.2 IA hx hz h0 rfl _ (hX3 _ (hX4 _ (hX5 post hp))))⟩⟩)))⟩, fun post hp => br_f e' ⟨vp_in_nI hy (by omega), br_f (go_bn al y hal) (go_ps4 nn ac pc tm md lo al A La P Lp E D W T U C IA.1 (by omega) hx hy hA _ (br_t (by decide) (hY1 _ ⟨vp_in_nI hx (by omega), br_t c1 ⟨pk_in (x * 4) 64 (by omega) c2, nm_r c3 (go_rY14 nn ac pc tm md lo al A La P1 Lp1 E D W T U C hac.2 IA hx hz h0 rfl (fun j hj => absurd hj (by omega)) _ (hY3 _ (hY4 _ (hY5 post hp))))⟩⟩)))⟩⟩
    · obtain ⟨U5, C5, lo5, S5, hl5, hX5, hY5⟩ := go_ta nn ac pc tm md lo al A La P1 Lp1 E D W T U C lk S (by omega) hx hy (by omega)
      have I6 := go_ap4 hac.2 IA (by omega) hy hA
      have J6 := go_apE (x := x) hac.2 IA JE (by omega) hy
      have c1 : ¬ go_N La (nI x).toNatClampNeg = nI ac := by rw [go_rN La x rfl (by omega), nI_eq (by omega) (by omega)]; exact hf
      exact ⟨_, _, _, P1, Lp1, U5, C5, lo5, I6, J6, I1, S5, by omega, fun post hp => br_f e' ⟨vp_in_nI hy (by omega), br_f (go_bn al y hal) (go_is4 nn ac pc tm md lo al A La P Lp E D W T U C IA.1 (by omega) hx hy hA _ (br_t rfl (hX1 _ ⟨vp_in_nI hx (by omega), br_f c1 (hX5 post hp)⟩)))⟩, fun post hp => br_f e' ⟨vp_in_nI hy (by omega), br_f (go_bn al y hal) (go_ps4 nn ac pc tm md lo al A La P Lp E D W T U C IA.1 (by omega) hx hy hA _ (br_t (by decide) (hY1 _ ⟨vp_in_nI hx (by omega), br_f c1 (hY5 post hp)⟩)))⟩⟩
end
section
variable (nn ac pc tm md lo : Nat) (al : Nat → Bool) (A La : Nat → Nat) (E D W : Nat → Bool) (T : Nat → Nat) (U : Nat → Bool) (C : Nat → Nat)
theorem go_rep {x : Nat} (hpc : 1 ≤ pc ∧ pc ≤ 8) (hac : 2 ≤ ac ∧ ac ≤ 4) (hla : La x ≤ ac) (hne : La x ≠ ac) (S : go_IS U C) (hl : lo + 1 < 2 ^ 31) (hx : x < 16) : ∀ d i (P Lp : Nat → Nat), i + d = 8 → go_IV8 pc P Lp → Lp x ≤ d → ∃ (P' Lp' : Nat → Nat) (U' : Nat → Bool) (C' : Nat → Nat) (lo' : Nat), go_IV8 pc P' Lp' ∧ go_IS U' C' ∧ lo' ≤ lo + 1 ∧ (∀ post : SX → Prop, post (nI nn, nI ac, nI pc, nI tm, nI md, nI lo', go_B al, go_N A, go_N La, go_N P', go_N Lp', go_M E, go_M D, go_M W, go_N T, go_S U' C') → wX_repair_16 post (nI x) (d + 1) (nI i) (nI nn) (nI ac) (nI pc) (nI tm) (nI md) (nI lo) (go_B al) (go_N A) (go_N La) (go_N P) (go_N Lp) (go_M E) (go_M D) (go_M W) (go_N T) (go_S U C)) ∧ (∀ post : SY → Prop, post (nI nn, nI ac, nI pc, nI tm, nI lo', nI md, go_B al, go_N A, go_N La, go_N P', go_N Lp', go_B E, go_B D, go_B W, go_N T, go_B U', go_N C') → wY_repair_2 post (nI x) (d + 1) (nI i) (nI nn) (nI ac) (nI pc) (nI tm) (nI lo) (nI md) (go_B al) (go_N A) (go_N La) (go_N P) (go_N Lp) (go_B E) (go_B D) (go_B W) (go_N T) (go_B U) (go_N C)) := by
  have c1 : ¬ go_N La (nI x).toNatClampNeg = nI ac := by rw [go_rN La x rfl (by omega), nI_eq (by omega) (by omega)]; exact hne
  have c2 : nI x * 8 = nI (x * 8) := pk_mul x 8
  intro d
  induction d with
  | zero =>
    intro i P Lp hi I hL
    have e : i = 8 := by omega
    have z : go_N Lp (nI x).toNatClampNeg = 0 := by rw [go_rN Lp x rfl (by omega), show Lp x = 0 by omega]; exact nI_0
    exact ⟨P, Lp, U, C, lo, I, S, by omega, fun post hp => br_t (nI_le (a := 8) (by omega) (by omega)) hp, fun post hp => br_f (nI_ge (b := 16) (by omega) (by omega)) ⟨vp_in_nI hx (by omega), br_f c1 ⟨vp_in_nI hx (by omega), br_t z hp⟩⟩⟩
  | succ d ih =>
    intro i P Lp hi I hL
    have hlp := I.2.1 x
    by_cases h0 : Lp x = 0
    · have z : go_N Lp (nI x).toNatClampNeg = 0 := by rw [go_rN Lp x rfl (by omega), h0]; exact nI_0
      exact ⟨P, Lp, U, C, lo, I, S, by omega, fun post hp => br_f (nI_ge (b := 8) (by omega) (by omega)) ⟨vp_in_nI hx (by omega), br_t z hp⟩, fun post hp => br_f (nI_ge (b := 16) (by omega) (by omega)) ⟨vp_in_nI hx (by omega), br_f c1 ⟨vp_in_nI hx (by omega), br_t z hp⟩⟩⟩
    · have z : ¬ go_N Lp (nI x).toNatClampNeg = 0 := by rw [go_rN Lp x rfl (by omega)]; exact nI_ne0 (by omega) (by omega)
      have h1 : 0 < Lp x := by omega
      have hz : P (x * 8 + 0) < 16 := I.1 _
      have c3 : go_N P (nI x * 8).toNatClampNeg = nI (P (x * 8 + 0)) := go_rN P (x * 8) c2 (by omega)
      have I2 := go_rm8 hpc.2 I h1
      have l2 : go_up Lp x (Lp x - 1) x = Lp x - 1 := go_us
      cases hal : al (P (x * 8 + 0)) with
      | false =>
        obtain ⟨P', Lp', U', C', lo', I', S', hl', hX, hY⟩ := ih (i + 1) (go_sh P (x * 8 + 0) (x * 8 + (Lp x - 1))) (go_up Lp x (Lp x - 1)) (by omega) I2 (by rw [l2]; omega)
        exact ⟨P', Lp', U', C', lo', I', S', hl', fun post hp => br_f (nI_ge (b := 8) (by omega) (by omega)) ⟨vp_in_nI hx (by omega), br_f z ⟨pk_in (x * 8) 128 (by omega) c2, nm_r c3 (go_rX18 nn ac pc tm md lo al A La P Lp E D W T U C hpc.2 I hx hz h1 rfl _ ⟨vp_in_nI hz (by omega), br_t (go_bz al _ hal) (nm_r (nI_1 i) (hX post hp))⟩)⟩⟩, fun post hp => br_f (nI_ge (b := 16) (by omega) (by omega)) ⟨vp_in_nI hx (by omega), br_f c1 ⟨vp_in_nI hx (by omega), br_f z ⟨pk_in (x * 8) 128 (by omega) c2, nm_r c3 (go_rY18 nn ac pc tm md lo al A La P Lp E D W T U C hpc.2 I hx hz h1 rfl (fun j hj => absurd hj (by omega)) _ ⟨vp_in_nI hz (by omega), br_t (go_bz al _ hal) (nm_r (nI_1 i) (hY post hp))⟩)⟩⟩⟩⟩
      | true =>
        by_cases hq : La x = 0
        · have q : go_N La (nI x).toNatClampNeg = 0 := by rw [go_rN La x rfl (by omega), hq]; exact nI_0
          obtain ⟨U', C', lo', S', hl', hX, hY⟩ := go_send nn ac pc tm md lo al A La (go_sh P (x * 8 + 0) (x * 8 + (Lp x - 1))) (go_up Lp x (Lp x - 1)) E D W T U C (k := 5) (a := 1) S hl hx hz (by omega) (by omega) (by omega)
          exact ⟨_, _, U', C', lo', I2, S', hl', fun post hp => br_f (nI_ge (b := 8) (by omega) (by omega)) ⟨vp_in_nI hx (by omega), br_f z ⟨pk_in (x * 8) 128 (by omega) c2, nm_r c3 (go_rX18 nn ac pc tm md lo al A La P Lp E D W T U C hpc.2 I hx hz h1 rfl _ ⟨vp_in_nI hz (by omega), br_f (go_bn al _ hal) ⟨vp_in_nI hx (by omega), br_t q (by unfold wX_repair_75; exact hX _ hp)⟩⟩)⟩⟩, fun post hp => br_f (nI_ge (b := 16) (by omega) (by omega)) ⟨vp_in_nI hx (by omega), br_f c1 ⟨vp_in_nI hx (by omega), br_f z ⟨pk_in (x * 8) 128 (by omega) c2, nm_r c3 (go_rY18 nn ac pc tm md lo al A La P Lp E D W T U C hpc.2 I hx hz h1 rfl (fun j hj => absurd hj (by omega)) _ ⟨vp_in_nI hz (by omega), br_f (go_bn al _ hal) ⟨vp_in_nI hx (by omega), br_t q (by unfold wY_repair_70; exact hY _ hp)⟩⟩)⟩⟩⟩⟩
        · have q : ¬ go_N La (nI x).toNatClampNeg = 0 := by rw [go_rN La x rfl (by omega)]; exact nI_ne0 (by omega) (by omega)
          obtain ⟨U', C', lo', S', hl', hX, hY⟩ := go_send nn ac pc tm md lo al A La (go_sh P (x * 8 + 0) (x * 8 + (Lp x - 1))) (go_up Lp x (Lp x - 1)) E D W T U C (k := 5) (a := 0) S hl hx hz (by omega) (by omega) (by omega)
          exact ⟨_, _, U', C', lo', I2, S', hl', fun post hp => br_f (nI_ge (b := 8) (by omega) (by omega)) ⟨vp_in_nI hx (by omega), br_f z ⟨pk_in (x * 8) 128 (by omega) c2, nm_r c3 (go_rX18 nn ac pc tm md lo al A La P Lp E D W T U C hpc.2 I hx hz h1 rfl _ ⟨vp_in_nI hz (by omega), br_f (go_bn al _ hal) ⟨vp_in_nI hx (by omega), br_f q (by unfold wX_repair_75; exact hX _ hp)⟩⟩)⟩⟩, fun post hp => br_f (nI_ge (b := 16) (by omega) (by omega)) ⟨vp_in_nI hx (by omega), br_f c1 ⟨vp_in_nI hx (by omega), br_f z ⟨pk_in (x * 8) 128 (by omega) c2, nm_r c3 (go_rY18 nn ac pc tm md lo al A La P Lp E D W T U C hpc.2 I hx hz h1 rfl (fun j hj => absurd hj (by omega)) _ ⟨vp_in_nI hz (by omega), br_f (go_bn al _ hal) ⟨vp_in_nI hx (by omega), br_f q (by unfold wY_repair_70; exact hY _ hp)⟩⟩)⟩⟩⟩⟩
end
section
variable (nn ac pc tm md lo : Nat) (al : Nat → Bool) (A La P Lp : Nat → Nat) (E D W : Nat → Bool) (T : Nat → Nat) (U : Nat → Bool) (C : Nat → Nat)
theorem go_repair {x : Nat} (hac : 2 ≤ ac ∧ ac ≤ 4) (hla : La x ≤ ac) (hpc : 1 ≤ pc ∧ pc ≤ 8) (I : go_IV8 pc P Lp) (S : go_IS U C) (hl : lo + 1 < 2 ^ 31) (hx : x < 16) : ∃ (P' Lp' : Nat → Nat) (U' : Nat → Bool) (C' : Nat → Nat) (lo' : Nat), go_IV8 pc P' Lp' ∧ go_IS U' C' ∧ lo' ≤ lo + 1 ∧ (∀ post : SX → Prop, post (nI nn, nI ac, nI pc, nI tm, nI md, nI lo', go_B al, go_N A, go_N La, go_N P', go_N Lp', go_M E, go_M D, go_M W, go_N T, go_S U' C') → wpX_repair post (nI nn, nI ac, nI pc, nI tm, nI md, nI lo, go_B al, go_N A, go_N La, go_N P, go_N Lp, go_M E, go_M D, go_M W, go_N T, go_S U C) (nI x)) ∧ (∀ post : SY → Prop, post (nI nn, nI ac, nI pc, nI tm, nI lo', nI md, go_B al, go_N A, go_N La, go_N P', go_N Lp', go_B E, go_B D, go_B W, go_N T, go_B U', go_N C') → wpY_repair post (nI nn, nI ac, nI pc, nI tm, nI lo, nI md, go_B al, go_N A, go_N La, go_N P, go_N Lp, go_B E, go_B D, go_B W, go_N T, go_B U, go_N C) (nI x)) := by
  have hlp := I.2.1 x
  by_cases hf : La x = ac
  · have c1 : go_N La (nI x).toNatClampNeg = nI ac := by rw [go_rN La x rfl (by omega), hf]
    exact ⟨P, Lp, U, C, lo, I, S, by omega, fun post hp => ⟨vp_in_nI hx (by omega), br_t c1 hp⟩, fun post hp => ⟨1, br_f (nI_ge (a := 0) (b := 16) (by omega) (by omega)) ⟨vp_in_nI hx (by omega), br_t c1 hp⟩⟩⟩
  · have c1 : ¬ go_N La (nI x).toNatClampNeg = nI ac := by rw [go_rN La x rfl (by omega), nI_eq (by omega) (by omega)]; exact hf
    obtain ⟨P', Lp', U', C', lo', I', S', hl', hX, hY⟩ := go_rep nn ac pc tm md lo al A La E D W T U C hpc hac hla hf S hl hx 8 0 P Lp (by omega) I (by omega)
    exact ⟨P', Lp', U', C', lo', I', S', hl', fun post hp => ⟨vp_in_nI hx (by omega), br_f c1 ⟨_, hX post hp⟩⟩, fun post hp => ⟨_, hY post hp⟩⟩
theorem go_me1 {x y i : Nat} (hA : ∀ j, A j < 16) (hL : La x ≤ 4) (hx : x < 16) (hy : y < 16) (hi : i < La x) (he : A (x * 4 + i) = y) (post : SX → Prop) (hp : post (nI nn, nI ac, nI pc, nI tm, nI md, nI lo, go_B al, go_N A, go_N La, go_N P, go_N Lp, go_M (go_up E (x * 16 + y) true), go_M D, go_M W, go_N T, go_S U C)) : wpX_makeEager post (nI nn, nI ac, nI pc, nI tm, nI md, nI lo, go_B al, go_N A, go_N La, go_N P, go_N Lp, go_M E, go_M D, go_M W, go_N T, go_S U C) (nI x) (nI y) := by
  unfold wpX_makeEager
  exact go_isy4 nn ac pc tm md lo al A La P Lp E D W T U C hA hL hx hy hi he _ (br_f (by decide) ⟨vp_in_nI hx (by omega), vp_in_nI hx (by omega), nm_r (go_uMs E x y hy) hp⟩)
theorem go_me0 {x y : Nat} (hA : ∀ j, A j < 16) (hL : La x ≤ 4) (hx : x < 16) (hy : y < 16) (h : ∀ i, i < La x → A (x * 4 + i) ≠ y) (post : SX → Prop) (hp : post (nI nn, nI ac, nI pc, nI tm, nI md, nI lo, go_B al, go_N A, go_N La, go_N P, go_N Lp, go_M E, go_M D, go_M W, go_N T, go_S U C)) : wpX_makeEager post (nI nn, nI ac, nI pc, nI tm, nI md, nI lo, go_B al, go_N A, go_N La, go_N P, go_N Lp, go_M E, go_M D, go_M W, go_N T, go_S U C) (nI x) (nI y) := by
  unfold wpX_makeEager
  exact go_is4 nn ac pc tm md lo al A La P Lp E D W T U C hA hL hx hy h _ (br_t rfl hp)
theorem go_stl {x g : Nat} (hx : x < 16) (post : SX → Prop) (hp : post (nI nn, nI ac, nI pc, nI tm, nI md, nI lo, go_B al, go_N A, go_N La, go_N P, go_N Lp, go_M E, go_M D, go_M (go_oW W x (nI g) 16), go_N (go_ov T 0 x (nI g) 16), go_S U C)) : ∀ n b, b ≤ 16 → 16 - b < n → wX_stopWaitingFor_2 post (nI x) (nI g) (nI nn) (nI ac) (nI pc) (nI tm) (nI md) (nI lo) n (nI b) (go_B al) (go_N A) (go_N La) (go_N P) (go_N Lp) (go_M E) (go_M D) (go_M (go_oW W x (nI g) b)) (go_N (go_ov T 0 x (nI g) b)) (go_S U C) := by
  intro n
  induction n with
  | zero => intro i _ hn; exact absurd hn (by omega)
  | succ n ih =>
    intro b hb hn
    refine pk_le 16 b (fun h => ?_) (fun h => go_brb g b h (fun z => nm_r (nI_1 b) ?_) (fun z => ⟨pk_in (x * 16 + b) 256 (by omega) (go_ix16 x b), nm_r ((go_uMz _ (x * 16 + b) (go_ix16 x b)).trans (congrArg go_M (go_oWt W x z))) ⟨pk_in (x * 16 + b) 256 (by omega) (go_ix16 x b), nm_r ((go_uN _ (x * 16 + b) 0 rfl (go_ix16 x b)).trans (congrArg go_N (go_ovt T 0 x z))) (nm_r (nI_1 b) (ih (b + 1) (by omega) (by omega)))⟩⟩))
    · have e : b = 16 := by omega
      rw [e]; exact hp
    · have w := ih (b + 1) (by omega) (by omega)
      rw [← go_oWf W x z, ← go_ovf T 0 x z] at w
      exact w
theorem go_stop {x g : Nat} (hx : x < 16) (post : SX → Prop) (hp : post (nI nn, nI ac, nI pc, nI tm, nI md, nI lo, go_B al, go_N A, go_N La, go_N P, go_N Lp, go_M E, go_M D, go_M (go_oW W x (nI g) 16), go_N (go_ov T 0 x (nI g) 16), go_S U C)) : wpX_stopWaitingFor post (nI nn, nI ac, nI pc, nI tm, nI md, nI lo, go_B al, go_N A, go_N La, go_N P, go_N Lp, go_M E, go_M D, go_M W, go_N T, go_S U C) (nI x) (nI g) := by
  have w := go_stl nn ac pc tm md lo al A La P Lp E D W T U C hx post hp 17 0 (by omega) (by omega)
  rw [go_oW0, go_ov0] at w
  exact ⟨17, w⟩
end
section
variable (nn ac pc tm md : Nat) (al : Nat → Bool) (A La P Lp : Nat → Nat) (E D W : Nat → Bool) (T : Nat → Nat)
theorem go_fwl {x m : Nat} {sv : Int32} (hA : ∀ j, A j < 16) (hL : La x ≤ 4) (hx : x < 16) (hm : m < 65536) : ∀ d i (lo : Nat) (U : Nat → Bool) (C : Nat → Nat), i + d = La x → go_IS U C → lo + d < 2 ^ 31 → ∃ (U' : Nat → Bool) (C' : Nat → Nat) (lo' : Nat), go_IS U' C' ∧ lo' ≤ lo + d ∧ (∀ post : SX → Prop, post (nI nn, nI ac, nI pc, nI tm, nI md, nI lo', go_B al, go_N A, go_N La, go_N P, go_N Lp, go_M E, go_M D, go_M W, go_N T, go_S U' C') → wX_forward_11 post (nI x) sv (nI m) (nI (La x)) (d + 1) (nI i) (nI nn) (nI ac) (nI pc) (nI tm) (nI md) (nI lo) (go_B al) (go_N A) (go_N La) (go_N P) (go_N Lp) (go_M E) (go_M D) (go_M W) (go_N T) (go_S U C)) ∧ (∀ post : SY → Prop, post (nI nn, nI ac, nI pc, nI tm, nI lo', nI md, go_B al, go_N A, go_N La, go_N P, go_N Lp, go_B E, go_B D, go_B W, go_N T, go_B U', go_N C') → wY_forward_3 post (nI x) sv (nI m) (d + 1) (nI i) (nI nn) (nI ac) (nI pc) (nI tm) (nI lo) (nI md) (go_B al) (go_N A) (go_N La) (go_N P) (go_N Lp) (go_B E) (go_B D) (go_B W) (go_N T) (go_B U) (go_N C)) := by
  intro d
  have rl := go_rN (e := nI x) La x rfl (by omega)
  induction d with
  | zero =>
    intro i lo U C hi S hl
    exact ⟨U, C, lo, S, by omega, fun post hp => br_t (nI_le (by omega) (by omega)) hp, fun post hp => ⟨vp_in_nI hx (by omega), br_t (by rw [rl]; exact nI_le (by omega) (by omega)) hp⟩⟩
  | succ d ih =>
    intro i lo U C hi S hl
    have hz : A (x * 4 + i) < 16 := hA _
    have ra := go_rN (e := nI x * 4 + nI i) A (x * 4 + i) (go_ix4 x i) (by omega)
    by_cases hs : nI (A (x * 4 + i)) = sv
    · obtain ⟨U', C', lo', S', hl', hX, hY⟩ := ih (i + 1) lo U C (by omega) S (by omega)
      exact ⟨U', C', lo', S', by omega, fun post hp => br_f (nI_ge (by omega) (by omega)) ⟨pk_in (x * 4 + i) 64 (by omega) (go_ix4 x i), nm_r ra (br_t hs (nm_r (nI_1 i) (hX post hp)))⟩, fun post hp => ⟨vp_in_nI hx (by omega), br_f (by rw [rl]; exact nI_ge (by omega) (by omega)) ⟨pk_in (x * 4 + i) 64 (by omega) (go_ix4 x i), nm_r ra (br_t hs (nm_r (nI_1 i) (hY post hp)))⟩⟩⟩
    · have ie := go_ix16 x (A (x * 4 + i))
      cases hE : E (x * 16 + A (x * 4 + i)) with
      | false =>
        obtain ⟨U1, C1, lo1, S1, hl1, hX1, hY1⟩ := go_send nn ac pc tm md lo al A La P Lp E D W T U C (k := 10) S (by omega) hx hz (by omega) (by omega) hm
        obtain ⟨U', C', lo', S', hl', hX, hY⟩ := ih (i + 1) lo1 U1 C1 (by omega) S1 (by omega)
        exact ⟨U', C', lo', S', by omega, fun post hp => br_f (nI_ge (by omega) (by omega)) ⟨pk_in (x * 4 + i) 64 (by omega) (go_ix4 x i), nm_r ra (br_f hs ⟨vp_in_nI hx (by omega), br_t (go_mz E x _ hz hE) (br_t rfl (by unfold wX_forward_74; exact hX1 _ (nm_r (nI_1 i) (hX post hp))))⟩)⟩, fun post hp => ⟨vp_in_nI hx (by omega), br_f (by rw [rl]; exact nI_ge (by omega) (by omega)) ⟨pk_in (x * 4 + i) 64 (by omega) (go_ix4 x i), nm_r ra (br_f hs ⟨pk_in (x * 16 + A (x * 4 + i)) 256 (by omega) ie, br_t (go_bz E _ hE ie) (hY1 _ (nm_r (nI_1 i) (hY post hp)))⟩)⟩⟩⟩
      | true =>
        obtain ⟨U1, C1, lo1, S1, hl1, hX1, hY1⟩ := go_send nn ac pc tm md lo al A La P Lp E D W T U C (k := 9) S (by omega) hx hz (by omega) (by omega) hm
        obtain ⟨U', C', lo', S', hl', hX, hY⟩ := ih (i + 1) lo1 U1 C1 (by omega) S1 (by omega)
        exact ⟨U', C', lo', S', by omega, fun post hp => br_f (nI_ge (by omega) (by omega)) ⟨pk_in (x * 4 + i) 64 (by omega) (go_ix4 x i), nm_r ra (br_f hs ⟨vp_in_nI hx (by omega), br_f (go_mn E x _ hz hE) (br_f (by decide) (by unfold wX_forward_74; exact hX1 _ (nm_r (nI_1 i) (hX post hp))))⟩)⟩, fun post hp => ⟨vp_in_nI hx (by omega), br_f (by rw [rl]; exact nI_ge (by omega) (by omega)) ⟨pk_in (x * 4 + i) 64 (by omega) (go_ix4 x i), nm_r ra (br_f hs ⟨pk_in (x * 16 + A (x * 4 + i)) 256 (by omega) ie, br_f (go_bn E _ hE ie) (hY1 _ (nm_r (nI_1 i) (hY post hp)))⟩)⟩⟩⟩
end
section
variable (nn ac pc tm md lo : Nat) (al : Nat → Bool) (A La P Lp : Nat → Nat) (E D W : Nat → Bool) (T : Nat → Nat) (U : Nat → Bool) (C : Nat → Nat)
theorem go_fwd {x m : Nat} (sv : Int32) (hA : ∀ j, A j < 16) (hL : La x ≤ 4) (S : go_IS U C) (hl : lo + 4 < 2 ^ 31) (hx : x < 16) (hm : m < 65536) : ∃ (U' : Nat → Bool) (C' : Nat → Nat) (lo' : Nat), go_IS U' C' ∧ lo' ≤ lo + 4 ∧ (∀ post : SX → Prop, post (nI nn, nI ac, nI pc, nI tm, nI md, nI lo', go_B al, go_N A, go_N La, go_N P, go_N Lp, go_M E, go_M D, go_M W, go_N T, go_S U' C') → wpX_forward post (nI nn, nI ac, nI pc, nI tm, nI md, nI lo, go_B al, go_N A, go_N La, go_N P, go_N Lp, go_M E, go_M D, go_M W, go_N T, go_S U C) (nI x) sv (nI m)) ∧ (∀ post : SY → Prop, post (nI nn, nI ac, nI pc, nI tm, nI lo', nI md, go_B al, go_N A, go_N La, go_N P, go_N Lp, go_B E, go_B D, go_B W, go_N T, go_B U', go_N C') → wpY_forward post (nI nn, nI ac, nI pc, nI tm, nI lo, nI md, go_B al, go_N A, go_N La, go_N P, go_N Lp, go_B E, go_B D, go_B W, go_N T, go_B U, go_N C) (nI x) sv (nI m)) := by
  obtain ⟨U', C', lo', S', hl', hX, hY⟩ := go_fwl nn ac pc tm md al A La P Lp E D W T (sv := sv) hA hL hx hm (La x) 0 lo U C (by omega) S (by omega)
  exact ⟨U', C', lo', S', by omega, fun post hp => ⟨vp_in_nI hx (by omega), nm_r (go_rN La x rfl (by omega)) ⟨_, hX post hp⟩⟩, fun post hp => ⟨_, hY post hp⟩⟩
end
