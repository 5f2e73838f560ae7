section
variable (nn ac pc tm md lo : Nat) (al : Nat → Bool) (A La : Nat → Nat) (E D W : Nat → Bool) (T : Nat → Nat) (U : Nat → Bool) (C : Nat → Nat)
theorem go_rep {x : Nat} (hpc : 1 ≤ pc ∧ pc ≤ 8) (hac : 2 ≤ ac ∧ ac ≤ 4) (hla : La x ≤ ac) (S : go_IS U C) (hl : lo + 1 < 2 ^ 31) (hx : x < 16) : ∀ d i (P Lp : Nat → Nat), i + d = 8 → go_IV8 pc P Lp → Lp x ≤ d → ∃ (P' Lp' : Nat → Nat) (U' : Nat → Bool) (C' : Nat → Nat) (lo' : Nat), go_IV8 pc P' Lp' ∧ go_IS U' C' ∧ lo' ≤ lo + 1 ∧ go_pe U C lo U' C' lo' (go_ms D) ∧ (∀ post : St2 → Prop, post (nI nn, nI ac, nI pc, nI tm, nI md, nI lo', go_B al, go_N A, go_N La, go_N P', go_N Lp', go_M E, go_M D, go_M W, go_N T, go_S U' C') → wX_repair_16 post (nI x) (d + 1) (nI i) (nI nn) (nI ac) (nI pc) (nI tm) (nI md) (nI lo) (go_B al) (go_N A) (go_N La) (go_N P) (go_N Lp) (go_M E) (go_M D) (go_M W) (go_N T) (go_S U C)) := by
  have c2 : nI x * 8 = nI (x * 8) := pk_mul x 8
  intro d
  induction d with
  | zero =>
    intro i P Lp hi I hL
    exact ⟨P, Lp, U, C, lo, I, S, by omega, go_pe0 U C lo _, fun post hp => br_t (nI_le (a := 8) (by omega) (by omega)) hp⟩
  | succ d ih =>
    intro i P Lp hi I hL
    have hlp := I.2.1 x
    by_cases h0 : Lp x = 0
    · have z : go_N Lp (nI x).toNatClampNeg = 0 := by rw [go_rN Lp x rfl (by omega), h0]; exact nI_0
      exact ⟨P, Lp, U, C, lo, I, S, by omega, go_pe0 U C lo _, fun post hp => br_f (nI_ge (b := 8) (by omega) (by omega)) ⟨vp_in_nI hx (by omega), br_t z hp⟩⟩
    · have z : ¬ go_N Lp (nI x).toNatClampNeg = 0 := by rw [go_rN Lp x rfl (by omega)]; exact nI_ne0 (by omega) (by omega)
      have h1 : 0 < Lp x := by omega
      have hz : P (x * 8 + 0) < 16 := I.1 _
      have c3 : go_N P (nI x * 8).toNatClampNeg = nI (P (x * 8 + 0)) := go_rN P (x * 8) c2 (by omega)
      have I2 := go_rm8 hpc.2 I h1
      have l2 : go_up Lp x (Lp x - 1) x = Lp x - 1 := go_us
      cases hal : al (P (x * 8 + 0)) with
      | false =>
        obtain ⟨P', Lp', U', C', lo', I', S', hl', hpe, hX⟩ := ih (i + 1) (go_sh P (x * 8 + 0) (x * 8 + (Lp x - 1))) (go_up Lp x (Lp x - 1)) (by omega) I2 (by rw [l2]; omega)
        exact ⟨P', Lp', U', C', lo', I', S', hl', hpe, fun post hp => br_f (nI_ge (b := 8) (by omega) (by omega)) ⟨vp_in_nI hx (by omega), br_f z ⟨pk_in (x * 8) 128 (by omega) c2, nm_r c3 (go_rX18 nn ac pc tm md lo al A La P Lp E D W T U C hpc.2 I hx hz h1 rfl _ ⟨vp_in_nI hz (by omega), br_t (go_bz al _ hal) (nm_r (nI_1 i) (hX post hp))⟩)⟩⟩⟩
      | true =>
        by_cases hq : La x = 0
        · have q : go_N La (nI x).toNatClampNeg = 0 := by rw [go_rN La x rfl (by omega), hq]; exact nI_0
          obtain ⟨U', C', lo', S', hl', hpe, _, hX⟩ := go_send nn ac pc tm md lo al A La (go_sh P (x * 8 + 0) (x * 8 + (Lp x - 1))) (go_up Lp x (Lp x - 1)) E D W T U C (k := 5) (a := 1) S hl hx hz (by omega) (by omega) (by omega)
          exact ⟨_, _, U', C', lo', I2, S', hl', go_pew hpe (fun c hc => by rw [hc]; exact go_msn (by omega) (by omega) hx hz (by omega) (by omega)), fun post hp => br_f (nI_ge (b := 8) (by omega) (by omega)) ⟨vp_in_nI hx (by omega), br_f z ⟨pk_in (x * 8) 128 (by omega) c2, nm_r c3 (go_rX18 nn ac pc tm md lo al A La P Lp E D W T U C hpc.2 I hx hz h1 rfl _ ⟨vp_in_nI hz (by omega), br_f (go_bn al _ hal) ⟨vp_in_nI hx (by omega), br_t q (by unfold wX_repair_75; exact hX _ hp)⟩⟩)⟩⟩⟩
        · have q : ¬ go_N La (nI x).toNatClampNeg = 0 := by rw [go_rN La x rfl (by omega)]; exact nI_ne0 (by omega) (by omega)
          obtain ⟨U', C', lo', S', hl', hpe, _, hX⟩ := go_send nn ac pc tm md lo al A La (go_sh P (x * 8 + 0) (x * 8 + (Lp x - 1))) (go_up Lp x (Lp x - 1)) E D W T U C (k := 5) (a := 0) S hl hx hz (by omega) (by omega) (by omega)
          exact ⟨_, _, U', C', lo', I2, S', hl', go_pew hpe (fun c hc => by rw [hc]; exact go_msn (by omega) (by omega) hx hz (by omega) (by omega)), fun post hp => br_f (nI_ge (b := 8) (by omega) (by omega)) ⟨vp_in_nI hx (by omega), br_f z ⟨pk_in (x * 8) 128 (by omega) c2, nm_r c3 (go_rX18 nn ac pc tm md lo al A La P Lp E D W T U C hpc.2 I hx hz h1 rfl _ ⟨vp_in_nI hz (by omega), br_f (go_bn al _ hal) ⟨vp_in_nI hx (by omega), br_f q (by unfold wX_repair_75; exact hX _ hp)⟩⟩)⟩⟩⟩
end
section
variable (nn ac pc tm md lo : Nat) (al : Nat → Bool) (A La P Lp : Nat → Nat) (E D W : Nat → Bool) (T : Nat → Nat) (U : Nat → Bool) (C : Nat → Nat)
theorem go_repair {x : Nat} (hac : 2 ≤ ac ∧ ac ≤ 4) (hla : La x ≤ ac) (hpc : 1 ≤ pc ∧ pc ≤ 8) (I : go_IV8 pc P Lp) (S : go_IS U C) (hl : lo + 1 < 2 ^ 31) (hx : x < 16) : ∃ (P' Lp' : Nat → Nat) (U' : Nat → Bool) (C' : Nat → Nat) (lo' : Nat), go_IV8 pc P' Lp' ∧ go_IS U' C' ∧ lo' ≤ lo + 1 ∧ go_pe U C lo U' C' lo' (go_ms D) ∧ (∀ post : St2 → Prop, post (nI nn, nI ac, nI pc, nI tm, nI md, nI lo', go_B al, go_N A, go_N La, go_N P', go_N Lp', go_M E, go_M D, go_M W, go_N T, go_S U' C') → wpX_repair post (nI nn, nI ac, nI pc, nI tm, nI md, nI lo, go_B al, go_N A, go_N La, go_N P, go_N Lp, go_M E, go_M D, go_M W, go_N T, go_S U C) (nI x)) := by
  have hlp := I.2.1 x
  by_cases hf : La x = ac
  · have c1 : go_N La (nI x).toNatClampNeg = nI ac := by rw [go_rN La x rfl (by omega), hf]
    exact ⟨P, Lp, U, C, lo, I, S, by omega, go_pe0 U C lo _, fun post hp => ⟨vp_in_nI hx (by omega), br_t c1 hp⟩⟩
  · have c1 : ¬ go_N La (nI x).toNatClampNeg = nI ac := by rw [go_rN La x rfl (by omega), nI_eq (by omega) (by omega)]; exact hf
    obtain ⟨P', Lp', U', C', lo', I', S', hl', hpe, hX⟩ := go_rep nn ac pc tm md lo al A La E D W T U C hpc hac hla S hl hx 8 0 P Lp (by omega) I (by omega)
    exact ⟨P', Lp', U', C', lo', I', S', hl', hpe, fun post hp => ⟨vp_in_nI hx (by omega), br_f c1 ⟨_, hX post hp⟩⟩⟩
end
section
variable (nn ac pc tm md : Nat) (al : Nat → Bool) (A La P Lp : Nat → Nat) (E D W : Nat → Bool) (T : Nat → Nat)
theorem go_fwl {x m : Nat} {sv : Int32} (hA : ∀ j, A j < 16) (hL : La x ≤ 4) (hx : x < 16) (hm : m < 65536) (hmD : ∀ b, b < 16 → bt (nI m) b = true → D (x * 16 + b) = true) : ∀ d i (lo : Nat) (U : Nat → Bool) (C : Nat → Nat), i + d = La x → go_IS U C → lo + d < 2 ^ 31 → ∃ (U' : Nat → Bool) (C' : Nat → Nat) (lo' : Nat), go_IS U' C' ∧ lo' ≤ lo + d ∧ go_pe U C lo U' C' lo' (go_ms D) ∧ (lo' = lo → ∀ j, i ≤ j → j < La x → ¬ nI (A (x * 4 + j)) = sv → al (A (x * 4 + j)) = true → go_gt U' C' (go_cd 9 x (A (x * 4 + j)) m) ∨ go_gt U' C' (go_cd 10 x (A (x * 4 + j)) m)) ∧ (∀ post : St2 → Prop, post (nI nn, nI ac, nI pc, nI tm, nI md, nI lo', go_B al, go_N A, go_N La, go_N P, go_N Lp, go_M E, go_M D, go_M W, go_N T, go_S U' C') → wX_forward_11 post (nI x) sv (nI m) (nI (La x)) (d + 1) (nI i) (nI nn) (nI ac) (nI pc) (nI tm) (nI md) (nI lo) (go_B al) (go_N A) (go_N La) (go_N P) (go_N Lp) (go_M E) (go_M D) (go_M W) (go_N T) (go_S U C)) := by
  intro d
  have rl := go_rN (e := nI x) La x rfl (by omega)
  induction d with
  | zero =>
    intro i lo U C hi S hl
    exact ⟨U, C, lo, S, by omega, go_pe0 U C lo _, fun _ j h1 h2 => absurd h2 (by omega), fun post hp => br_t (nI_le (by omega) (by omega)) hp⟩
  | succ d ih =>
    intro i lo U C hi S hl
    have hz : A (x * 4 + i) < 16 := hA _
    have ra := go_rN (e := nI x * 4 + nI i) A (x * 4 + i) (go_ix4 x i) (by omega)
    by_cases hs : nI (A (x * 4 + i)) = sv
    · obtain ⟨U', C', lo', S', hl', hpe, hgt, hX⟩ := ih (i + 1) lo U C (by omega) S (by omega)
      refine ⟨U', C', lo', S', by omega, hpe, fun e j h1 h2 h3 h4 => ?_, fun post hp => br_f (nI_ge (by omega) (by omega)) ⟨pk_in (x * 4 + i) 64 (by omega) (go_ix4 x i), nm_r ra (br_t hs (nm_r (nI_1 i) (hX post hp)))⟩⟩
      by_cases q : j = i
      · rw [q] at h3; exact absurd hs h3
      · exact hgt e j (by omega) h2 h3 h4
    · cases hE : E (x * 16 + A (x * 4 + i)) with
      | false =>
        obtain ⟨U1, C1, lo1, S1, hl1, hpe1, hg1, hX1⟩ := go_send nn ac pc tm md lo al A La P Lp E D W T U C (k := 10) S (by omega) hx hz (by omega) (by omega) hm
        obtain ⟨U', C', lo', S', hl', hpe, hgt, hX⟩ := ih (i + 1) lo1 U1 C1 (by omega) S1 (by omega)
        have q1 := hpe1.2.2
        have q2 := hpe.2.2
        refine ⟨U', C', lo', S', by omega, go_pet (go_pew hpe1 (fun c hc => by rw [hc]; exact go_msn (by omega) (by omega) hx hz hm (by omega))) hpe, fun e j h1 h2 h3 h4 => ?_, fun post hp => br_f (nI_ge (by omega) (by omega)) ⟨pk_in (x * 4 + i) 64 (by omega) (go_ix4 x i), nm_r ra (br_f hs ⟨vp_in_nI hx (by omega), br_t (go_mz E x _ hz hE) (br_t rfl (by unfold wX_forward_74; exact hX1 _ (nm_r (nI_1 i) (hX post hp))))⟩)⟩⟩
        by_cases q : j = i
        · rw [q] at h4 ⊢; exact Or.inr (go_gtp hpe (hg1 (by omega) h4))
        · exact hgt (by omega) j (by omega) h2 h3 h4
      | true =>
        obtain ⟨U1, C1, lo1, S1, hl1, hpe1, hg1, hX1⟩ := go_send nn ac pc tm md lo al A La P Lp E D W T U C (k := 9) S (by omega) hx hz (by omega) (by omega) hm
        obtain ⟨U', C', lo', S', hl', hpe, hgt, hX⟩ := ih (i + 1) lo1 U1 C1 (by omega) S1 (by omega)
        have q1 := hpe1.2.2
        have q2 := hpe.2.2
        refine ⟨U', C', lo', S', by omega, go_pet (go_pew hpe1 (fun c hc => by rw [hc]; exact go_ms9 hx hz hm hmD)) hpe, fun e j h1 h2 h3 h4 => ?_, fun post hp => br_f (nI_ge (by omega) (by omega)) ⟨pk_in (x * 4 + i) 64 (by omega) (go_ix4 x i), nm_r ra (br_f hs ⟨vp_in_nI hx (by omega), br_f (go_mn E x _ hz hE) (br_f (by decide) (by unfold wX_forward_74; exact hX1 _ (nm_r (nI_1 i) (hX post hp))))⟩)⟩⟩
        by_cases q : j = i
        · rw [q] at h4 ⊢; exact Or.inl (go_gtp hpe (hg1 (by omega) h4))
        · exact hgt (by omega) j (by omega) h2 h3 h4
theorem go_jl {x y : Nat} (hA : ∀ j, A j < 16) (hL : La y ≤ 4) (hx : x < 16) (hy : y < 16) : ∀ d i (lo : Nat) (U : Nat → Bool) (C : Nat → Nat), i + d = La y → go_IS U C → lo + d < 2 ^ 31 → ∃ (U' : Nat → Bool) (C' : Nat → Nat) (lo' : Nat), go_IS U' C' ∧ lo' ≤ lo + d ∧ go_pe U C lo U' C' lo' (go_ms D) ∧ (∀ post : St2 → Prop, post (nI nn, nI ac, nI pc, nI tm, nI md, nI lo', go_B al, go_N A, go_N La, go_N P, go_N Lp, go_M E, go_M D, go_M W, go_N T, go_S U' C') → wX_onJoin_17 post (nI y) (nI x) (nI (La y)) (d + 1) (nI i) (nI nn) (nI ac) (nI pc) (nI tm) (nI md) (nI lo) (go_B al) (go_N A) (go_N La) (go_N P) (go_N Lp) (go_M E) (go_M D) (go_M W) (go_N T) (go_S U C)) := by
  intro d
  have rl := go_rN (e := nI y) La y rfl (by omega)
  obtain ⟨a, ha, ea⟩ := go_j48 x hx
  induction d with
  | zero =>
    intro i lo U C hi S hl
    exact ⟨U, C, lo, S, by omega, go_pe0 U C lo _, fun post hp => br_t (nI_le (by omega) (by omega)) hp⟩
  | succ d ih =>
    intro i lo U C hi S hl
    have hz : A (y * 4 + i) < 16 := hA _
    have ra := go_rN (e := nI y * 4 + nI i) A (y * 4 + i) (go_ix4 y i) (by omega)
    by_cases hs : A (y * 4 + i) = x
    · obtain ⟨U', C', lo', S', hl', hpe, hX⟩ := ih (i + 1) lo U C (by omega) S (by omega)
      exact ⟨U', C', lo', S', by omega, hpe, fun post hp => br_f (nI_ge (by omega) (by omega)) ⟨pk_in (y * 4 + i) 64 (by omega) (go_ix4 y i), nm_r ra (br_t (by rw [hs]) (nm_r (nI_1 i) (hX post hp)))⟩⟩
    · have hs' : ¬ nI (A (y * 4 + i)) = nI x := by rw [nI_eq (by omega) (by omega)]; exact hs
      obtain ⟨U1, C1, lo1, S1, hl1, hpe1, _, hX1⟩ := go_send nn ac pc tm md lo al A La P Lp E D W T U C (k := 2) S (by omega) hy hz (by omega) (by omega) ha
      obtain ⟨U', C', lo', S', hl', hpe, hX⟩ := ih (i + 1) lo1 U1 C1 (by omega) S1 (by omega)
      exact ⟨U', C', lo', S', by omega, go_pet (go_pew hpe1 (fun c hc => by rw [hc]; exact go_msn (by omega) (by omega) hy hz ha (by omega))) hpe, fun post hp => br_f (nI_ge (by omega) (by omega)) ⟨pk_in (y * 4 + i) 64 (by omega) (go_ix4 y i), nm_r ra (br_f hs' (by rw [ea]; exact hX1 _ (nm_r (nI_1 i) (hX post hp))))⟩⟩
end
section
variable (nn ac pc tm md lo : Nat) (al : Nat → Bool) (A La P Lp : Nat → Nat) (E D W : Nat → Bool) (T : Nat → Nat) (U : Nat → Bool) (C : Nat → Nat)
theorem go_fwd {x m : Nat} (sv : Int32) (hA : ∀ j, A j < 16) (hL : La x ≤ 4) (S : go_IS U C) (hl : lo + 4 < 2 ^ 31) (hx : x < 16) (hm : m < 65536) (hmD : ∀ b, b < 16 → bt (nI m) b = true → D (x * 16 + b) = true) : ∃ (U' : Nat → Bool) (C' : Nat → Nat) (lo' : Nat), go_IS U' C' ∧ lo' ≤ lo + 4 ∧ go_pe U C lo U' C' lo' (go_ms D) ∧ (lo' = lo → ∀ j, j < La x → ¬ nI (A (x * 4 + j)) = sv → al (A (x * 4 + j)) = true → go_gt U' C' (go_cd 9 x (A (x * 4 + j)) m) ∨ go_gt U' C' (go_cd 10 x (A (x * 4 + j)) m)) ∧ (∀ post : St2 → Prop, post (nI nn, nI ac, nI pc, nI tm, nI md, nI lo', go_B al, go_N A, go_N La, go_N P, go_N Lp, go_M E, go_M D, go_M W, go_N T, go_S U' C') → wpX_forward post (nI nn, nI ac, nI pc, nI tm, nI md, nI lo, go_B al, go_N A, go_N La, go_N P, go_N Lp, go_M E, go_M D, go_M W, go_N T, go_S U C) (nI x) sv (nI m)) := by
  obtain ⟨U', C', lo', S', hl', hpe, hgt, hX⟩ := go_fwl nn ac pc tm md al A La P Lp E D W T (sv := sv) hA hL hx hm hmD (La x) 0 lo U C (by omega) S (by omega)
  exact ⟨U', C', lo', S', by omega, hpe, fun e j h2 h3 h4 => hgt e j (by omega) h2 h3 h4, fun post hp => ⟨vp_in_nI hx (by omega), nm_r (go_rN La x rfl (by omega)) ⟨_, hX post hp⟩⟩⟩
theorem go_h1 {x y : Nat} (hac : 2 ≤ ac ∧ ac ≤ 4) (hpc : 1 ≤ pc ∧ pc ≤ 8) (Z : go_Z ac pc A La P Lp E T U C) (hl : lo + 10 < 2 ^ 31) (hx : x < 16) (hy : y < 16) : ∃ (A' La' P' Lp' : Nat → Nat) (E' : Nat → Bool) (U' : Nat → Bool) (C' : Nat → Nat) (lo' : Nat), go_Z ac pc A' La' P' Lp' E' T U' C' ∧ lo' ≤ lo + 10 ∧ go_pe U C lo U' C' lo' (go_ms D) ∧ go_lr al D A La A' La' U' C' lo lo' ∧ (∀ post : St2 → Prop, post (nI nn, nI ac, nI pc, nI tm, nI md, nI lo', go_B al, go_N A', go_N La', go_N P', go_N Lp', go_M E', go_M D, go_M W, go_N T, go_S U' C') → wpX_onJoin post (nI nn, nI ac, nI pc, nI tm, nI md, nI lo, go_B al, go_N A, go_N La, go_N P, go_N Lp, go_M E, go_M D, go_M W, go_N T, go_S U C) (nI y) (nI x)) := by
  obtain ⟨IA, JE, I, hT, S⟩ := Z
  obtain ⟨A1, La1, E1, P1, Lp1, U1, C1, lo1, IA1, JE1, I1, S1, hl1, hpe1, hlr1, hX1⟩ := go_addA nn ac pc tm md lo al A La P Lp E D W T U C true hac IA JE hpc I S (by omega) hy hx
  have hla := IA1.2.1 y
  obtain ⟨U', C', lo', S', hl', hpe, hX⟩ := go_jl nn ac pc tm md al A1 La1 P1 Lp1 E1 D W T (x := x) IA1.1 (by omega) hx hy (La1 y) 0 lo1 U1 C1 (by omega) S1 (by omega)
  refine ⟨A1, La1, P1, Lp1, E1, U', C', lo', ⟨IA1, JE1, I1, hT, S'⟩, by omega, go_pet hpe1 hpe, go_lrp hlr1 hpe1 hpe, fun post hp => ?_⟩
  unfold wpX_onJoin
  exact hX1 _ ⟨vp_in_nI hy (by omega), nm_r (go_rN La1 y rfl (by omega)) ⟨_, hX post hp⟩⟩
theorem go_f51 {x y w t : Nat} (hac : 2 ≤ ac ∧ ac ≤ 4) (hpc : 1 ≤ pc ∧ pc ≤ 8) (Z : go_Z ac pc A La P Lp E T U C) (hl : lo + 10 < 2 ^ 31) (hx : x < 16) (hy : y < 16) (hw : w < 16) (ht0 : 0 < t) (ht : t < 16) : ∃ (A' La' P' Lp' : Nat → Nat) (E' : Nat → Bool) (U' : Nat → Bool) (C' : Nat → Nat) (lo' : Nat), go_Z ac pc A' La' P' Lp' E' T U' C' ∧ lo' ≤ lo + 10 ∧ go_pe U C lo U' C' lo' (go_ms D) ∧ go_lr al D A La A' La' U' C' lo lo' ∧ (∀ post : St2 → Prop, post (nI nn, nI ac, nI pc, nI tm, nI md, nI lo', go_B al, go_N A', go_N La', go_N P', go_N Lp', go_M E', go_M D, go_M W, go_N T, go_S U' C') → wX_onForwardJoin_51 post (nI y) (nI x) (nI w) (nI t) (nI nn) (nI ac) (nI pc) (nI tm) (nI md) (nI lo) (go_B al) (go_N A) (go_N La) (go_N P) (go_N Lp) (go_M E) (go_M D) (go_M W) (go_N T) (go_S U C)) := by
  obtain ⟨IA, JE, I, hT, S⟩ := Z
  have hla := IA.2.1 y
  rcases go_first (fun i => A (y * 4 + i) ≠ x ∧ A (y * 4 + i) ≠ w) (La y) with h | ⟨i, hi, hAi, hAb⟩
  · obtain ⟨A1, La1, E1, P1, Lp1, U1, C1, lo1, IA1, JE1, I1, S1, hl1, hpe1, hlr1, hX1⟩ := go_addA nn ac pc tm md lo al A La P Lp E D W T U C true hac IA JE hpc I S (by omega) hy hw
    refine ⟨A1, La1, P1, Lp1, E1, U1, C1, lo1, ⟨IA1, JE1, I1, hT, S1⟩, by omega, hpe1, hlr1, fun post hp => ?_⟩
    unfold wX_onForwardJoin_51
    exact ⟨La y + 1, go_fx0 nn ac pc tm md lo al A La P Lp E D W T U C IA.1 (by omega) hx hy hw h _ (br_t rfl (hX1 _ hp)) _ 0 (by omega) (by omega)⟩
  · obtain ⟨a, ha, ea⟩ := go_fj w (t - 1) hw (by omega)
    have hz : A (y * 4 + i) < 16 := IA.1 _
    have e1 : nI w ||| ((nI t - 1) <<< ((4 : Int32) &&& 31)) = nI a := by
      rw [← ea]
      exact congrArg (fun z => nI w ||| (z <<< ((4 : Int32) &&& 31))) (pk_sub (a := t) (b := 1) (by omega))
    obtain ⟨U1, C1, lo1, S1, hl1, hpe1, _, hX1⟩ := go_send nn ac pc tm md lo al A La P Lp E D W T U C (k := 2) S (by omega) hy hz (by omega) (by omega) ha
    have hne : ¬ nI (A (y * 4 + i)) = -1 := by
      intro q
      have := congrArg (fun z => decide (z < 0)) q
      simp only [decide_eq_false (nI_pos (n := A (y * 4 + i)) (by omega))] at this
      exact absurd this (by decide)
    refine ⟨A, La, P, Lp, E, U1, C1, lo1, ⟨IA, JE, I, hT, S1⟩, by omega, go_pew hpe1 (fun c hc => by rw [hc]; exact go_msn (by omega) (by omega) hy hz ha (by omega)), go_lr0 _ _ _ _ _ _ _ _, fun post hp => ?_⟩
    unfold wX_onForwardJoin_51
    exact ⟨La y + 1, go_fx1 nn ac pc tm md lo al A La P Lp E D W T U C IA.1 (by omega) hx hy hw hi hAi hAb _ (br_f hne (by rw [e1]; exact hX1 _ hp)) _ 0 (by omega) (by omega)⟩
theorem go_h2 {x y a : Nat} (hac : 2 ≤ ac ∧ ac ≤ 4) (hpc : 1 ≤ pc ∧ pc ≤ 8) (Z : go_Z ac pc A La P Lp E T U C) (hl : lo + 10 < 2 ^ 31) (hx : x < 16) (hy : y < 16) (ha : a < 65536) : ∃ (A' La' P' Lp' : Nat → Nat) (E' : Nat → Bool) (U' : Nat → Bool) (C' : Nat → Nat) (lo' : Nat), go_Z ac pc A' La' P' Lp' E' T U' C' ∧ lo' ≤ lo + 10 ∧ go_pe U C lo U' C' lo' (go_ms D) ∧ go_lr al D A La A' La' U' C' lo lo' ∧ (∀ post : St2 → Prop, post (nI nn, nI ac, nI pc, nI tm, nI md, nI lo', go_B al, go_N A', go_N La', go_N P', go_N Lp', go_M E', go_M D, go_M W, go_N T, go_S U' C') → wpX_onForwardJoin post (nI nn, nI ac, nI pc, nI tm, nI md, nI lo, go_B al, go_N A, go_N La, go_N P, go_N Lp, go_M E, go_M D, go_M W, go_N T, go_S U C) (nI y) (nI x) (nI a)) := by
  have Z0 := Z
  obtain ⟨IA, JE, I, hT, S⟩ := Z
  have hla := IA.2.1 y
  have d1 := go_dw (c := a) (by omega)
  have d2 := go_d4 (c := a) (by omega)
  have hw : a % 2 ^ 4 < 16 := by omega
  have ht : a / 2 ^ 4 % 2 ^ 4 < 16 := by omega
  have rl := go_rN (e := nI y) La y rfl (by omega)
  generalize a % 2 ^ 4 = w at d1 hw
  generalize a / 2 ^ 4 % 2 ^ 4 = t at d2 ht
  by_cases ht0 : t = 0 ∨ La y ≤ 1
  · obtain ⟨A1, La1, E1, P1, Lp1, U1, C1, lo1, IA1, JE1, I1, S1, hl1, hpe1, hlr1, hX1⟩ := go_addA nn ac pc tm md lo al A La P Lp E D W T U C true hac IA JE hpc I S (by omega) hy hw
    have fX : ∀ post : St2 → Prop, post (nI nn, nI ac, nI pc, nI tm, nI md, nI lo1, go_B al, go_N A1, go_N La1, go_N P1, go_N Lp1, go_M E1, go_M D, go_M W, go_N T, go_S U1 C1) → wX_onForwardJoin_29 post (nI y) (nI w) (nI nn) (nI ac) (nI pc) (nI tm) (nI md) (nI lo) (go_B al) (go_N A) (go_N La) (go_N P) (go_N Lp) (go_M E) (go_M D) (go_M W) (go_N T) (go_S U C) := by
      intro post hp
      unfold wX_onForwardJoin_29
      exact hX1 _ hp
    refine ⟨A1, La1, P1, Lp1, E1, U1, C1, lo1, ⟨IA1, JE1, I1, hT, S1⟩, by omega, hpe1, hlr1, fun post hp => nm_r d1 (nm_r d2 (br_c (fun _ => fX post hp) (fun q => ⟨vp_in_nI hy (by omega), br_f ?_ (fX post hp)⟩)))⟩
    rw [rl]
    rcases ht0 with z | z
    · exact absurd (by rw [z]; exact nI_0) q
    · have := nI_leI (a := La y) (b := 1) (by omega) (by omega)
      exact Int32.not_lt.mpr (this.mpr z)
  · have h1 : 0 < t := by omega
    have h2 : 1 < La y := by omega
    have q1 : ¬ nI t = 0 := nI_ne0 h1 (by omega)
    have q2 : 1 < go_N La (nI y).toNatClampNeg := by rw [rl]; exact nI_lt (a := 1) h2 (by omega)
    by_cases ht1 : t = 1
    · obtain ⟨P1, Lp1, I1, hX1⟩ := go_addP nn ac pc tm md lo al A La P Lp E D W T U C hac.2 IA hpc I hy hw
      obtain ⟨A', La', P', Lp', E', U', C', lo', Z', hl', hpe, hlr, hX⟩ := go_f51 nn ac pc tm md lo al A La P1 Lp1 E D W T U C (x := x) hac hpc ⟨IA, JE, I1, hT, S⟩ hl hx hy hw h1 ht
      exact ⟨A', La', P', Lp', E', U', C', lo', Z', hl', hpe, hlr, fun post hp => nm_r d1 (nm_r d2 (br_f q1 ⟨vp_in_nI hy (by omega), br_t q2 (br_t (by rw [ht1]; rfl) (hX1 _ (hX post hp)))⟩))⟩
    · have q3 : ¬ nI t = 1 := fun q => ht1 ((nI_eq (a := t) (b := 1) (by omega) (by omega)).mp q)
      obtain ⟨A', La', P', Lp', E', U', C', lo', Z', hl', hpe, hlr, hX⟩ := go_f51 nn ac pc tm md lo al A La P Lp E D W T U C (x := x) hac hpc Z0 hl hx hy hw h1 ht
      exact ⟨A', La', P', Lp', E', U', C', lo', Z', hl', hpe, hlr, fun post hp => nm_r d1 (nm_r d2 (br_f q1 ⟨vp_in_nI hy (by omega), br_t q2 (br_f q3 (hX post hp))⟩))⟩
theorem go_h4 {x y : Nat} (hac : 2 ≤ ac ∧ ac ≤ 4) (hpc : 1 ≤ pc ∧ pc ≤ 8) (Z : go_Z ac pc A La P Lp E T U C) (hx : x < 16) (hy : y < 16) : ∃ (A' La' P' Lp' : Nat → Nat) (E' : Nat → Bool) (U' : Nat → Bool) (C' : Nat → Nat) (lo' : Nat), go_Z ac pc A' La' P' Lp' E' T U' C' ∧ lo' ≤ lo + 10 ∧ go_pe U C lo U' C' lo' (go_ms D) ∧ go_lr al D A La A' La' U' C' lo lo' ∧ (∀ post : St2 → Prop, post (nI nn, nI ac, nI pc, nI tm, nI md, nI lo', go_B al, go_N A', go_N La', go_N P', go_N Lp', go_M E', go_M D, go_M W, go_N T, go_S U' C') → wpX_onDisconnect post (nI nn, nI ac, nI pc, nI tm, nI md, nI lo, go_B al, go_N A, go_N La, go_N P, go_N Lp, go_M E, go_M D, go_M W, go_N T, go_S U C) (nI y) (nI x)) := by
  obtain ⟨IA, JE, I, hT, S⟩ := Z
  have hla := IA.2.1 y
  rcases go_first (fun i => A (y * 4 + i) = x) (La y) with hA | ⟨i, hi, hAi, hAb⟩
  · refine ⟨A, La, P, Lp, E, U, C, lo, ⟨IA, JE, I, hT, S⟩, by omega, go_pe0 U C lo _, go_lr0 _ _ _ _ _ _ _ _, fun post hp => ?_⟩
    unfold wpX_onDisconnect
    exact go_rX04 nn ac pc tm md lo al A La P Lp E D W T U C hac.2 IA JE hy hx hA _ (br_t rfl hp)
  · obtain ⟨P1, Lp1, I1, hX1⟩ := go_addP nn ac pc tm md lo al (go_sh A (y * 4 + i) (y * 4 + (La y - 1))) (go_up La y (La y - 1)) P Lp (go_up E (y * 16 + x) false) D W T U C hac.2 (go_rm4 hac.2 IA hi) hpc I hy hx
    refine ⟨_, _, P1, Lp1, _, U, C, lo, ⟨go_rm4 hac.2 IA hi, go_rmE hac.2 IA JE hi hAi, I1, hT, S⟩, by omega, go_pe0 U C lo _, fun z w g => Or.inl (go_lkr hac.2 IA hi z w g), fun post hp => ?_⟩
    unfold wpX_onDisconnect
    exact go_rX14 nn ac pc tm md lo al A La P Lp E D W T U C hac.2 IA hy hx hi hAi _ (br_f (by decide) (hX1 _ hp))
theorem go_h5 {x y a : Nat} (hac : 2 ≤ ac ∧ ac ≤ 4) (hpc : 1 ≤ pc ∧ pc ≤ 8) (Z : go_Z ac pc A La P Lp E T U C) (hl : lo + 10 < 2 ^ 31) (hx : x < 16) (hy : y < 16) (ha : a < 65536) : ∃ (A' La' P' Lp' : Nat → Nat) (E' : Nat → Bool) (U' : Nat → Bool) (C' : Nat → Nat) (lo' : Nat), go_Z ac pc A' La' P' Lp' E' T U' C' ∧ lo' ≤ lo + 10 ∧ go_pe U C lo U' C' lo' (go_ms D) ∧ go_lr al D A La A' La' U' C' lo lo' ∧ (∀ post : St2 → Prop, post (nI nn, nI ac, nI pc, nI tm, nI md, nI lo', go_B al, go_N A', go_N La', go_N P', go_N Lp', go_M E', go_M D, go_M W, go_N T, go_S U' C') → wpX_onNeighbor post (nI nn, nI ac, nI pc, nI tm, nI md, nI lo, go_B al, go_N A, go_N La, go_N P, go_N Lp, go_M E, go_M D, go_M W, go_N T, go_S U C) (nI y) (nI x) (nI a)) := by
  obtain ⟨IA, JE, I, hT, S⟩ := Z
  have hla := IA.2.1 y
  have rl := go_rN (e := nI y) La y rfl (by omega)
  by_cases h : a = 1 ∨ La y < ac
  · obtain ⟨A1, La1, E1, P1, Lp1, U1, C1, lo1, IA1, JE1, I1, S1, hl1, hpe1, hlr1, hX1⟩ := go_addA nn ac pc tm md lo al A La P Lp E D W T U C true hac IA JE hpc I S (by omega) hy hx
    have q : ¬ nI a = 1 → ¬ nI ac ≤ go_N La (nI y).toNatClampNeg := by
      intro q
      rw [rl]
      rcases h with z | z
      · exact absurd (by rw [z]; rfl) q
      · exact nI_ge z (by omega)
    have fX : ∀ post : St2 → Prop, post (nI nn, nI ac, nI pc, nI tm, nI md, nI lo1, go_B al, go_N A1, go_N La1, go_N P1, go_N Lp1, go_M E1, go_M D, go_M W, go_N T, go_S U1 C1) → wX_onNeighbor_18 post (nI y) (nI x) (nI nn) (nI ac) (nI pc) (nI tm) (nI md) (nI lo) (go_B al) (go_N A) (go_N La) (go_N P) (go_N Lp) (go_M E) (go_M D) (go_M W) (go_N T) (go_S U C) := by
      intro post hp
      unfold wX_onNeighbor_18
      exact hX1 _ hp
    exact ⟨A1, La1, P1, Lp1, E1, U1, C1, lo1, ⟨IA1, JE1, I1, hT, S1⟩, by omega, hpe1, hlr1, fun post hp => br_c (fun _ => fX post hp) (fun z => ⟨vp_in_nI hy (by omega), br_f (q z) (fX post hp)⟩)⟩
  · have q1 : ¬ nI a = 1 := fun q => h (Or.inl ((nI_eq (a := a) (b := 1) (by omega) (by omega)).mp q))
    have q2 : nI ac ≤ go_N La (nI y).toNatClampNeg := by rw [rl]; exact nI_le (by omega) (by omega)
    obtain ⟨U1, C1, lo1, S1, hl1, hpe1, _, hX1⟩ := go_send nn ac pc tm md lo al A La P Lp E D W T U C (k := 6) (a := 0) S (by omega) hy hx (by omega) (by omega) (by omega)
    exact ⟨A, La, P, Lp, E, U1, C1, lo1, ⟨IA, JE, I, hT, S1⟩, by omega, go_pew hpe1 (fun c hc => by rw [hc]; exact go_msn (by omega) (by omega) hy hx (by omega) (by omega)), go_lr0 _ _ _ _ _ _ _ _, fun post hp => br_f q1 ⟨vp_in_nI hy (by omega), br_t q2 (hX1 _ hp)⟩⟩
end
section
variable (nn ac pc tm md lo : Nat) (al : Nat → Bool) (A La : Nat → Nat) (E D W : Nat → Bool) (T : Nat → Nat) (U : Nat → Bool) (C : Nat → Nat)
theorem go_all {y a : Nat} (hn : nn ≤ 16) (hac : ac ≤ 4) (IA : go_IV4 ac A La) (hpc : 1 ≤ pc ∧ pc ≤ 8) (hy : y < 16) : ∀ d i (P Lp : Nat → Nat), i + d = nn → go_IV8 pc P Lp → ∃ (P' Lp' : Nat → Nat), go_IV8 pc P' Lp' ∧ (∀ post : St2 → Prop, post (nI nn, nI ac, nI pc, nI tm, nI md, nI lo, go_B al, go_N A, go_N La, go_N P', go_N Lp', go_M E, go_M D, go_M W, go_N T, go_S U C) → wX_addAllPassive_2 post (nI y) (nI a) (d + 1) (nI i) (nI nn) (nI ac) (nI pc) (nI tm) (nI md) (nI lo) (go_B al) (go_N A) (go_N La) (go_N P) (go_N Lp) (go_M E) (go_M D) (go_M W) (go_N T) (go_S U C)) := by
  intro d
  induction d with
  | zero =>
    intro i P Lp hi I
    exact ⟨P, Lp, I, fun post hp => br_t (nI_le (by omega) (by omega)) hp⟩
  | succ d ih =>
    intro i P Lp hi I
    have hi16 : i < 16 := by omega
    have hne : ¬ nI nn ≤ nI i := nI_ge (by omega) (by omega)
    cases z : bt (nI a) i with
    | false =>
      have hb := (go_bm a i hi16).mpr z
      obtain ⟨P', Lp', I', hX⟩ := ih (i + 1) P Lp (by omega) I
      exact ⟨P', Lp', I', fun post hp => br_f hne (br_t hb (nm_r (nI_1 i) (hX post hp)))⟩
    | true =>
      have hb : ¬ (nI a &&& ((1 : Int32) <<< (nI i &&& 31))) = 0 := fun q => by rw [(go_bm a i hi16).mp q] at z; exact absurd z (by decide)
      obtain ⟨P1, Lp1, I1, hX1⟩ := go_addP nn ac pc tm md lo al A La P Lp E D W T U C hac IA hpc I hy hi16
      obtain ⟨P', Lp', I', hX⟩ := ih (i + 1) P1 Lp1 (by omega) I1
      exact ⟨P', Lp', I', fun post hp => br_f hne (br_f hb (hX1 _ (nm_r (nI_1 i) (hX post hp))))⟩
end
section
variable (nn ac pc tm md lo : Nat) (al : Nat → Bool) (A La P Lp : Nat → Nat) (E D W : Nat → Bool) (T : Nat → Nat) (U : Nat → Bool) (C : Nat → Nat)
theorem go_h7 {x y a : Nat} (hn : 2 ≤ nn ∧ nn ≤ 16) (hac : 2 ≤ ac ∧ ac ≤ 4) (hpc : 1 ≤ pc ∧ pc ≤ 8) (Z : go_Z ac pc A La P Lp E T U C) (hl : lo + 10 < 2 ^ 31) (hx : x < 16) (hy : y < 16) : ∃ (A' La' P' Lp' : Nat → Nat) (E' : Nat → Bool) (U' : Nat → Bool) (C' : Nat → Nat) (lo' : Nat), go_Z ac pc A' La' P' Lp' E' T U' C' ∧ lo' ≤ lo + 10 ∧ go_pe U C lo U' C' lo' (go_ms D) ∧ go_lr al D A La A' La' U' C' lo lo' ∧ (∀ post : St2 → Prop, post (nI nn, nI ac, nI pc, nI tm, nI md, nI lo', go_B al, go_N A', go_N La', go_N P', go_N Lp', go_M E', go_M D, go_M W, go_N T, go_S U' C') → wpX_onShuffle post (nI nn, nI ac, nI pc, nI tm, nI md, nI lo, go_B al, go_N A, go_N La, go_N P, go_N Lp, go_M E, go_M D, go_M W, go_N T, go_S U C) (nI y) (nI x) (nI a)) := by
  obtain ⟨IA, JE, I, hT, S⟩ := Z
  have hlp := I.2.1 y
  obtain ⟨r, hr, er⟩ := go_16 (go_w16 I.1 (y * 8) (Lp y))
  obtain ⟨P1, Lp1, I1, hX1⟩ := go_all nn ac pc tm md lo al A La E D W T U C (a := a) hn.2 hac.2 IA hpc hy nn 0 P Lp (by omega) I
  obtain ⟨U2, C2, lo2, S2, hl2, hpe2, _, hX2⟩ := go_send nn ac pc tm md lo al A La P1 Lp1 E D W T U C (k := 8) S (by omega) hy hx (by omega) (by omega) hr
  refine ⟨A, La, P1, Lp1, E, U2, C2, lo2, ⟨IA, JE, I1, hT, S2⟩, by omega, go_pew hpe2 (fun c hc => by rw [hc]; exact go_msn (by omega) (by omega) hy hx hr (by omega)), go_lr0 _ _ _ _ _ _ _ _, fun post hp => ?_⟩
  unfold wpX_onShuffle
  refine ⟨Lp y + 1, go_pmX nn ac pc tm md lo al A La P Lp E D W T U C I.1 (by omega) hy _ ⟨_, hX1 _ ?_⟩ _ 0 (by omega) (by omega)⟩
  rw [er]
  exact hX2 _ hp
theorem go_h8 {y a : Nat} (hn : 2 ≤ nn ∧ nn ≤ 16) (hac : 2 ≤ ac ∧ ac ≤ 4) (hpc : 1 ≤ pc ∧ pc ≤ 8) (Z : go_Z ac pc A La P Lp E T U C) (hy : y < 16) : ∃ (A' La' P' Lp' : Nat → Nat) (E' : Nat → Bool) (U' : Nat → Bool) (C' : Nat → Nat) (lo' : Nat), go_Z ac pc A' La' P' Lp' E' T U' C' ∧ lo' ≤ lo + 10 ∧ go_pe U C lo U' C' lo' (go_ms D) ∧ go_lr al D A La A' La' U' C' lo lo' ∧ (∀ post : St2 → Prop, post (nI nn, nI ac, nI pc, nI tm, nI md, nI lo', go_B al, go_N A', go_N La', go_N P', go_N Lp', go_M E', go_M D, go_M W, go_N T, go_S U' C') → wpX_addAllPassive post (nI nn, nI ac, nI pc, nI tm, nI md, nI lo, go_B al, go_N A, go_N La, go_N P, go_N Lp, go_M E, go_M D, go_M W, go_N T, go_S U C) (nI y) (nI a)) := by
  obtain ⟨IA, JE, I, hT, S⟩ := Z
  obtain ⟨P1, Lp1, I1, hX1⟩ := go_all nn ac pc tm md lo al A La E D W T U C (a := a) hn.2 hac.2 IA hpc hy nn 0 P Lp (by omega) I
  exact ⟨A, La, P1, Lp1, E, U, C, lo, ⟨IA, JE, I1, hT, S⟩, by omega, go_pe0 U C lo _, go_lr0 _ _ _ _ _ _ _ _, fun post hp => ⟨_, hX1 post hp⟩⟩
end
