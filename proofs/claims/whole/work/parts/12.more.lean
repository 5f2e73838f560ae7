section
variable (nn ac pc tm md lo : Nat) (al : Nat → Bool) (A La P Lp : Nat → Nat) (E D W : Nat → Bool) (T : Nat → Nat) (U : Nat → Bool) (C : Nat → Nat)
theorem go_h4 {x y : Nat} (p3 : Int32) (hac : 2 ≤ ac ∧ ac ≤ 4) (hpc : 1 ≤ pc ∧ pc ≤ 8) (Z : go_Z ac pc A La P Lp E T U C) (hx : x < 16) (hy : y < 16) : ∃ (A' La' P' Lp' : Nat → Nat) (E' D' W' : Nat → Bool) (T' : Nat → Nat) (U' : Nat → Bool) (C' : Nat → Nat) (lo' : Nat), go_Z ac pc A' La' P' Lp' E' T' U' C' ∧ lo' ≤ lo + 10 ∧ (∀ post : SX → Prop, post (nI nn, nI ac, nI pc, nI tm, nI md, nI lo', go_B al, go_N A', go_N La', go_N P', go_N Lp', go_M E', go_M D', go_M W', go_N T', go_S U' C') → wpX_onDisconnect post (nI nn, nI ac, nI pc, nI tm, nI md, nI lo, go_B al, go_N A, go_N La, go_N P, go_N Lp, go_M E, go_M D, go_M W, go_N T, go_S U C) (nI y) (nI x)) ∧ (∀ post : SY → Prop, post (nI nn, nI ac, nI pc, nI tm, nI lo', nI md, go_B al, go_N A', go_N La', go_N P', go_N Lp', go_B E', go_B D', go_B W', go_N T', go_B U', go_N C') → wpY_handle post (nI nn, nI ac, nI pc, nI tm, nI lo, nI md, go_B al, go_N A, go_N La, go_N P, go_N Lp, go_B E, go_B D, go_B W, go_N T, go_B U, go_N C) 4 (nI x) (nI y) p3) := by
  obtain ⟨IA, JE, I, hT, S⟩ := Z
  have hla := IA.2.1 y
  rcases go_first (fun i => A (y * 4 + i) = x) (La y) with hA | ⟨i, hi, hAi, hAb⟩
  · refine ⟨A, La, P, Lp, E, D, W, T, U, C, lo, ⟨IA, JE, I, hT, S⟩, by omega, fun post hp => ?_, fun post hp => br_f (by decide) (br_f (by decide) (br_f (by decide) (br_t rfl (go_ps4 nn ac pc tm md lo al A La P Lp E D W T U C IA.1 (by omega) hy hx hA _ (br_t (by decide) hp)))))⟩
    unfold wpX_onDisconnect
    exact go_rX04 nn ac pc tm md lo al A La P Lp E D W T U C hac.2 IA JE hy hx hA _ (br_t rfl hp)
  · obtain ⟨P1, Lp1, I1, hX1, hY1⟩ := go_addP nn ac pc tm md lo al (go_sh A (y * 4 + i) (y * 4 + (La y - 1))) (go_up La y (La y - 1)) P Lp (go_up E (y * 16 + x) false) D W T U C hac.2 (go_rm4 hac.2 IA hi) hpc I hy hx
    refine ⟨_, _, P1, Lp1, _, D, W, T, U, C, lo, ⟨go_rm4 hac.2 IA hi, go_rmE hac.2 IA JE hi hAi, I1, hT, S⟩, by omega, fun post hp => ?_, fun post hp => br_f (by decide) (br_f (by decide) (br_f (by decide) (br_t rfl (go_psy4 nn ac pc tm md lo al A La P Lp E D W T U C IA.1 (by omega) hy hx hi hAi hAb _ (br_f (nI_pos (by omega)) (go_rY14 nn ac pc tm md lo al A La P Lp E D W T U C hac.2 IA hy hx hi hAi hAb _ (hY1 _ hp)))))))⟩
    unfold wpX_onDisconnect
    exact go_rX14 nn ac pc tm md lo al A La P Lp E D W T U C hac.2 IA hy hx hi hAi _ (br_f (by decide) (hX1 _ hp))
theorem go_h5 {x y a : Nat} (hac : 2 ≤ ac ∧ ac ≤ 4) (hpc : 1 ≤ pc ∧ pc ≤ 8) (Z : go_Z ac pc A La P Lp E T U C) (hl : lo + 10 < 2 ^ 31) (hx : x < 16) (hy : y < 16) (ha : a < 65536) : ∃ (A' La' P' Lp' : Nat → Nat) (E' D' W' : Nat → Bool) (T' : Nat → Nat) (U' : Nat → Bool) (C' : Nat → Nat) (lo' : Nat), go_Z ac pc A' La' P' Lp' E' T' U' C' ∧ lo' ≤ lo + 10 ∧ (∀ post : SX → Prop, post (nI nn, nI ac, nI pc, nI tm, nI md, nI lo', go_B al, go_N A', go_N La', go_N P', go_N Lp', go_M E', go_M D', go_M W', go_N T', go_S U' C') → wpX_onNeighbor post (nI nn, nI ac, nI pc, nI tm, nI md, nI lo, go_B al, go_N A, go_N La, go_N P, go_N Lp, go_M E, go_M D, go_M W, go_N T, go_S U C) (nI y) (nI x) (nI a)) ∧ (∀ post : SY → Prop, post (nI nn, nI ac, nI pc, nI tm, nI lo', nI md, go_B al, go_N A', go_N La', go_N P', go_N Lp', go_B E', go_B D', go_B W', go_N T', go_B U', go_N C') → wpY_handle post (nI nn, nI ac, nI pc, nI tm, nI lo, nI md, go_B al, go_N A, go_N La, go_N P, go_N Lp, go_B E, go_B D, go_B W, go_N T, go_B U, go_N C) 5 (nI x) (nI y) (nI a)) := by
  obtain ⟨IA, JE, I, hT, S⟩ := Z
  have hla := IA.2.1 y
  have rl := go_rN (e := nI y) La y rfl (by omega)
  by_cases h : a = 1 ∨ La y < ac
  · obtain ⟨A1, La1, E1, P1, Lp1, U1, C1, lo1, IA1, JE1, I1, S1, hl1, hX1, hY1⟩ := go_addA nn ac pc tm md lo al A La P Lp E D W T U C true hac IA JE hpc I S (by omega) hy hx
    have q : ¬ nI a = 1 → ¬ nI ac ≤ go_N La (nI y).toNatClampNeg := by
      intro q
      rw [rl]
      rcases h with z | z
      · exact absurd (by rw [z]; rfl) q
      · exact nI_ge z (by omega)
    have fX : ∀ post : SX → Prop, post (nI nn, nI ac, nI pc, nI tm, nI md, nI lo1, go_B al, go_N A1, go_N La1, go_N P1, go_N Lp1, go_M E1, go_M D, go_M W, go_N T, go_S U1 C1) → wX_onNeighbor_18 post (nI y) (nI x) (nI nn) (nI ac) (nI pc) (nI tm) (nI md) (nI lo) (go_B al) (go_N A) (go_N La) (go_N P) (go_N Lp) (go_M E) (go_M D) (go_M W) (go_N T) (go_S U C) := by
      intro post hp
      unfold wX_onNeighbor_18
      exact hX1 _ hp
    have fY : ∀ post : SY → Prop, post (nI nn, nI ac, nI pc, nI tm, nI lo1, nI md, go_B al, go_N A1, go_N La1, go_N P1, go_N Lp1, go_B E1, go_B D, go_B W, go_N T, go_B U1, go_N C1) → wY_handle_286 post (nI x) (nI y) (nI nn) (nI ac) (nI pc) (nI tm) (nI lo) (nI md) (go_B al) (go_N A) (go_N La) (go_N P) (go_N Lp) (go_B E) (go_B D) (go_B W) (go_N T) (go_B U) (go_N C) := by
      intro post hp
      unfold wY_handle_286
      exact hY1 _ hp
    exact ⟨A1, La1, P1, Lp1, E1, D, W, T, U1, C1, lo1, ⟨IA1, JE1, I1, hT, S1⟩, by omega, fun post hp => br_c (fun _ => fX post hp) (fun z => ⟨vp_in_nI hy (by omega), br_f (q z) (fX post hp)⟩), fun post hp => br_f (by decide) (br_f (by decide) (br_f (by decide) (br_f (by decide) (br_t rfl (br_c (fun _ => fY post hp) (fun z => ⟨vp_in_nI hy (by omega), br_f (q z) (fY post hp)⟩))))))⟩
  · have q1 : ¬ nI a = 1 := fun q => h (Or.inl ((nI_eq (a := a) (b := 1) (by omega) (by omega)).mp q))
    have q2 : nI ac ≤ go_N La (nI y).toNatClampNeg := by rw [rl]; exact nI_le (by omega) (by omega)
    obtain ⟨U1, C1, lo1, S1, hl1, hX1, hY1⟩ := go_send nn ac pc tm md lo al A La P Lp E D W T U C (k := 6) (a := 0) S (by omega) hy hx (by omega) (by omega) (by omega)
    exact ⟨A, La, P, Lp, E, D, W, T, U1, C1, lo1, ⟨IA, JE, I, hT, S1⟩, by omega, fun post hp => br_f q1 ⟨vp_in_nI hy (by omega), br_t q2 (hX1 _ hp)⟩, fun post hp => br_f (by decide) (br_f (by decide) (br_f (by decide) (br_f (by decide) (br_t rfl (br_f q1 ⟨vp_in_nI hy (by omega), br_t q2 (hY1 _ hp)⟩)))))⟩
theorem go_pmX {x : Nat} (hP : ∀ j, P j < 16) (hL : Lp x ≤ 8) (hx : x < 16) (post : Int32 → Prop) (hp : post (go_w P (x * 8) (Lp x))) : ∀ n i, i ≤ Lp x → Lp x - i < n → wX_passiveMask_4 post (nI x) (nI nn) (nI ac) (nI pc) (nI tm) (nI md) (nI lo) (go_B al) (go_N A) (go_N La) (go_N P) (go_N Lp) (go_M E) (go_M D) (go_M W) (go_N T) (go_S U C) n (go_w P (x * 8) i) (nI i) := by
  intro n
  induction n with
  | zero => intro i _ hn; exact absurd hn (by omega)
  | succ n ih =>
    intro i hi hn
    refine ⟨vp_in_nI hx (by omega), pk_le (Lp x) i (fun h => ?_) (fun h => ⟨pk_in (x * 8 + i) 128 (by omega) (go_ix8 x i), nm_r (e' := go_w P (x * 8) (i + 1)) (by rw [go_rN P (x * 8 + i) (go_ix8 x i) (by omega)]; rfl) (nm_r (nI_1 i) (ih (i + 1) (by omega) (by omega)))⟩) (go_rN Lp x rfl (by omega)) rfl (by omega) (by omega)⟩
    have e : i = Lp x := by omega
    rw [e]; exact hp
theorem go_amX {x : Nat} (hA : ∀ j, A j < 16) (hL : La x ≤ 4) (hx : x < 16) (post : Int32 → Prop) (hp : post (go_w A (x * 4) (La x))) : ∀ n i, i ≤ La x → La x - i < n → wX_activeMask_4 post (nI x) (nI nn) (nI ac) (nI pc) (nI tm) (nI md) (nI lo) (go_B al) (go_N A) (go_N La) (go_N P) (go_N Lp) (go_M E) (go_M D) (go_M W) (go_N T) (go_S U C) n (go_w A (x * 4) i) (nI i) := by
  intro n
  induction n with
  | zero => intro i _ hn; exact absurd hn (by omega)
  | succ n ih =>
    intro i hi hn
    refine ⟨vp_in_nI hx (by omega), pk_le (La x) i (fun h => ?_) (fun h => ⟨pk_in (x * 4 + i) 64 (by omega) (go_ix4 x i), nm_r (e' := go_w A (x * 4) (i + 1)) (by rw [go_rN A (x * 4 + i) (go_ix4 x i) (by omega)]; rfl) (nm_r (nI_1 i) (ih (i + 1) (by omega) (by omega)))⟩) (go_rN La x rfl (by omega)) rfl (by omega) (by omega)⟩
    have e : i = La x := by omega
    rw [e]; exact hp
theorem go_pmY {x y a : Nat} (hP : ∀ j, P j < 16) (hL : Lp y ≤ 8) (hy : y < 16) (post : SY → Prop) (hp : ∃ n379 : Nat, wY_handle_379 post (nI x) (nI y) (nI a) (go_w P (y * 8) (Lp y)) n379 0 (nI nn) (nI ac) (nI pc) (nI tm) (nI lo) (nI md) (go_B al) (go_N A) (go_N La) (go_N P) (go_N Lp) (go_B E) (go_B D) (go_B W) (go_N T) (go_B U) (go_N C)) : ∀ n i, i ≤ Lp y → Lp y - i < n → wY_handle_340 post (nI x) (nI y) (nI a) (nI nn) (nI ac) (nI pc) (nI tm) (nI lo) (nI md) (go_B al) (go_N A) (go_N La) (go_N P) (go_N Lp) (go_B E) (go_B D) (go_B W) (go_N T) (go_B U) (go_N C) n (go_w P (y * 8) i) (nI i) := by
  intro n
  induction n with
  | zero => intro i _ hn; exact absurd hn (by omega)
  | succ n ih =>
    intro i hi hn
    refine ⟨vp_in_nI hy (by omega), pk_le (Lp y) i (fun h => ?_) (fun h => ⟨pk_in (y * 8 + i) 128 (by omega) (go_ix8 y i), nm_r (e' := go_w P (y * 8) (i + 1)) (by rw [go_rN P (y * 8 + i) (go_ix8 y i) (by omega)]; rfl) (nm_r (nI_1 i) (ih (i + 1) (by omega) (by omega)))⟩) (go_rN Lp y rfl (by omega)) rfl (by omega) (by omega)⟩
    have e : i = Lp y := by omega
    rw [e]; exact hp
end
section
variable (nn ac pc tm md lo : Nat) (al : Nat → Bool) (A La : Nat → Nat) (E D W : Nat → Bool) (T : Nat → Nat) (U : Nat → Bool) (C : Nat → Nat)
theorem go_all {x y a : Nat} {rv : Int32} (hn : nn ≤ 16) (hac : ac ≤ 4) (IA : go_IV4 ac A La) (hpc : 1 ≤ pc ∧ pc ≤ 8) (hy : y < 16) : ∀ d i (P Lp : Nat → Nat), i + d = nn → go_IV8 pc P Lp → ∃ (P' Lp' : Nat → Nat), go_IV8 pc P' Lp' ∧ (∀ post : SX → Prop, post (nI nn, nI ac, nI pc, nI tm, nI md, nI lo, go_B al, go_N A, go_N La, go_N P', go_N Lp', go_M E, go_M D, go_M W, go_N T, go_S U C) → wX_addAllPassive_2 post (nI y) (nI a) (d + 1) (nI i) (nI nn) (nI ac) (nI pc) (nI tm) (nI md) (nI lo) (go_B al) (go_N A) (go_N La) (go_N P) (go_N Lp) (go_M E) (go_M D) (go_M W) (go_N T) (go_S U C)) ∧ (∀ post : SY → Prop, post (nI nn, nI ac, nI pc, nI tm, nI lo, nI md, go_B al, go_N A, go_N La, go_N P', go_N Lp', go_B E, go_B D, go_B W, go_N T, go_B U, go_N C) → wY_handle_433 post (nI y) (nI a) (d + 1) (nI i) (nI nn) (nI ac) (nI pc) (nI tm) (nI lo) (nI md) (go_B al) (go_N A) (go_N La) (go_N P) (go_N Lp) (go_B E) (go_B D) (go_B W) (go_N T) (go_B U) (go_N C)) ∧ (∀ (U' : Nat → Bool) (C' : Nat → Nat) (lo' : Nat) (post : SY → Prop), (∀ Q : SY → Prop, Q (nI nn, nI ac, nI pc, nI tm, nI lo', nI md, go_B al, go_N A, go_N La, go_N P', go_N Lp', go_B E, go_B D, go_B W, go_N T, go_B U', go_N C') → wpY_send Q (nI nn, nI ac, nI pc, nI tm, nI lo, nI md, go_B al, go_N A, go_N La, go_N P', go_N Lp', go_B E, go_B D, go_B W, go_N T, go_B U, go_N C) (nI y) (nI x) 8 rv) → post (nI nn, nI ac, nI pc, nI tm, nI lo', nI md, go_B al, go_N A, go_N La, go_N P', go_N Lp', go_B E, go_B D, go_B W, go_N T, go_B U', go_N C') → wY_handle_379 post (nI x) (nI y) (nI a) rv (d + 1) (nI i) (nI nn) (nI ac) (nI pc) (nI tm) (nI lo) (nI md) (go_B al) (go_N A) (go_N La) (go_N P) (go_N Lp) (go_B E) (go_B D) (go_B W) (go_N T) (go_B U) (go_N C)) := by
  intro d
  induction d with
  | zero =>
    intro i P Lp hi I
    exact ⟨P, Lp, I, fun post hp => br_t (nI_le (by omega) (by omega)) hp, fun post hp => br_t (nI_le (by omega) (by omega)) hp, fun U' C' lo' post hs hp => br_t (nI_le (by omega) (by omega)) (hs _ hp)⟩
  | succ d ih =>
    intro i P Lp hi I
    have hi16 : i < 16 := by omega
    have hne : ¬ nI nn ≤ nI i := nI_ge (by omega) (by omega)
    cases z : bt (nI a) i with
    | false =>
      have hb := (go_bm a i hi16).mpr z
      obtain ⟨P', Lp', I', hX, hY, hZ⟩ := ih (i + 1) P Lp (by omega) I
      exact ⟨P', Lp', I', fun post hp => br_f hne (br_t hb (nm_r (nI_1 i) (hX post hp))), fun post hp => br_f hne (br_t hb (nm_r (nI_1 i) (hY post hp))), fun U' C' lo' post hs hp => br_f hne (br_t hb (nm_r (nI_1 i) (hZ U' C' lo' post hs hp)))⟩
    | true =>
      have hb : ¬ (nI a &&& ((1 : Int32) <<< (nI i &&& 31))) = 0 := fun q => by rw [(go_bm a i hi16).mp q] at z; exact absurd z (by decide)
      obtain ⟨P1, Lp1, I1, hX1, hY1⟩ := go_addP nn ac pc tm md lo al A La P Lp E D W T U C hac IA hpc I hy hi16
      obtain ⟨P', Lp', I', hX, hY, hZ⟩ := ih (i + 1) P1 Lp1 (by omega) I1
      exact ⟨P', Lp', I', fun post hp => br_f hne (br_f hb (hX1 _ (nm_r (nI_1 i) (hX post hp)))), fun post hp => br_f hne (br_f hb (hY1 _ (nm_r (nI_1 i) (hY post hp)))), fun U' C' lo' post hs hp => br_f hne (br_f hb (hY1 _ (nm_r (nI_1 i) (hZ U' C' lo' post hs hp))))⟩
end
section
variable (nn ac pc tm md lo : Nat) (al : Nat → Bool) (A La P Lp : Nat → Nat) (E D W : Nat → Bool) (T : Nat → Nat) (U : Nat → Bool) (C : Nat → Nat)
theorem go_h7 {x y a : Nat} (hn : 2 ≤ nn ∧ nn ≤ 16) (hac : 2 ≤ ac ∧ ac ≤ 4) (hpc : 1 ≤ pc ∧ pc ≤ 8) (Z : go_Z ac pc A La P Lp E T U C) (hl : lo + 10 < 2 ^ 31) (hx : x < 16) (hy : y < 16) : ∃ (A' La' P' Lp' : Nat → Nat) (E' D' W' : Nat → Bool) (T' : Nat → Nat) (U' : Nat → Bool) (C' : Nat → Nat) (lo' : Nat), go_Z ac pc A' La' P' Lp' E' T' U' C' ∧ lo' ≤ lo + 10 ∧ (∀ post : SX → Prop, post (nI nn, nI ac, nI pc, nI tm, nI md, nI lo', go_B al, go_N A', go_N La', go_N P', go_N Lp', go_M E', go_M D', go_M W', go_N T', go_S U' C') → wpX_onShuffle post (nI nn, nI ac, nI pc, nI tm, nI md, nI lo, go_B al, go_N A, go_N La, go_N P, go_N Lp, go_M E, go_M D, go_M W, go_N T, go_S U C) (nI y) (nI x) (nI a)) ∧ (∀ post : SY → Prop, post (nI nn, nI ac, nI pc, nI tm, nI lo', nI md, go_B al, go_N A', go_N La', go_N P', go_N Lp', go_B E', go_B D', go_B W', go_N T', go_B U', go_N C') → wpY_handle post (nI nn, nI ac, nI pc, nI tm, nI lo, nI md, go_B al, go_N A, go_N La, go_N P, go_N Lp, go_B E, go_B D, go_B W, go_N T, go_B U, go_N C) 7 (nI x) (nI y) (nI a)) := by
  obtain ⟨IA, JE, I, hT, S⟩ := Z
  have hlp := I.2.1 y
  obtain ⟨r, hr, er⟩ := go_16 (go_w16 I.1 (y * 8) (Lp y))
  obtain ⟨P1, Lp1, I1, hX1, _, hZ1⟩ := go_all nn ac pc tm md lo al A La E D W T U C (x := x) (a := a) (rv := go_w P (y * 8) (Lp y)) hn.2 hac.2 IA hpc hy nn 0 P Lp (by omega) I
  obtain ⟨U2, C2, lo2, S2, hl2, hX2, hY2⟩ := go_send nn ac pc tm md lo al A La P1 Lp1 E D W T U C (k := 8) S (by omega) hy hx (by omega) (by omega) hr
  refine ⟨A, La, P1, Lp1, E, D, W, T, U2, C2, lo2, ⟨IA, JE, I1, hT, S2⟩, by omega, fun post hp => ?_, fun post hp => br_f (by decide) (br_f (by decide) (br_f (by decide) (br_f (by decide) (br_f (by decide) (br_f (by decide) (br_t rfl ⟨Lp y + 1, go_pmY nn ac pc tm md lo al A La P Lp E D W T U C I.1 (by omega) hy post ⟨_, hZ1 U2 C2 lo2 post (by rw [er]; exact hY2) hp⟩ _ 0 (by omega) (by omega)⟩))))))⟩
  unfold wpX_onShuffle
  refine ⟨Lp y + 1, go_pmX nn ac pc tm md lo al A La P Lp E D W T U C I.1 (by omega) hy _ ⟨_, hX1 _ ?_⟩ _ 0 (by omega) (by omega)⟩
  rw [er]
  exact hX2 _ hp
theorem go_h8 {x y a : Nat} (hn : 2 ≤ nn ∧ nn ≤ 16) (hac : 2 ≤ ac ∧ ac ≤ 4) (hpc : 1 ≤ pc ∧ pc ≤ 8) (Z : go_Z ac pc A La P Lp E T U C) (hx : x < 16) (hy : y < 16) : ∃ (A' La' P' Lp' : Nat → Nat) (E' D' W' : Nat → Bool) (T' : Nat → Nat) (U' : Nat → Bool) (C' : Nat → Nat) (lo' : Nat), go_Z ac pc A' La' P' Lp' E' T' U' C' ∧ lo' ≤ lo + 10 ∧ (∀ post : SX → Prop, post (nI nn, nI ac, nI pc, nI tm, nI md, nI lo', go_B al, go_N A', go_N La', go_N P', go_N Lp', go_M E', go_M D', go_M W', go_N T', go_S U' C') → wpX_addAllPassive post (nI nn, nI ac, nI pc, nI tm, nI md, nI lo, go_B al, go_N A, go_N La, go_N P, go_N Lp, go_M E, go_M D, go_M W, go_N T, go_S U C) (nI y) (nI a)) ∧ (∀ post : SY → Prop, post (nI nn, nI ac, nI pc, nI tm, nI lo', nI md, go_B al, go_N A', go_N La', go_N P', go_N Lp', go_B E', go_B D', go_B W', go_N T', go_B U', go_N C') → wpY_handle post (nI nn, nI ac, nI pc, nI tm, nI lo, nI md, go_B al, go_N A, go_N La, go_N P, go_N Lp, go_B E, go_B D, go_B W, go_N T, go_B U, go_N C) 8 (nI x) (nI y) (nI a)) := by
  obtain ⟨IA, JE, I, hT, S⟩ := Z
  obtain ⟨P1, Lp1, I1, hX1, hY1, _⟩ := go_all nn ac pc tm md lo al A La E D W T U C (x := x) (a := a) (rv := 0) hn.2 hac.2 IA hpc hy nn 0 P Lp (by omega) I
  exact ⟨A, La, P1, Lp1, E, D, W, T, U, C, lo, ⟨IA, JE, I1, hT, S⟩, by omega, fun post hp => ⟨_, hX1 post hp⟩, fun post hp => br_f (by decide) (br_f (by decide) (br_f (by decide) (br_f (by decide) (br_f (by decide) (br_f (by decide) (br_f (by decide) (br_t rfl ⟨_, hY1 post hp⟩)))))))⟩
end
