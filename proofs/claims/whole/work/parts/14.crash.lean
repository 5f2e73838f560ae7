def go_rU (U : Nat → Bool) (C : Nat → Nat) (x i : Nat) : Nat → Bool := fun s => if s < i ∧ (C s / 2 ^ 20 % 2 ^ 4 = x ∨ C s / 2 ^ 16 % 2 ^ 4 = x) then false else U s
theorem go_rU0 (U : Nat → Bool) (C : Nat → Nat) (x : Nat) : go_rU U C x 0 = U := funext fun s => if_neg (fun h => absurd h.1 (by omega))
theorem go_rUi (U : Nat → Bool) (C : Nat → Nat) (x i : Nat) : go_rU U C x i i = U i := if_neg (fun h => absurd h.1 (by omega))
theorem go_rUa {U : Nat → Bool} {C : Nat → Nat} {x i : Nat} (h : (C i / 2 ^ 20 % 2 ^ 4 = x ∨ C i / 2 ^ 16 % 2 ^ 4 = x) ∨ U i = false) : go_up (go_rU U C x i) i false = go_rU U C x (i + 1) := by
  funext s
  unfold go_up go_rU
  by_cases e : s = i
  · rw [if_pos e, e]
    rcases h with h | h
    · rw [if_pos ⟨by omega, h⟩]
    · rw [h]; split <;> rfl
  · rw [if_neg e]
    by_cases g : s < i ∧ (C s / 2 ^ 20 % 2 ^ 4 = x ∨ C s / 2 ^ 16 % 2 ^ 4 = x)
    · rw [if_pos g, if_pos ⟨by have := g.1; omega, g.2⟩]
    · rw [if_neg g, if_neg (fun z => g ⟨by have := z.1; omega, z.2⟩)]
theorem go_rUb {U : Nat → Bool} {C : Nat → Nat} {x i : Nat} (h : ¬ (C i / 2 ^ 20 % 2 ^ 4 = x ∨ C i / 2 ^ 16 % 2 ^ 4 = x) ∨ U i = false) : go_rU U C x i = go_rU U C x (i + 1) := by
  funext s
  unfold go_rU
  by_cases e : s = i
  · rw [if_neg (fun z => absurd z.1 (by omega)), e]
    rcases h with h | h
    · rw [if_neg (fun z => h z.2)]
    · rw [h]; split <;> rfl
  · by_cases g : s < i ∧ (C s / 2 ^ 20 % 2 ^ 4 = x ∨ C s / 2 ^ 16 % 2 ^ 4 = x)
    · rw [if_pos g, if_pos ⟨by have := g.1; omega, g.2⟩]
    · rw [if_neg g, if_neg (fun z => g ⟨by have := z.1; omega, z.2⟩)]
theorem go_rUS {U : Nat → Bool} {C : Nat → Nat} (S : go_IS U C) (x i : Nat) : go_IS (go_rU U C x i) C := by
  intro s
  refine ⟨(S s).1, fun h => ?_⟩
  unfold go_rU at h
  split at h
  · exact absurd h (by decide)
  · exact (S s).2 h
theorem go_z20 : ((0 : Int32) >>> ((20 : Int32) &&& 31)) &&& 15 = nI 0 := by decide
theorem go_z16 : ((0 : Int32) >>> ((16 : Int32) &&& 31)) &&& 15 = nI 0 := by decide
theorem go_bt1 {b : Nat} (h : b < 16) : bt (nI 65535) b = true := (b_65535 b).trans (decide_eq_true h)
section
variable (nn ac pc tm md lo : Nat) (al : Nat → Bool) (A La P Lp : Nat → Nat) (E D W : Nat → Bool) (T : Nat → Nat) (U : Nat → Bool) (C : Nat → Nat)
theorem go_fpX {x : Nat} (hx : x < 16) (post : SX → Prop) (hp : post (nI nn, nI ac, nI pc, nI tm, nI md, nI lo, go_B al, go_N A, go_N (go_up La x 0), go_N P, go_N (go_up Lp x 0), go_M (go_z E false (x * 16) (x * 16 + 16)), go_M D, go_M (go_oW W x (nI 65535) 16), go_N (go_ov T 0 x (nI 65535) 16), go_S U C)) : wpX_forgetPeers post (nI nn, nI ac, nI pc, nI tm, nI md, nI lo, go_B al, go_N A, go_N La, go_N P, go_N Lp, go_M E, go_M D, go_M W, go_N T, go_S U C) (nI x) := ⟨vp_in_nI hx (by omega), nm_r (go_uN La x 0 rfl) ⟨vp_in_nI hx (by omega), nm_r (go_uN Lp x 0 rfl) ⟨vp_in_nI hx (by omega), nm_r (go_uMz E x) (go_stop nn ac pc tm md lo al A (go_up La x 0) P (go_up Lp x 0) (go_z E false (x * 16) (x * 16 + 16)) D W T U C (g := 65535) hx _ hp)⟩⟩⟩
theorem go_rmX {x : Nat} (S : go_IS U C) (hx : x < 16) (post : SX → Prop) (hp : post (nI nn, nI ac, nI pc, nI tm, nI md, nI lo, go_B al, go_N A, go_N La, go_N P, go_N Lp, go_M E, go_M D, go_M W, go_N T, go_S (go_rU U C x 64) C)) : ∀ n i, i ≤ 64 → 64 - i < n → wX_removeMessagesOf_2 post (nI x) (nI nn) (nI ac) (nI pc) (nI tm) (nI md) (nI lo) n (nI i) (go_B al) (go_N A) (go_N La) (go_N P) (go_N Lp) (go_M E) (go_M D) (go_M W) (go_N T) (go_S (go_rU U C x i) C) := by
  intro n
  induction n with
  | zero => intro i _ hn; exact absurd hn (by omega)
  | succ n ih =>
    intro i hi hn
    refine pk_le 64 i (fun h => ?_) (fun h => ?_)
    · have e : i = 64 := by omega
      rw [e]; exact hp
    · have hv : vp_in (nI i) 64 := vp_in_nI h (by omega)
      have w := ih (i + 1) (by omega) (by omega)
      cases hU : U i with
      | false =>
        have r0 : go_S (go_rU U C x i) C (nI i).toNatClampNeg = 0 := (go_S0 (go_rUS S x i) i).mpr ((go_rUi U C x i).trans hU)
        have e1 : (go_S (go_rU U C x i) C (nI i).toNatClampNeg >>> ((20 : Int32) &&& 31)) &&& 15 = nI 0 := by rw [r0]; exact go_z20
        have e2 : (go_S (go_rU U C x i) C (nI i).toNatClampNeg >>> ((16 : Int32) &&& 31)) &&& 15 = nI 0 := by rw [r0]; exact go_z16
        have s1 : upd (go_S (go_rU U C x i) C) (nI i).toNatClampNeg 0 = go_S (go_rU U C x (i + 1)) C := by rw [go_uSf _ C i, go_rUa (Or.inr hU)]
        have w2 := w
        rw [← go_rUb (Or.inr hU)] at w2
        exact ⟨hv, nm_r e1 ⟨hv, nm_r e2 (br_c (fun _ => ⟨hv, nm_r s1 (nm_r (nI_1 i) w)⟩) (fun _ => br_c (fun _ => ⟨hv, nm_r s1 (nm_r (nI_1 i) w)⟩) (fun _ => nm_r (nI_1 i) w2)))⟩⟩
      | true =>
        have hc := (S i).1
        have r1 : go_S (go_rU U C x i) C (nI i).toNatClampNeg = nI (C i) := go_rS i ((go_rUi U C x i).trans hU)
        have e1 : (go_S (go_rU U C x i) C (nI i).toNatClampNeg >>> ((20 : Int32) &&& 31)) &&& 15 = nI (C i / 2 ^ 20 % 2 ^ 4) := by rw [r1]; exact go_d20 hc
        have e2 : (go_S (go_rU U C x i) C (nI i).toNatClampNeg >>> ((16 : Int32) &&& 31)) &&& 15 = nI (C i / 2 ^ 16 % 2 ^ 4) := by rw [r1]; exact go_d16 hc
        have s1 : ∀ (q : C i / 2 ^ 20 % 2 ^ 4 = x ∨ C i / 2 ^ 16 % 2 ^ 4 = x), upd (go_S (go_rU U C x i) C) (nI i).toNatClampNeg 0 = go_S (go_rU U C x (i + 1)) C := fun q => by rw [go_uSf _ C i, go_rUa (Or.inl q)]
        refine ⟨hv, nm_r e1 ⟨hv, nm_r e2 (pk_eq (C i / 2 ^ 20 % 2 ^ 4) x (fun q => ⟨hv, nm_r (s1 (Or.inl q)) (nm_r (nI_1 i) w)⟩) (fun q1 => pk_eq (C i / 2 ^ 16 % 2 ^ 4) x (fun q => ⟨hv, nm_r (s1 (Or.inr q)) (nm_r (nI_1 i) w)⟩) (fun q2 => nm_r (nI_1 i) ?_)))⟩⟩
        rw [← go_rUb (Or.inl (fun z => z.elim q1 q2))] at w
        exact w
theorem go_rmY {x : Nat} (S : go_IS U C) (hx : x < 16) (post : Int32 → SY → Prop) (hp : ∃ n180 : Nat, wY_crash_180 post (nI x) n180 0 (nI nn) (nI ac) (nI pc) (nI tm) (nI lo) (nI md) (go_B al) (go_N A) (go_N La) (go_N P) (go_N Lp) (go_B E) (go_B D) (go_B W) (go_N T) (go_B (go_rU U C x 64)) (go_N C)) : ∀ n i, i ≤ 64 → 64 - i < n → wY_crash_112 post (nI x) (nI nn) (nI ac) (nI pc) (nI tm) (nI lo) (nI md) n (nI i) (go_B al) (go_N A) (go_N La) (go_N P) (go_N Lp) (go_B E) (go_B D) (go_B W) (go_N T) (go_B (go_rU U C x i)) (go_N C) := by
  intro n
  induction n with
  | zero => intro i _ hn; exact absurd hn (by omega)
  | succ n ih =>
    intro i hi hn
    refine pk_le 64 i (fun h => ?_) (fun h => ?_)
    · have e : i = 64 := by omega
      rw [e]; exact hp
    · have hv : vp_in (nI i) 64 := vp_in_nI h (by omega)
      have w := ih (i + 1) (by omega) (by omega)
      have hc := (S i).1
      have r1 := go_rN (e := nI i) C i rfl (by omega)
      have e1 : (go_N C (nI i).toNatClampNeg >>> ((20 : Int32) &&& 31)) &&& 15 = nI (C i / 2 ^ 20 % 2 ^ 4) := by rw [r1]; exact go_d20 hc
      have e2 : (go_N C (nI i).toNatClampNeg >>> ((16 : Int32) &&& 31)) &&& 15 = nI (C i / 2 ^ 16 % 2 ^ 4) := by rw [r1]; exact go_d16 hc
      cases hU : U i with
      | false =>
        rw [← go_rUb (Or.inr hU)] at w
        exact ⟨hv, nm_r e1 ⟨hv, nm_r e2 ⟨hv, br_t (go_bz _ i ((go_rUi U C x i).trans hU)) (nm_r (nI_1 i) w)⟩⟩⟩
      | true =>
        have s1 : ∀ (q : C i / 2 ^ 20 % 2 ^ 4 = x ∨ C i / 2 ^ 16 % 2 ^ 4 = x), upd (go_B (go_rU U C x i)) (nI i).toNatClampNeg (vp_nar .boolean 0) = go_B (go_rU U C x (i + 1)) := fun q => by rw [go_uB _ i false go_vf, go_rUa (Or.inl q)]
        refine ⟨hv, nm_r e1 ⟨hv, nm_r e2 ⟨hv, br_f (go_bn _ i ((go_rUi U C x i).trans hU)) (pk_eq (C i / 2 ^ 20 % 2 ^ 4) x (fun q => ⟨hv, nm_r (s1 (Or.inl q)) (nm_r (nI_1 i) w)⟩) (fun q1 => pk_eq (C i / 2 ^ 16 % 2 ^ 4) x (fun q => ⟨hv, nm_r (s1 (Or.inr q)) (nm_r (nI_1 i) w)⟩) (fun q2 => nm_r (nI_1 i) ?_)))⟩⟩⟩
        rw [← go_rUb (Or.inl (fun z => z.elim q1 q2))] at w
        exact w
theorem go_zC {x b : Nat} (hx : x < 16) (hb : b < 16) (post : Int32 → SY → Prop) (J : Int32 → (Nat → Int32) → (Nat → Int32) → (Nat → Int32) → (Nat → Int32) → (Nat → Int32) → (Nat → Int32) → (Nat → Int32) → (Nat → Int32) → (Nat → Int32) → (Nat → Int32) → (Nat → Int32) → Prop) (hJ : J (nI (b + 1)) (go_B al) (go_N A) (go_N La) (go_N P) (go_N Lp) (go_B E) (go_B D) (go_B (go_z W false ((x * 16 + b) * 16) ((x * 16 + b) * 16 + 16))) (go_N T) (go_B U) (go_N C)) : ∀ n p, p ≤ 16 → 16 - p < n → wY_crash_74 post J (nI x) (nI b) (nI nn) (nI ac) (nI pc) (nI tm) (nI lo) (nI md) n (nI p) (go_B al) (go_N A) (go_N La) (go_N P) (go_N Lp) (go_B E) (go_B D) (go_B (go_z W false ((x * 16 + b) * 16) ((x * 16 + b) * 16 + p))) (go_N T) (go_B U) (go_N C) := by
  intro n
  induction n with
  | zero => intro i _ hn; exact absurd hn (by omega)
  | succ n ih =>
    intro p hp hn
    refine pk_le 16 p (fun h => nm_r (nI_1 b) ?_) (fun h => ⟨pk_in ((x * 16 + b) * 16 + p) 4096 (by omega) (go_ix256 x b p), nm_r ((go_uB _ ((x * 16 + b) * 16 + p) false go_vf (go_ix256 x b p)).trans (congrArg go_B (go_zs W false (by omega)))) (nm_r (nI_1 p) (ih (p + 1) (by omega) (by omega)))⟩)
    have e : p = 16 := by omega
    rw [e]; exact hJ
theorem go_cl42 {x : Nat} (hx : x < 16) (post : Int32 → SY → Prop) (hp : ∃ n112 : Nat, wY_crash_112 post (nI x) (nI nn) (nI ac) (nI pc) (nI tm) (nI lo) (nI md) n112 0 (go_B al) (go_N A) (go_N La) (go_N P) (go_N Lp) (go_B (go_z E false (x * 16) (x * 16 + 16))) (go_B D) (go_B (go_oW W x (nI 65535) 16)) (go_N (go_ov T 0 x (nI 65535) 16)) (go_B U) (go_N C)) : ∀ n b, b ≤ 16 → 16 - b < n → wY_crash_42 post (nI x) (nI nn) (nI ac) (nI pc) (nI tm) (nI lo) (nI md) n (nI b) (go_B al) (go_N A) (go_N La) (go_N P) (go_N Lp) (go_B (go_z E false (x * 16) (x * 16 + b))) (go_B D) (go_B (go_oW W x (nI 65535) b)) (go_N (go_ov T 0 x (nI 65535) b)) (go_B U) (go_N C) := by
  intro n
  induction n with
  | zero => intro i _ hn; exact absurd hn (by omega)
  | succ n ih =>
    intro b hb hn
    refine pk_le 16 b (fun h => ?_) (fun h => ⟨pk_in (x * 16 + b) 256 (by omega) (go_ix16 x b), nm_r ((go_uB _ (x * 16 + b) false go_vf (go_ix16 x b)).trans (congrArg go_B (go_zs E false (by omega)))) ⟨pk_in (x * 16 + b) 256 (by omega) (go_ix16 x b), nm_r ((go_uN _ (x * 16 + b) 0 rfl (go_ix16 x b)).trans (congrArg go_N (go_ovt T 0 x (go_bt1 h)))) ⟨17, ?_⟩⟩⟩)
    · have e : b = 16 := by omega
      rw [e]; exact hp
    · have w := ih (b + 1) (by omega) (by omega)
      rw [← go_oWt W x (go_bt1 h)] at w
      have q := go_zC nn ac pc tm md lo al A La P Lp (go_z E false (x * 16) (x * 16 + b + 1)) D (go_oW W x (nI 65535) b) (go_ov T 0 x (nI 65535) (b + 1)) U C hx h post _ w 17 0 (by omega) (by omega)
      rw [show (x * 16 + b) * 16 + 0 = (x * 16 + b) * 16 from rfl, go_z0] at q
      exact q
end
section
variable (nn ac pc tm md : Nat) (al : Nat → Bool) (D W : Nat → Bool) (T : Nat → Nat)
theorem go_crl {x : Nat} (hn : nn ≤ 16) (hac : 2 ≤ ac ∧ ac ≤ 4) (hpc : 1 ≤ pc ∧ pc ≤ 8) (hT : ∀ j, T j ≤ 8) (hx : x < 16) : ∀ d i (lo : Nat) (A La P Lp : Nat → Nat) (E : Nat → Bool) (U : Nat → Bool) (C : Nat → Nat), i + d = nn → go_Z ac pc A La P Lp E T U C → lo + d < 2 ^ 31 → ∃ (A' La' P' Lp' : Nat → Nat) (E' : Nat → Bool) (U' : Nat → Bool) (C' : Nat → Nat) (lo' : Nat), go_Z ac pc A' La' P' Lp' E' T U' C' ∧ lo' ≤ lo + d ∧ (∀ post : Int32 → SX → Prop, post 1 (nI nn, nI ac, nI pc, nI tm, nI md, nI lo', go_B al, go_N A', go_N La', go_N P', go_N Lp', go_M E', go_M D, go_M W, go_N T, go_S U' C') → wX_crash_29 post (nI x) (d + 1) (nI i) (nI nn) (nI ac) (nI pc) (nI tm) (nI md) (nI lo) (go_B al) (go_N A) (go_N La) (go_N P) (go_N Lp) (go_M E) (go_M D) (go_M W) (go_N T) (go_S U C)) ∧ (∀ post : Int32 → SY → Prop, post 1 (nI nn, nI ac, nI pc, nI tm, nI lo', nI md, go_B al, go_N A', go_N La', go_N P', go_N Lp', go_B E', go_B D, go_B W, go_N T, go_B U', go_N C') → wY_crash_180 post (nI x) (d + 1) (nI i) (nI nn) (nI ac) (nI pc) (nI tm) (nI lo) (nI md) (go_B al) (go_N A) (go_N La) (go_N P) (go_N Lp) (go_B E) (go_B D) (go_B W) (go_N T) (go_B U) (go_N C)) := by
  intro d
  induction d with
  | zero =>
    intro i lo A La P Lp E U C hi Z hl
    exact ⟨A, La, P, Lp, E, U, C, lo, Z, by omega, fun post hp => br_t (nI_le (by omega) (by omega)) hp, fun post hp => br_t (nI_le (by omega) (by omega)) hp⟩
  | succ d ih =>
    intro i lo A La P Lp E U C hi Z hl
    have Z0 := Z
    obtain ⟨IA, JE, I, _, S⟩ := Z
    have hi16 : i < 16 := by omega
    have hla := IA.2.1 i
    have hne : ¬ nI nn ≤ nI i := nI_ge (by omega) (by omega)
    have hv : vp_in (nI i) 16 := vp_in_nI hi16 (by omega)
    cases hal : al i with
    | false =>
      obtain ⟨A', La', P', Lp', E', U', C', lo', Z', hl', hX, hY⟩ := ih (i + 1) lo A La P Lp E U C (by omega) Z0 (by omega)
      exact ⟨A', La', P', Lp', E', U', C', lo', Z', by omega, fun post hp => br_f hne ⟨hv, br_t (go_bz al i hal) (nm_r (nI_1 i) (hX post hp))⟩, fun post hp => br_f hne ⟨hv, br_t (go_bz al i hal) (nm_r (nI_1 i) (hY post hp))⟩⟩
    | true =>
      rcases go_first (fun j => A (i * 4 + j) = x) (La i) with hA | ⟨j, hj, hAj, hAb⟩
      · obtain ⟨A', La', P', Lp', E', U', C', lo', Z', hl', hX, hY⟩ := ih (i + 1) lo A La P Lp E U C (by omega) Z0 (by omega)
        exact ⟨A', La', P', Lp', E', U', C', lo', Z', by omega, fun post hp => br_f hne ⟨hv, br_f (go_bn al i hal) (go_rX04 nn ac pc tm md lo al A La P Lp E D W T U C hac.2 IA JE hi16 hx hA _ (br_t rfl (nm_r (nI_1 i) (hX post hp))))⟩, fun post hp => br_f hne ⟨hv, br_f (go_bn al i hal) (go_ps4 nn ac pc tm md lo al A La P Lp E D W T U C IA.1 (by omega) hi16 hx hA _ (br_t (by decide) (nm_r (nI_1 i) (hY post hp))))⟩⟩
      · have I2 := go_rm4 hac.2 IA hj
        have J2 := go_rmE hac.2 IA JE hj hAj
        obtain ⟨P1, Lp1, U1, C1, lo1, I1, S1, hl1, hX1, hY1⟩ := go_repair nn ac pc tm md lo al (go_sh A (i * 4 + j) (i * 4 + (La i - 1))) (go_up La i (La i - 1)) P Lp (go_up E (i * 16 + x) false) D W T U C hac (I2.2.1 i) hpc I S (by omega) hi16
        obtain ⟨A', La', P', Lp', E', U', C', lo', Z', hl', hX, hY⟩ := ih (i + 1) lo1 _ _ P1 Lp1 _ U1 C1 (by omega) ⟨I2, J2, I1, hT, S1⟩ (by omega)
        exact ⟨A', La', P', Lp', E', U', C', lo', Z', by omega, fun post hp => br_f hne ⟨hv, br_f (go_bn al i hal) (go_rX14 nn ac pc tm md lo al A La P Lp E D W T U C hac.2 IA hi16 hx hj hAj _ (br_f (by decide) (hX1 _ (nm_r (nI_1 i) (hX post hp)))))⟩, fun post hp => br_f hne ⟨hv, br_f (go_bn al i hal) (go_psy4 nn ac pc tm md lo al A La P Lp E D W T U C IA.1 (by omega) hi16 hx hj hAj hAb _ (br_f (nI_pos (by omega)) (go_rY14 nn ac pc tm md lo al A La P Lp E D W T U C hac.2 IA hi16 hx hj hAj hAb _ (hY1 _ (nm_r (nI_1 i) (hY post hp))))))⟩⟩
end
section
variable (nn ac pc tm md lo : Nat) (al : Nat → Bool) (A La P Lp : Nat → Nat) (E D W : Nat → Bool) (T : Nat → Nat) (U : Nat → Bool) (C : Nat → Nat)
theorem go_ndX {j : Nat} (hn : nn ≤ 16) (hj : j < nn) (post : Int32 → Prop) (hp : post 1) : wpX_isNode post (nI nn, nI ac, nI pc, nI tm, nI md, nI lo, go_B al, go_N A, go_N La, go_N P, go_N Lp, go_M E, go_M D, go_M W, go_N T, go_S U C) (nI j) := br_f (nI_pos (by omega)) (br_f (nI_ge hj (by omega)) hp)
theorem go_ndX0 {v : Int32} (hv : v < 0 ∨ nI nn ≤ v) (post : Int32 → Prop) (hp : post 0) : wpX_isNode post (nI nn, nI ac, nI pc, nI tm, nI md, nI lo, go_B al, go_N A, go_N La, go_N P, go_N Lp, go_M E, go_M D, go_M W, go_N T, go_S U C) v := br_c (fun _ => hp) (fun q => br_t (hv.resolve_left q) hp)
theorem go_ndY {j : Nat} (hn : nn ≤ 16) (hj : j < nn) (post : Int32 → Prop) (hp : post 1) : wpY_valid post (nI nn, nI ac, nI pc, nI tm, nI lo, nI md, go_B al, go_N A, go_N La, go_N P, go_N Lp, go_B E, go_B D, go_B W, go_N T, go_B U, go_N C) (nI j) := br_f (nI_pos (by omega)) (br_f (nI_ge hj (by omega)) hp)
theorem go_ndY0 {v : Int32} (hv : v < 0 ∨ nI nn ≤ v) (post : Int32 → Prop) (hp : post 0) : wpY_valid post (nI nn, nI ac, nI pc, nI tm, nI lo, nI md, go_B al, go_N A, go_N La, go_N P, go_N Lp, go_B E, go_B D, go_B W, go_N T, go_B U, go_N C) v := br_c (fun _ => hp) (fun q => br_t (hv.resolve_left q) hp)
theorem go_alX {j : Nat} (hn : nn ≤ 16) (hj : j < nn) (ha : al j = true) (post : Int32 → Prop) (hp : post 1) : wpX_isAlive post (nI nn, nI ac, nI pc, nI tm, nI md, nI lo, go_B al, go_N A, go_N La, go_N P, go_N Lp, go_M E, go_M D, go_M W, go_N T, go_S U C) (nI j) := by
  unfold wpX_isAlive
  exact go_ndX nn ac pc tm md lo al A La P Lp E D W T U C hn hj _ (br_f (by decide) ⟨vp_in_nI (by omega) (by omega), br_f (go_bn al j ha) hp⟩)
theorem go_alX0 {v : Int32} (hn : nn ≤ 16) (hv : (v < 0 ∨ nI nn ≤ v) ∨ ∃ j, j < nn ∧ v = nI j ∧ al j = false) (post : Int32 → Prop) (hp : post 0) : wpX_isAlive post (nI nn, nI ac, nI pc, nI tm, nI md, nI lo, go_B al, go_N A, go_N La, go_N P, go_N Lp, go_M E, go_M D, go_M W, go_N T, go_S U C) v := by
  unfold wpX_isAlive
  rcases hv with hv | ⟨j, hj, e, ha⟩
  · exact go_ndX0 nn ac pc tm md lo al A La P Lp E D W T U C hv _ (br_t rfl hp)
  · rw [e]
    exact go_ndX nn ac pc tm md lo al A La P Lp E D W T U C hn hj _ (br_f (by decide) ⟨vp_in_nI (by omega) (by omega), br_t (go_bz al j ha) hp⟩)
theorem go_crash {x : Nat} (hn : 2 ≤ nn ∧ nn ≤ 16) (hac : 2 ≤ ac ∧ ac ≤ 4) (hpc : 1 ≤ pc ∧ pc ≤ 8) (Z : go_Z ac pc A La P Lp E T U C) (hl : lo + 20 < 2 ^ 31) (hx : x < nn) (hal : al x = true) : ∃ (A' La' P' Lp' : Nat → Nat) (E' D' W' : Nat → Bool) (T' : Nat → Nat) (U' : Nat → Bool) (C' : Nat → Nat) (lo' : Nat), go_Z ac pc A' La' P' Lp' E' T' U' C' ∧ lo' ≤ lo + 20 ∧ (∀ post : Int32 → SX → Prop, post 1 (nI nn, nI ac, nI pc, nI tm, nI md, nI lo', go_B (go_up al x false), go_N A', go_N La', go_N P', go_N Lp', go_M E', go_M D', go_M W', go_N T', go_S U' C') → wpX_crash post (nI nn, nI ac, nI pc, nI tm, nI md, nI lo, go_B al, go_N A, go_N La, go_N P, go_N Lp, go_M E, go_M D, go_M W, go_N T, go_S U C) (nI x)) ∧ (∀ post : Int32 → SY → Prop, post 1 (nI nn, nI ac, nI pc, nI tm, nI lo', nI md, go_B (go_up al x false), go_N A', go_N La', go_N P', go_N Lp', go_B E', go_B D', go_B W', go_N T', go_B U', go_N C') → wpY_crash post (nI nn, nI ac, nI pc, nI tm, nI lo, nI md, go_B al, go_N A, go_N La, go_N P, go_N Lp, go_B E, go_B D, go_B W, go_N T, go_B U, go_N C) (nI x)) := by
  obtain ⟨IA, JE, I, hT, S⟩ := Z
  have hx16 : x < 16 := by omega
  have hT' : ∀ j, go_ov T 0 x (nI 65535) 16 j ≤ 8 := by
    intro j
    unfold go_ov
    split
    · omega
    · exact hT j
  have hv : vp_in (nI x) 16 := vp_in_nI hx16 (by omega)
  obtain ⟨A', La', P', Lp', E', U', C', lo', Z', hl', hX, hY⟩ := go_crl nn ac pc tm md (go_up al x false) D (go_oW W x (nI 65535) 16) (go_ov T 0 x (nI 65535) 16) (x := x) hn.2 hac hpc hT' hx16 nn 0 lo A (go_up La x 0) P (go_up Lp x 0) (go_z E false (x * 16) (x * 16 + 16)) (go_rU U C x 64) C (by omega) ⟨go_cl4 IA x, go_Erow JE x, go_cl8 I x, hT', go_rUS S x 64⟩ (by omega)
  refine ⟨A', La', P', Lp', E', D, go_oW W x (nI 65535) 16, go_ov T 0 x (nI 65535) 16, U', C', lo', Z', by omega, fun post hp => ?_, fun post hp => ?_⟩
  · unfold wpX_crash
    refine go_alX nn ac pc tm md lo al A La P Lp E D W T U C hn.2 hx hal _ (br_f (by decide) ⟨hv, nm_r (go_uB al x false go_vf) (go_fpX nn ac pc tm md lo (go_up al x false) A La P Lp E D W T U C hx16 _ ⟨65, ?_⟩)⟩)
    have w : ∀ Q : SX → Prop, Q (nI nn, nI ac, nI pc, nI tm, nI md, nI lo, go_B (go_up al x false), go_N A, go_N (go_up La x 0), go_N P, go_N (go_up Lp x 0), go_M (go_z E false (x * 16) (x * 16 + 16)), go_M D, go_M (go_oW W x (nI 65535) 16), go_N (go_ov T 0 x (nI 65535) 16), go_S (go_rU U C x 64) C) → wX_removeMessagesOf_2 Q (nI x) (nI nn) (nI ac) (nI pc) (nI tm) (nI md) (nI lo) 65 (nI 0) (go_B (go_up al x false)) (go_N A) (go_N (go_up La x 0)) (go_N P) (go_N (go_up Lp x 0)) (go_M (go_z E false (x * 16) (x * 16 + 16))) (go_M D) (go_M (go_oW W x (nI 65535) 16)) (go_N (go_ov T 0 x (nI 65535) 16)) (go_S U C) := by
      intro Q hQ
      have w := go_rmX nn ac pc tm md lo (go_up al x false) A (go_up La x 0) P (go_up Lp x 0) (go_z E false (x * 16) (x * 16 + 16)) D (go_oW W x (nI 65535) 16) (go_ov T 0 x (nI 65535) 16) U C S hx16 Q hQ 65 0 (by omega) (by omega)
      rw [go_rU0] at w
      exact w
    exact w _ ⟨_, hX post hp⟩
  · unfold wpY_crash
    refine go_ndY nn ac pc tm md lo al A La P Lp E D W T U C hn.2 hx _ (br_f (by decide) ⟨hv, br_f (go_bn al x hal) ⟨hv, nm_r (go_uB al x false go_vf) ⟨hv, nm_r (go_uN La x 0 rfl) ⟨hv, nm_r (go_uN Lp x 0 rfl) ⟨17, ?_⟩⟩⟩⟩⟩)
    have w2 := go_rmY nn ac pc tm md lo (go_up al x false) A (go_up La x 0) P (go_up Lp x 0) (go_z E false (x * 16) (x * 16 + 16)) D (go_oW W x (nI 65535) 16) (go_ov T 0 x (nI 65535) 16) U C S hx16 post ⟨_, hY post hp⟩ 65 0 (by omega) (by omega)
    rw [go_rU0] at w2
    have w := go_cl42 nn ac pc tm md lo (go_up al x false) A (go_up La x 0) P (go_up Lp x 0) E D W T U C hx16 post ⟨_, w2⟩ 17 0 (by omega) (by omega)
    rw [show x * 16 + 0 = x * 16 from rfl, go_z0, go_ov0, go_oW0] at w
    exact w
end
