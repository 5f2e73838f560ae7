theorem go_clX (p : Int32) (l h : Nat) (hlh : l ≤ h) (hh : h < 2 ^ 31) : ∃ r, l ≤ r ∧ r ≤ h ∧ (∀ Q : Int32 → Prop, Q (nI r) → wpX_clamp Q p (nI l) (nI h)) ∧ (∀ Q : Int32 → Prop, Q (nI r) → ((nI l ≤ p → ((p ≤ nI h → Q p) ∧ (¬ p ≤ nI h → Q (nI h)))) ∧ (¬ nI l ≤ p → Q (nI l)))) := by
  by_cases h1 : nI l ≤ p
  · have h0 : ¬ p < 0 := by
      intro q
      have e1 := Int32.le_iff_toInt_le.mp h1
      have e2 := Int32.lt_iff_toInt_lt.mp q
      rw [nI_toInt (by omega)] at e1
      have e3 : (0 : Int32).toInt = 0 := by decide
      omega
    obtain ⟨r, hr, e⟩ := nI_of h0
    subst e
    have h2 := (nI_leI (by omega) hr).mp h1
    by_cases h3 : nI r ≤ nI h
    · have h4 := (nI_leI hr hh).mp h3
      exact ⟨r, h2, h4, fun Q hQ => br_t h1 (br_t h3 hQ), fun Q hQ => br_t h1 (br_t h3 hQ)⟩
    · exact ⟨h, hlh, by omega, fun Q hQ => br_t h1 (br_f h3 hQ), fun Q hQ => br_t h1 (br_f h3 hQ)⟩
  · exact ⟨l, by omega, hlh, fun Q hQ => br_f h1 hQ, fun Q hQ => br_f h1 hQ⟩
section
variable (nn ac pc tm md lo : Nat) (al : Nat → Bool) (A La P Lp : Nat → Nat) (E D W : Nat → Bool) (T : Nat → Nat) (U : Nat → Bool) (C : Nat → Nat)
theorem go_iX (hn : nn ≤ 16) (post : SX → Prop) (hp : post (nI nn, nI ac, nI pc, nI tm, nI md, nI lo, go_B (fun j => decide (j < nn)), go_N A, go_N La, go_N P, go_N Lp, go_M E, go_M D, go_M W, go_N T, go_S U C)) : ∀ n i, i ≤ 16 → 16 - i < n → wX_init_144 post (nI nn) (nI ac) (nI pc) (nI tm) (nI md) (nI lo) n (nI i) (go_B (fun j => decide (j < i ∧ j < nn))) (go_N A) (go_N La) (go_N P) (go_N Lp) (go_M E) (go_M D) (go_M W) (go_N T) (go_S U C) := by
  intro n
  induction n with
  | zero => intro i _ hn; exact absurd hn (by omega)
  | succ n ih =>
    intro i hi hn'
    have w := ih (i + 1)
    refine pk_le 16 i (fun h => ?_) (fun h => pk_le nn i (fun h2 => ⟨vp_in_nI h (by omega), nm_r (go_uB _ i false go_vf) (nm_r (nI_1 i) ?_)⟩) (fun h2 => ⟨vp_in_nI h (by omega), nm_r (go_uB _ i true go_vt) (nm_r (nI_1 i) ?_)⟩))
    · have e : (fun j => decide (j < i ∧ j < nn)) = fun j => decide (j < nn) := funext fun j => decide_eq_decide.mpr (by omega)
      rw [e]; exact hp
    · have e : go_up (fun j => decide (j < i ∧ j < nn)) i false = fun j => decide (j < i + 1 ∧ j < nn) := by
        funext j
        unfold go_up
        by_cases q : j = i
        · rw [if_pos q]; exact (decide_eq_false (by omega)).symm
        · rw [if_neg q]; exact decide_eq_decide.mpr (by omega)
      rw [e]; exact w (by omega) (by omega)
    · have e : go_up (fun j => decide (j < i ∧ j < nn)) i true = fun j => decide (j < i + 1 ∧ j < nn) := by
        funext j
        unfold go_up
        by_cases q : j = i
        · rw [if_pos q]; exact (decide_eq_true (by omega)).symm
        · rw [if_neg q]; exact decide_eq_decide.mpr (by omega)
      rw [e]; exact w (by omega) (by omega)
theorem go_iY (hn : nn ≤ 16) (post : SY → Prop) (hp : post (nI nn, nI ac, nI pc, nI tm, nI lo, nI md, go_B (fun j => decide (j < nn)), go_N A, go_N La, go_N P, go_N Lp, go_B E, go_B D, go_B W, go_N T, go_B U, go_N C)) : ∀ n i, i ≤ nn → nn - i < n → wY_init_201 post (nI nn) (nI ac) (nI pc) (nI tm) (nI lo) (nI md) n (nI i) (go_B (fun j => decide (j < i))) (go_N A) (go_N La) (go_N P) (go_N Lp) (go_B E) (go_B D) (go_B W) (go_N T) (go_B U) (go_N C) := by
  intro n
  induction n with
  | zero => intro i _ hn; exact absurd hn (by omega)
  | succ n ih =>
    intro i hi hn'
    have w := ih (i + 1)
    refine pk_le nn i (fun h => ?_) (fun h => ⟨vp_in_nI (by omega) (by omega), nm_r (go_uB _ i true go_vt) (nm_r (nI_1 i) ?_)⟩)
    · rw [show i = nn by omega]; exact hp
    · have e : go_up (fun j => decide (j < i)) i true = fun j => decide (j < i + 1) := by
        funext j
        unfold go_up
        by_cases q : j = i
        · rw [if_pos q]; exact (decide_eq_true (by omega)).symm
        · rw [if_neg q]; exact decide_eq_decide.mpr (by omega)
      rw [e]; exact w (by omega) (by omega)
theorem go_s80 {x q lo2 : Nat} {U2 : Nat → Bool} {C2 : Nat → Nat} {b1 : Int32} (hL : Lp x ≤ 8) (hx : x < 16) (post : Int32 → SY → Prop) (hs : ∀ Q : SY → Prop, Q (nI nn, nI ac, nI pc, nI tm, nI lo2, nI md, go_B al, go_N A, go_N La, go_N P, go_N Lp, go_B E, go_B D, go_B W, go_N T, go_B U2, go_N C2) → wpY_send Q (nI nn, nI ac, nI pc, nI tm, nI lo, nI md, go_B al, go_N A, go_N La, go_N P, go_N Lp, go_B E, go_B D, go_B W, go_N T, go_B U, go_N C) (nI x) (nI q) 7 ((b1 ||| go_w P (x * 8) (Lp x)) &&& (((1 : Int32) <<< (nI q &&& 31)) ^^^ (-1)))) (hp : post 1 (nI nn, nI ac, nI pc, nI tm, nI lo2, nI md, go_B al, go_N A, go_N La, go_N P, go_N Lp, go_B E, go_B D, go_B W, go_N T, go_B U2, go_N C2)) : ∀ n i, i ≤ Lp x → Lp x - i < n → wY_shuffle_80 post (nI x) (nI q) (nI nn) (nI ac) (nI pc) (nI tm) (nI lo) (nI md) (go_B al) (go_N A) (go_N La) (go_N P) (go_N Lp) (go_B E) (go_B D) (go_B W) (go_N T) (go_B U) (go_N C) n (b1 ||| go_w P (x * 8) i) (nI i) := by
  intro n
  induction n with
  | zero => intro i _ hn; exact absurd hn (by omega)
  | succ n ih =>
    intro i hi hn
    refine ⟨vp_in_nI hx (by omega), pk_le (Lp x) i (fun h => ?_) (fun h => ⟨pk_in (x * 8 + i) 128 (by omega) (go_ix8 x i), nm_r (e' := b1 ||| go_w P (x * 8) (i + 1)) (by rw [go_rN P (x * 8 + i) (go_ix8 x i) (by omega), go_oa]; rfl) (nm_r (nI_1 i) (ih (i + 1) (by omega) (by omega)))⟩) (go_rN Lp x rfl (by omega)) rfl (by omega) (by omega)⟩
    have e : i = Lp x := by omega
    rw [e]
    exact nm_e (hs _ hp)
theorem go_s44 {x q : Nat} {b0 : Int32} (hL : La x ≤ 4) (hx : x < 16) (post : Int32 → SY → Prop) (hp : ∃ n80 : Nat, wY_shuffle_80 post (nI x) (nI q) (nI nn) (nI ac) (nI pc) (nI tm) (nI lo) (nI md) (go_B al) (go_N A) (go_N La) (go_N P) (go_N Lp) (go_B E) (go_B D) (go_B W) (go_N T) (go_B U) (go_N C) n80 (b0 ||| go_w A (x * 4) (La x)) 0) : ∀ n i, i ≤ La x → La x - i < n → wY_shuffle_44 post (nI x) (nI q) (nI nn) (nI ac) (nI pc) (nI tm) (nI lo) (nI md) (go_B al) (go_N A) (go_N La) (go_N P) (go_N Lp) (go_B E) (go_B D) (go_B W) (go_N T) (go_B U) (go_N C) n (b0 ||| go_w A (x * 4) i) (nI i) := by
  intro n
  induction n with
  | zero => intro i _ hn; exact absurd hn (by omega)
  | succ n ih =>
    intro i hi hn
    refine ⟨vp_in_nI hx (by omega), pk_le (La x) i (fun h => ?_) (fun h => ⟨pk_in (x * 4 + i) 64 (by omega) (go_ix4 x i), nm_r (e' := b0 ||| go_w A (x * 4) (i + 1)) (by rw [go_rN A (x * 4 + i) (go_ix4 x i) (by omega), go_oa]; rfl) (nm_r (nI_1 i) (ih (i + 1) (by omega) (by omega)))⟩) (go_rN La x rfl (by omega)) rfl (by omega) (by omega)⟩
    have e : i = La x := by omega
    rw [e]
    exact hp
theorem go_shuffle {x : Nat} (hn : 2 ≤ nn ∧ nn ≤ 16) (hac : 2 ≤ ac ∧ ac ≤ 4) (hpc : 1 ≤ pc ∧ pc ≤ 8) (Z : go_Z ac pc A La P Lp E T U C) (hl : lo + 10 < 2 ^ 31) (hx : x < nn) (hal : al x = true) (hne : La x ≠ 0) : ∃ (U' : Nat → Bool) (C' : Nat → Nat) (lo' : Nat), go_IS U' C' ∧ lo' ≤ lo + 10 ∧ (∀ post : Int32 → SX → Prop, post 1 (nI nn, nI ac, nI pc, nI tm, nI md, nI lo', go_B al, go_N A, go_N La, go_N P, go_N Lp, go_M E, go_M D, go_M W, go_N T, go_S U' C') → wpX_shuffle post (nI nn, nI ac, nI pc, nI tm, nI md, nI lo, go_B al, go_N A, go_N La, go_N P, go_N Lp, go_M E, go_M D, go_M W, go_N T, go_S U C) (nI x)) ∧ (∀ post : Int32 → SY → Prop, post 1 (nI nn, nI ac, nI pc, nI tm, nI lo', nI md, go_B al, go_N A, go_N La, go_N P, go_N Lp, go_B E, go_B D, go_B W, go_N T, go_B U', go_N C') → wpY_shuffle post (nI nn, nI ac, nI pc, nI tm, nI lo, nI md, go_B al, go_N A, go_N La, go_N P, go_N Lp, go_B E, go_B D, go_B W, go_N T, go_B U, go_N C) (nI x)) := by
  obtain ⟨IA, JE, I, hT, S⟩ := Z
  have hx16 : x < 16 := by omega
  have hla := IA.2.1 x
  have hlp := I.2.1 x
  have hv : vp_in (nI x) 16 := vp_in_nI hx16 (by omega)
  have hq : A (x * 4 + 0) < 16 := IA.1 _
  have c2 : nI x * 4 = nI (x * 4) := pk_mul x 4
  have c3 : go_N A (nI x * 4).toNatClampNeg = nI (A (x * 4 + 0)) := go_rN A (x * 4) c2 (by omega)
  have z : ¬ go_N La (nI x).toNatClampNeg = 0 := by rw [go_rN La x rfl (by omega)]; exact nI_ne0 (by omega) (by omega)
  have eo : (go_w A (x * 4) (La x) ||| go_w P (x * 8) (Lp x)) ||| ((1 : Int32) <<< (nI x &&& 31)) = (((1 : Int32) <<< (nI x &&& 31)) ||| go_w A (x * 4) (La x)) ||| go_w P (x * 8) (Lp x) := by
    rw [go_oc, go_oa]
  obtain ⟨m, hm, em⟩ := go_16 (x := ((go_w A (x * 4) (La x) ||| go_w P (x * 8) (Lp x)) ||| ((1 : Int32) <<< (nI x &&& 31))) &&& (((1 : Int32) <<< (nI (A (x * 4 + 0)) &&& 31)) ^^^ (-1))) (fun i h1 h2 => by
    rw [b_and, b_or, b_or, go_w16 IA.1 _ _ i h1 h2, go_w16 I.1 _ _ i h1 h2, go_1b x (by omega) h2, decide_eq_false (by omega)]
    rfl)
  obtain ⟨U', C', lo', S', hl', hX, hY⟩ := go_send nn ac pc tm md lo al A La P Lp E D W T U C (k := 7) S (by omega) hx16 hq (by omega) (by omega) hm
  rw [← em] at hX hY
  rw [eo] at hY
  refine ⟨U', C', lo', S', by omega, fun post hp => ?_, fun post hp => ?_⟩
  · unfold wpX_shuffle
    exact go_alX nn ac pc tm md lo al A La P Lp E D W T U C hn.2 hx hal _ (br_f (by decide) ⟨hv, br_f z ⟨pk_in (x * 4) 64 (by omega) c2, nm_r c3 ⟨La x + 1, go_amX nn ac pc tm md lo al A La P Lp E D W T U C IA.1 (by omega) hx16 _ ⟨Lp x + 1, go_pmX nn ac pc tm md lo al A La P Lp E D W T U C I.1 (by omega) hx16 _ (fun z ez => by subst ez; exact hX _ hp) _ 0 (by omega) (by omega)⟩ _ 0 (by omega) (by omega)⟩⟩⟩)
  · unfold wpY_shuffle
    refine go_ndY nn ac pc tm md lo al A La P Lp E D W T U C hn.2 hx _ (br_f (by decide) ⟨hv, br_f (go_bn al x hal) ⟨hv, br_f z ⟨pk_in (x * 4) 64 (by omega) c2, nm_r c3 (nm_e ⟨La x + 1, ?_⟩)⟩⟩⟩)
    have w := go_s80 nn ac pc tm md lo al A La P Lp E D W T U C (q := A (x * 4 + 0)) (by omega) hx16 post hY hp (Lp x + 1) 0 (by omega) (by omega)
    have e0 : ∀ y : Int32, y ||| go_w P (x * 8) 0 = y := go_zo
    rw [e0] at w
    have w2 := go_s44 nn ac pc tm md lo al A La P Lp E D W T U C (q := A (x * 4 + 0)) (b0 := (1 : Int32) <<< (nI x &&& 31)) (by omega) hx16 post ⟨_, w⟩ (La x + 1) 0 (by omega) (by omega)
    have e1 : ∀ y : Int32, y ||| go_w A (x * 4) 0 = y := go_zo
    rw [e1] at w2
    exact w2
theorem go_pd (S : go_IS U C) : ∀ d i cnt, i + d = 64 → ∃ r : Int32, (∀ post : Int32 → Prop, post r → wX_pending_4 post (nI nn) (nI ac) (nI pc) (nI tm) (nI md) (nI lo) (go_B al) (go_N A) (go_N La) (go_N P) (go_N Lp) (go_M E) (go_M D) (go_M W) (go_N T) (go_S U C) (d + 1) (nI cnt) (nI i)) ∧ (∀ post : Int32 → Prop, post r → wY_pending_4 post (nI nn) (nI ac) (nI pc) (nI tm) (nI lo) (nI md) (go_B al) (go_N A) (go_N La) (go_N P) (go_N Lp) (go_B E) (go_B D) (go_B W) (go_N T) (go_B U) (go_N C) (d + 1) (nI cnt) (nI i)) := by
  intro d
  induction d with
  | zero =>
    intro i cnt hi
    exact ⟨nI cnt, fun post hp => br_t (nI_le (a := 64) (by omega) (by omega)) hp, fun post hp => br_t (nI_le (a := 64) (by omega) (by omega)) hp⟩
  | succ d ih =>
    intro i cnt hi
    have hne : ¬ (64 : Int32) ≤ nI i := nI_ge (b := 64) (by omega) (by omega)
    have hv : vp_in (nI i) 64 := vp_in_nI (by omega) (by omega)
    cases hU : U i with
    | false =>
      obtain ⟨r, hX, hY⟩ := ih (i + 1) cnt (by omega)
      exact ⟨r, fun post hp => br_f hne ⟨hv, br_t ((go_S0 S i).mpr hU) (nm_r (nI_1 i) (hX post hp))⟩, fun post hp => br_f hne ⟨hv, br_t (go_bz U i hU) (nm_r (nI_1 i) (hY post hp))⟩⟩
    | true =>
      obtain ⟨r, hX, hY⟩ := ih (i + 1) (cnt + 1) (by omega)
      exact ⟨r, fun post hp => br_f hne ⟨hv, br_f (fun q => by rw [(go_S0 S i).mp q] at hU; exact absurd hU (by decide)) (nm_r (nI_1 cnt) (nm_r (nI_1 i) (hX post hp)))⟩, fun post hp => br_f hne ⟨hv, br_f (go_bn U i hU) (nm_r (nI_1 cnt) (nm_r (nI_1 i) (hY post hp)))⟩⟩
theorem go_gs {x b : Nat} (hx : x < 16) (hb : b < 16) (post : Int32 → Prop) (hp : post (go_M W (x * 16 + b) ||| (nI (T (x * 16 + b)) <<< ((16 : Int32) &&& 31)))) : ∀ n i, i ≤ 16 → 16 - i < n → wY_graftState_25 post (nI x) (nI b) (nI nn) (nI ac) (nI pc) (nI tm) (nI lo) (nI md) (go_B al) (go_N A) (go_N La) (go_N P) (go_N Lp) (go_B E) (go_B D) (go_B W) (go_N T) (go_B U) (go_N C) n (go_m (fun p => W ((x * 16 + b) * 16 + p)) i) (nI i) := by
  intro n
  induction n with
  | zero => intro i _ hn; exact absurd hn (by omega)
  | succ n ih =>
    intro i hi hn
    refine pk_le 16 i (fun h => ⟨pk_in (x * 16 + b) 256 (by omega) (go_ix16 x b), ?_⟩) (fun h => ⟨pk_in ((x * 16 + b) * 16 + i) 4096 (by omega) (go_ix256 x b i), go_brB W ((x * 16 + b) * 16 + i) (fun z => nm_r (nI_1 i) ?_) (fun z => nm_r (e' := go_m (fun p => W ((x * 16 + b) * 16 + p)) (i + 1)) ?_ (nm_r (nI_1 i) (ih (i + 1) (by omega) (by omega)))) (go_ix256 x b i)⟩)
    · rw [show i = 16 by omega, go_rN T (x * 16 + b) (go_ix16 x b) (by omega)]
      exact hp
    · have e : go_m (fun p => W ((x * 16 + b) * 16 + p)) (i + 1) = go_m (fun p => W ((x * 16 + b) * 16 + p)) i := by
        show cond (W ((x * 16 + b) * 16 + i)) _ _ = _
        rw [z]; rfl
      have w := ih (i + 1) (by omega) (by omega)
      rw [e] at w
      exact w
    · show _ = cond (W ((x * 16 + b) * 16 + i)) _ _
      rw [z]; rfl
end
