theorem go_low {m : Int32} {i0 : Nat} (h0 : i0 < 16) (hz : ∀ j, j < i0 → (m &&& ((1 : Int32) <<< (nI j &&& 31))) = 0) (hn : ¬ (m &&& ((1 : Int32) <<< (nI i0 &&& 31))) = 0) (post : Int32 → Prop) (hp : post (nI i0)) : ∀ n i, i ≤ i0 → i0 - i < n → wX_lowestNode_2 post m n (nI i) := by
  intro n
  induction n with
  | zero => intro i _ hn; exact absurd hn (by omega)
  | succ n ih =>
    intro i hi hn'
    refine pk_le 16 i (fun h => absurd h (by omega)) (fun h => ?_)
    by_cases e : i = i0
    · rw [e]; exact br_f hn hp
    · exact br_t (hz i (by omega)) (nm_r (nI_1 i) (ih (i + 1) (by omega) (by omega)))
section
variable (nn ac pc tm md lo : Nat) (al : Nat → Bool) (A La P Lp : Nat → Nat) (E D W : Nat → Bool) (T : Nat → Nat) (U : Nat → Bool) (C : Nat → Nat)
theorem go_108a {x b : Nat} (hx : x < 16) (hb : b < 16) (h : ∀ p, p < 16 → W ((x * 16 + b) * 16 + p) = false) (post : Int32 → SY → Prop) (hp : post 1 (nI nn, nI ac, nI pc, nI tm, nI lo, nI md, go_B al, go_N A, go_N La, go_N P, go_N Lp, go_B E, go_B D, go_B W, go_N T, go_B U, go_N C)) : ∀ n i, i ≤ 16 → 16 - i < n → wY_graftOne_108 post (nI x) (nI b) (nI nn) (nI ac) (nI pc) (nI tm) (nI lo) (nI md) (go_B al) (go_N A) (go_N La) (go_N P) (go_N Lp) (go_B E) (go_B D) (go_B W) (go_N T) (go_B U) (go_N C) n 0 (nI i) := by
  intro n
  induction n with
  | zero => intro i _ hn; exact absurd hn (by omega)
  | succ n ih =>
    intro i hi hn
    exact pk_le 16 i (fun _ => br_t rfl hp) (fun h2 => ⟨pk_in ((x * 16 + b) * 16 + i) 4096 (by omega) (go_ix256 x b i), br_t (go_bz W _ (h i h2) (go_ix256 x b i)) (nm_r (nI_1 i) (ih (i + 1) (by omega) (by omega)))⟩)
theorem go_108b {x b : Nat} (hx : x < 16) (hb : b < 16) (post : Int32 → SY → Prop) (hp : post 1 (nI nn, nI ac, nI pc, nI tm, nI lo, nI md, go_B al, go_N A, go_N La, go_N P, go_N Lp, go_B E, go_B D, go_B W, go_N (go_up T (x * 16 + b) tm), go_B U, go_N C)) : ∀ n i, i ≤ 16 → 16 - i < n → wY_graftOne_108 post (nI x) (nI b) (nI nn) (nI ac) (nI pc) (nI tm) (nI lo) (nI md) (go_B al) (go_N A) (go_N La) (go_N P) (go_N Lp) (go_B E) (go_B D) (go_B W) (go_N T) (go_B U) (go_N C) n 1 (nI i) := by
  intro n
  induction n with
  | zero => intro i _ hn; exact absurd hn (by omega)
  | succ n ih =>
    intro i hi hn
    exact pk_le 16 i (fun _ => br_f (by decide) ⟨pk_in (x * 16 + b) 256 (by omega) (go_ix16 x b), nm_r (go_uN T (x * 16 + b) tm rfl (go_ix16 x b)) hp⟩) (fun h2 => ⟨pk_in ((x * 16 + b) * 16 + i) 4096 (by omega) (go_ix256 x b i), br_c (fun _ => nm_r (nI_1 i) (ih (i + 1) (by omega) (by omega))) (fun _ => nm_r (nI_1 i) (ih (i + 1) (by omega) (by omega)))⟩)
theorem go_108c {x b j0 : Nat} (hx : x < 16) (hb : b < 16) (h0 : j0 < 16) (hj : W ((x * 16 + b) * 16 + j0) = true) (post : Int32 → SY → Prop) (hp : post 1 (nI nn, nI ac, nI pc, nI tm, nI lo, nI md, go_B al, go_N A, go_N La, go_N P, go_N Lp, go_B E, go_B D, go_B W, go_N (go_up T (x * 16 + b) tm), go_B U, go_N C)) : ∀ n i, i ≤ j0 → 16 - i < n → wY_graftOne_108 post (nI x) (nI b) (nI nn) (nI ac) (nI pc) (nI tm) (nI lo) (nI md) (go_B al) (go_N A) (go_N La) (go_N P) (go_N Lp) (go_B E) (go_B D) (go_B W) (go_N T) (go_B U) (go_N C) n 0 (nI i) := by
  intro n
  induction n with
  | zero => intro i _ hn; exact absurd hn (by omega)
  | succ n ih =>
    intro i hi hn
    refine pk_le 16 i (fun h2 => absurd h2 (by omega)) (fun h2 => ⟨pk_in ((x * 16 + b) * 16 + i) 4096 (by omega) (go_ix256 x b i), go_brB W ((x * 16 + b) * 16 + i) (fun z => nm_r (nI_1 i) ?_) (fun z => nm_r (nI_1 i) (go_108b nn ac pc tm md lo al A La P Lp E D W T U C hx hb post hp n (i + 1) (by omega) (by omega))) (go_ix256 x b i)⟩)
    have e : i ≠ j0 := fun q => by rw [q, hj] at z; exact absurd z (by decide)
    exact ih (i + 1) (by omega) (by omega)
theorem go_g5 {x b i0 : Nat} (hx : x < 16) (hb : b < 16) (h0 : i0 < 16) (hW : W ((x * 16 + b) * 16 + i0) = true) (hWb : ∀ j, j < i0 → W ((x * 16 + b) * 16 + j) = false) (post : Int32 → SY → Prop) (hp : wY_graftOne_46 post (nI x) (nI b) (nI i0) (nI nn) (nI ac) (nI pc) (nI tm) (nI lo) (nI md) (go_B al) (go_N A) (go_N La) (go_N P) (go_N Lp) (go_B E) (go_B D) (go_B W) (go_N T) (go_B U) (go_N C)) : ∀ n i, i ≤ i0 → i0 + 1 - i < n → wY_graftOne_5 post (nI x) (nI b) (nI nn) (nI ac) (nI pc) (nI tm) (nI lo) (nI md) (go_B al) (go_N A) (go_N La) (go_N P) (go_N Lp) (go_B E) (go_B D) (go_B W) (go_N T) (go_B U) (go_N C) n (-1) (nI i) := by
  intro n
  induction n with
  | zero => intro i _ hn; exact absurd hn (by omega)
  | succ n ih =>
    intro i hi hn
    refine pk_le 16 i (fun h2 => absurd h2 (by omega)) (fun h2 => br_f (by decide) ⟨pk_in ((x * 16 + b) * 16 + i) 4096 (by omega) (go_ix256 x b i), go_brB W ((x * 16 + b) * 16 + i) (fun z => nm_r (nI_1 i) ?_) (fun z => nm_r (nI_1 i) ?_) (go_ix256 x b i)⟩)
    · have e : i ≠ i0 := fun q => by rw [q, hW] at z; exact absurd z (by decide)
      exact ih (i + 1) (by omega) (by omega)
    · have e : i = i0 := by
        rcases Nat.lt_or_ge i i0 with q | q
        · rw [hWb i q] at z; exact absurd z (by decide)
        · omega
      rw [e]
      obtain ⟨n', rfl⟩ : ∃ n', n = n' + 1 := ⟨n - 1, by omega⟩
      exact br_c (fun _ => hp) (fun _ => br_t (nI_pos' (by omega)) hp)
theorem go_g5n {x b : Nat} (hx : x < 16) (hb : b < 16) (h : ∀ p, p < 16 → W ((x * 16 + b) * 16 + p) = false) (post : Int32 → SY → Prop) (hp : wY_graftOne_46 post (nI x) (nI b) (-1) (nI nn) (nI ac) (nI pc) (nI tm) (nI lo) (nI md) (go_B al) (go_N A) (go_N La) (go_N P) (go_N Lp) (go_B E) (go_B D) (go_B W) (go_N T) (go_B U) (go_N C)) : ∀ n i, i ≤ 16 → 16 - i < n → wY_graftOne_5 post (nI x) (nI b) (nI nn) (nI ac) (nI pc) (nI tm) (nI lo) (nI md) (go_B al) (go_N A) (go_N La) (go_N P) (go_N Lp) (go_B E) (go_B D) (go_B W) (go_N T) (go_B U) (go_N C) n (-1) (nI i) := by
  intro n
  induction n with
  | zero => intro i _ hn; exact absurd hn (by omega)
  | succ n ih =>
    intro i hi hn
    exact pk_le 16 i (fun _ => hp) (fun h2 => br_f (by decide) ⟨pk_in ((x * 16 + b) * 16 + i) 4096 (by omega) (go_ix256 x b i), br_t (go_bz W _ (h i h2) (go_ix256 x b i)) (nm_r (nI_1 i) (ih (i + 1) (by omega) (by omega)))⟩)
theorem go_graft {x b i0 : Nat} (hac : 2 ≤ ac ∧ ac ≤ 4) (htm : 1 ≤ tm ∧ tm ≤ 8) (IA : go_IV4 ac A La) (JE : go_IE A La E) (hT : ∀ j, T j ≤ 8) (S : go_IS U C) (hl : lo + 1 < 2 ^ 31) (hx : x < 16) (hb : b < 16) (h0 : i0 < 16) (hW : W ((x * 16 + b) * 16 + i0) = true) (hWb : ∀ j, j < i0 → W ((x * 16 + b) * 16 + j) = false) : ∃ (E' W' : Nat → Bool) (T' : Nat → Nat) (U' : Nat → Bool) (C' : Nat → Nat) (lo' : Nat), go_IE A La E' ∧ (∀ j, T' j ≤ 8) ∧ go_IS U' C' ∧ lo' ≤ lo + 1 ∧ (∀ post : SX → Prop, post (nI nn, nI ac, nI pc, nI tm, nI md, nI lo', go_B al, go_N A, go_N La, go_N P, go_N Lp, go_M E', go_M D, go_M W', go_N T', go_S U' C') → wpX_graftNextAnnouncer post (nI nn, nI ac, nI pc, nI tm, nI md, nI lo, go_B al, go_N A, go_N La, go_N P, go_N Lp, go_M E, go_M D, go_M W, go_N T, go_S U C) (nI x) (nI b)) ∧ (∀ post : Int32 → SY → Prop, post 1 (nI nn, nI ac, nI pc, nI tm, nI lo', nI md, go_B al, go_N A, go_N La, go_N P, go_N Lp, go_B E', go_B D, go_B W', go_N T', go_B U', go_N C') → wpY_graftOne post (nI nn, nI ac, nI pc, nI tm, nI lo, nI md, go_B al, go_N A, go_N La, go_N P, go_N Lp, go_B E, go_B D, go_B W, go_N T, go_B U, go_N C) (nI x) (nI b)) := by
  have hla := IA.2.1 x
  have hv : vp_in (nI (x * 16 + b)) 256 := vp_in_nI (by omega) (by omega)
  obtain ⟨a, ha0, ha, ea⟩ := go_1n b hb
  have key : ∀ E' : Nat → Bool, go_IE A La E' → (∀ Q : SX → Prop, Q (nI nn, nI ac, nI pc, nI tm, nI md, nI lo, go_B al, go_N A, go_N La, go_N P, go_N Lp, go_M E', go_M D, go_M (go_up W ((x * 16 + b) * 16 + i0) false), go_N T, go_S U C) → wpX_makeEager Q (nI nn, nI ac, nI pc, nI tm, nI md, nI lo, go_B al, go_N A, go_N La, go_N P, go_N Lp, go_M E, go_M D, go_M (go_up W ((x * 16 + b) * 16 + i0) false), go_N T, go_S U C) (nI x) (nI i0)) → (∀ post : Int32 → SY → Prop, wY_graftOne_91 post (nI x) (nI b) (nI i0) (nI nn) (nI ac) (nI pc) (nI tm) (nI lo) (nI md) (go_B al) (go_N A) (go_N La) (go_N P) (go_N Lp) (go_B E') (go_B D) (go_B (go_up W ((x * 16 + b) * 16 + i0) false)) (go_N T) (go_B U) (go_N C) → wY_graftOne_46 post (nI x) (nI b) (nI i0) (nI nn) (nI ac) (nI pc) (nI tm) (nI lo) (nI md) (go_B al) (go_N A) (go_N La) (go_N P) (go_N Lp) (go_B E) (go_B D) (go_B W) (go_N T) (go_B U) (go_N C)) → ∃ (E' W' : Nat → Bool) (T' : Nat → Nat) (U' : Nat → Bool) (C' : Nat → Nat) (lo' : Nat), go_IE A La E' ∧ (∀ j, T' j ≤ 8) ∧ go_IS U' C' ∧ lo' ≤ lo + 1 ∧ (∀ post : SX → Prop, post (nI nn, nI ac, nI pc, nI tm, nI md, nI lo', go_B al, go_N A, go_N La, go_N P, go_N Lp, go_M E', go_M D, go_M W', go_N T', go_S U' C') → wpX_graftNextAnnouncer post (nI nn, nI ac, nI pc, nI tm, nI md, nI lo, go_B al, go_N A, go_N La, go_N P, go_N Lp, go_M E, go_M D, go_M W, go_N T, go_S U C) (nI x) (nI b)) ∧ (∀ post : Int32 → SY → Prop, post 1 (nI nn, nI ac, nI pc, nI tm, nI lo', nI md, go_B al, go_N A, go_N La, go_N P, go_N Lp, go_B E', go_B D, go_B W', go_N T', go_B U', go_N C') → wpY_graftOne post (nI nn, nI ac, nI pc, nI tm, nI lo, nI md, go_B al, go_N A, go_N La, go_N P, go_N Lp, go_B E, go_B D, go_B W, go_N T, go_B U, go_N C) (nI x) (nI b)) := by
    intro E' JE' hM hN
    obtain ⟨U1, C1, lo1, S1, hl1, hX1, hY1⟩ := go_send nn ac pc tm md lo al A La P Lp E' D (go_up W ((x * 16 + b) * 16 + i0) false) T U C (k := 11) S hl hx h0 (by omega) (by omega) ha
    rw [← ea] at hX1 hY1
    have rW := go_rM (e := nI (x * 16 + b)) (go_up W ((x * 16 + b) * 16 + i0) false) (x * 16 + b) rfl (by omega)
    rcases go_first (fun p => go_up W ((x * 16 + b) * 16 + i0) false ((x * 16 + b) * 16 + p) = true) 16 with hf | ⟨j0, hj0, hjt, _⟩
    · have hf' : ∀ p, p < 16 → go_up W ((x * 16 + b) * 16 + i0) false ((x * 16 + b) * 16 + p) = false := fun p hp => by have := hf p hp; simpa using this
      have z : go_M (go_up W ((x * 16 + b) * 16 + i0) false) (nI (x * 16 + b)).toNatClampNeg = 0 := by rw [rW]; exact (go_M0 _ _).mpr hf'
      refine ⟨E', go_up W ((x * 16 + b) * 16 + i0) false, T, U1, C1, lo1, JE', hT, S1, hl1, fun post hp => nm_r (go_ix16 x b) ⟨hv, ⟨17, go_low h0 (fun j hj => go_mz W (x * 16 + b) j (by omega) (hWb j hj)) (go_mn W (x * 16 + b) i0 h0 hW) _ ⟨hv, hv, nm_r (go_uMc W (x * 16 + b) i0 h0) (hM _ (hX1 _ ⟨hv, br_t z hp⟩))⟩ 17 0 (by omega) (by omega)⟩⟩, fun post hp => ⟨18, go_g5 nn ac pc tm md lo al A La P Lp E D W T U C hx hb h0 hW hWb post (hN post ?_) 18 0 (by omega) (by omega)⟩⟩
      unfold wY_graftOne_91
      exact hY1 _ ⟨17, go_108a nn ac pc tm md lo1 al A La P Lp E' D (go_up W ((x * 16 + b) * 16 + i0) false) T U1 C1 hx hb hf' post hp 17 0 (by omega) (by omega)⟩
    · have z : ¬ go_M (go_up W ((x * 16 + b) * 16 + i0) false) (nI (x * 16 + b)).toNatClampNeg = 0 := by
        rw [rW, go_M0]
        intro q
        rw [q j0 hj0] at hjt
        exact absurd hjt (by decide)
      have hT2 : ∀ j, go_up T (x * 16 + b) tm j ≤ 8 := by
        intro j
        by_cases e : j = x * 16 + b
        · rw [e, go_us]; omega
        · rw [go_un e]; exact hT j
      refine ⟨E', go_up W ((x * 16 + b) * 16 + i0) false, go_up T (x * 16 + b) tm, U1, C1, lo1, JE', hT2, S1, hl1, fun post hp => nm_r (go_ix16 x b) ⟨hv, ⟨17, go_low h0 (fun j hj => go_mz W (x * 16 + b) j (by omega) (hWb j hj)) (go_mn W (x * 16 + b) i0 h0 hW) _ ⟨hv, hv, nm_r (go_uMc W (x * 16 + b) i0 h0) (hM _ (hX1 _ ⟨hv, br_f z ⟨hv, nm_r (go_uN T (x * 16 + b) tm rfl) hp⟩⟩))⟩ 17 0 (by omega) (by omega)⟩⟩, fun post hp => ⟨18, go_g5 nn ac pc tm md lo al A La P Lp E D W T U C hx hb h0 hW hWb post (hN post ?_) 18 0 (by omega) (by omega)⟩⟩
      unfold wY_graftOne_91
      exact hY1 _ ⟨17, go_108c nn ac pc tm md lo1 al A La P Lp E' D (go_up W ((x * 16 + b) * 16 + i0) false) T U1 C1 hx hb hj0 hjt post hp 17 0 (by omega) (by omega)⟩
  rcases go_first (fun i => A (x * 4 + i) = i0) (La x) with hA | ⟨i, hi, hAi, hAb⟩
  · exact key E JE (fun Q hQ => go_me0 nn ac pc tm md lo al A La P Lp E D (go_up W ((x * 16 + b) * 16 + i0) false) T U C IA.1 (by omega) hx h0 hA Q hQ) (fun post hp => br_t (nI_pos' (by omega)) ⟨pk_in ((x * 16 + b) * 16 + i0) 4096 (by omega) (go_ix256 x b i0), nm_r (go_uB W _ false go_vf (go_ix256 x b i0)) (go_ps4 nn ac pc tm md lo al A La P Lp E D (go_up W ((x * 16 + b) * 16 + i0) false) T U C IA.1 (by omega) hx h0 hA _ (br_t (by decide) hp))⟩)
  · exact key (go_up E (x * 16 + i0) true) (go_Eset JE h0 hi hAi) (fun Q hQ => go_me1 nn ac pc tm md lo al A La P Lp E D (go_up W ((x * 16 + b) * 16 + i0) false) T U C IA.1 (by omega) hx h0 hi hAi Q hQ) (fun post hp => br_t (nI_pos' (by omega)) ⟨pk_in ((x * 16 + b) * 16 + i0) 4096 (by omega) (go_ix256 x b i0), nm_r (go_uB W _ false go_vf (go_ix256 x b i0)) (go_psy4 nn ac pc tm md lo al A La P Lp E D (go_up W ((x * 16 + b) * 16 + i0) false) T U C IA.1 (by omega) hx h0 hi hAi hAb _ (br_f (nI_pos (by omega)) ⟨pk_in (x * 16 + i0) 256 (by omega) (go_ix16 x i0), nm_r (go_uB E (x * 16 + i0) true go_vt (go_ix16 x i0)) hp⟩))⟩)
theorem go_cd0 {x b : Nat} (hx : x < 16) (hb : b < 16) (h : T (x * 16 + b) = 0) (post : Int32 → SX → Prop) (hp : post 0 (nI nn, nI ac, nI pc, nI tm, nI md, nI lo, go_B al, go_N A, go_N La, go_N P, go_N Lp, go_M E, go_M D, go_M W, go_N T, go_S U C)) : wpX_countDownEnds post (nI nn, nI ac, nI pc, nI tm, nI md, nI lo, go_B al, go_N A, go_N La, go_N P, go_N Lp, go_M E, go_M D, go_M W, go_N T, go_S U C) (nI x) (nI b) := nm_r (go_ix16 x b) ⟨vp_in_nI (by omega) (by omega), br_t (by rw [go_rN T (x * 16 + b) rfl (by omega), h]; exact nI_0) hp⟩
theorem go_cd1 {x b : Nat} (hT : ∀ j, T j ≤ 8) (hx : x < 16) (hb : b < 16) (h : 1 < T (x * 16 + b)) (post : Int32 → SX → Prop) (hp : post 0 (nI nn, nI ac, nI pc, nI tm, nI md, nI lo, go_B al, go_N A, go_N La, go_N P, go_N Lp, go_M E, go_M D, go_M W, go_N (go_up T (x * 16 + b) (T (x * 16 + b) - 1)), go_S U C)) : wpX_countDownEnds post (nI nn, nI ac, nI pc, nI tm, nI md, nI lo, go_B al, go_N A, go_N La, go_N P, go_N Lp, go_M E, go_M D, go_M W, go_N T, go_S U C) (nI x) (nI b) := by
  have hv : vp_in (nI (x * 16 + b)) 256 := vp_in_nI (by omega) (by omega)
  have r := go_rN (e := nI (x * 16 + b)) T (x * 16 + b) rfl (by omega)
  have h8 := hT (x * 16 + b)
  have s : go_N T (nI (x * 16 + b)).toNatClampNeg - 1 = nI (T (x * 16 + b) - 1) := by rw [r]; exact pk_sub (b := 1) (by omega)
  have r2 : go_N (go_up T (x * 16 + b) (T (x * 16 + b) - 1)) (nI (x * 16 + b)).toNatClampNeg = nI (T (x * 16 + b) - 1) := by rw [go_rN _ (x * 16 + b) rfl (by omega), go_us]
  exact nm_r (go_ix16 x b) ⟨hv, br_f (by rw [r]; exact nI_ne0 (by omega) (by omega)) ⟨hv, hv, nm_r (go_uN T (x * 16 + b) (T (x * 16 + b) - 1) s) ⟨hv, br_f (by rw [r2]; exact nI_ne0 (by omega) (by omega)) hp⟩⟩⟩
theorem go_cd2 {x b : Nat} (hx : x < 16) (hb : b < 16) (h : T (x * 16 + b) = 1) (hW : go_M W (x * 16 + b) = 0) (post : Int32 → SX → Prop) (hp : post 0 (nI nn, nI ac, nI pc, nI tm, nI md, nI lo, go_B al, go_N A, go_N La, go_N P, go_N Lp, go_M E, go_M D, go_M W, go_N (go_up T (x * 16 + b) 0), go_S U C)) : wpX_countDownEnds post (nI nn, nI ac, nI pc, nI tm, nI md, nI lo, go_B al, go_N A, go_N La, go_N P, go_N Lp, go_M E, go_M D, go_M W, go_N T, go_S U C) (nI x) (nI b) := by
  have hv : vp_in (nI (x * 16 + b)) 256 := vp_in_nI (by omega) (by omega)
  have r := go_rN (e := nI (x * 16 + b)) T (x * 16 + b) rfl (by omega)
  have s : go_N T (nI (x * 16 + b)).toNatClampNeg - 1 = nI 0 := by rw [r, h]; decide
  have r2 : go_N (go_up T (x * 16 + b) 0) (nI (x * 16 + b)).toNatClampNeg = 0 := by rw [go_rN _ (x * 16 + b) rfl (by omega), go_us]; exact nI_0
  exact nm_r (go_ix16 x b) ⟨hv, br_f (by rw [r, h]; decide) ⟨hv, hv, nm_r (go_uN T (x * 16 + b) 0 s) ⟨hv, br_t r2 ⟨hv, br_t (by rw [go_rM W (x * 16 + b)]; exact hW) hp⟩⟩⟩⟩
theorem go_cd3 {x b : Nat} (hx : x < 16) (hb : b < 16) (h : T (x * 16 + b) = 1) (hW : ¬ go_M W (x * 16 + b) = 0) (post : Int32 → SX → Prop) (hp : post 1 (nI nn, nI ac, nI pc, nI tm, nI md, nI lo, go_B al, go_N A, go_N La, go_N P, go_N Lp, go_M E, go_M D, go_M W, go_N (go_up T (x * 16 + b) 0), go_S U C)) : wpX_countDownEnds post (nI nn, nI ac, nI pc, nI tm, nI md, nI lo, go_B al, go_N A, go_N La, go_N P, go_N Lp, go_M E, go_M D, go_M W, go_N T, go_S U C) (nI x) (nI b) := by
  have hv : vp_in (nI (x * 16 + b)) 256 := vp_in_nI (by omega) (by omega)
  have r := go_rN (e := nI (x * 16 + b)) T (x * 16 + b) rfl (by omega)
  have s : go_N T (nI (x * 16 + b)).toNatClampNeg - 1 = nI 0 := by rw [r, h]; decide
  have r2 : go_N (go_up T (x * 16 + b) 0) (nI (x * 16 + b)).toNatClampNeg = 0 := by rw [go_rN _ (x * 16 + b) rfl (by omega), go_us]; exact nI_0
  exact nm_r (go_ix16 x b) ⟨hv, br_f (by rw [r, h]; decide) ⟨hv, hv, nm_r (go_uN T (x * 16 + b) 0 s) ⟨hv, br_t r2 ⟨hv, br_f (by rw [go_rM W (x * 16 + b)]; exact hW) hp⟩⟩⟩⟩
theorem go_tkD {x cnt : Nat} (hx : x < 16) (hal : al x = false) (post : Int32 → SX → Prop) (J : Int32 → Int32 → Int32 → Int32 → Int32 → Int32 → Int32 → Int32 → (Nat → Int32) → (Nat → Int32) → (Nat → Int32) → (Nat → Int32) → (Nat → Int32) → (Nat → Int32) → (Nat → Int32) → (Nat → Int32) → (Nat → Int32) → (Nat → Int32) → Prop) (hJ : J (nI cnt) (nI (x + 1)) (nI nn) (nI ac) (nI pc) (nI tm) (nI md) (nI lo) (go_B al) (go_N A) (go_N La) (go_N P) (go_N Lp) (go_M E) (go_M D) (go_M W) (go_N T) (go_S U C)) : ∀ n b, b ≤ 16 → 16 - b < n → wX_tick_14 post J (nI x) n (nI cnt) (nI b) (nI nn) (nI ac) (nI pc) (nI tm) (nI md) (nI lo) (go_B al) (go_N A) (go_N La) (go_N P) (go_N Lp) (go_M E) (go_M D) (go_M W) (go_N T) (go_S U C) := by
  intro n
  induction n with
  | zero => intro i _ hn; exact absurd hn (by omega)
  | succ n ih =>
    intro b hb hn
    exact pk_le 16 b (fun _ => nm_r (nI_1 x) hJ) (fun h2 => ⟨vp_in_nI hx (by omega), br_t (go_bz al x hal) (nm_r (nI_1 b) (ih (b + 1) (by omega) (by omega)))⟩)
end
section
variable (nn ac pc tm md : Nat) (al : Nat → Bool) (A La P Lp : Nat → Nat) (D : Nat → Bool)
theorem go_tkl {x : Nat} (hac : 2 ≤ ac ∧ ac ≤ 4) (htm : 1 ≤ tm ∧ tm ≤ 8) (IA : go_IV4 ac A La) (hx : x < 16) (hal : al x = true) : ∀ d b (cnt lo : Nat) (E W : Nat → Bool) (T : Nat → Nat) (U : Nat → Bool) (C : Nat → Nat), b + d = 16 → go_IE A La E → (∀ j, T j ≤ 8) → go_IS U C → lo + d < 2 ^ 31 → ∃ (cnt' lo' : Nat) (E' W' : Nat → Bool) (T' : Nat → Nat) (U' : Nat → Bool) (C' : Nat → Nat), go_IE A La E' ∧ (∀ j, T' j ≤ 8) ∧ go_IS U' C' ∧ lo' ≤ lo + d ∧ (∀ (post : Int32 → SX → Prop) (J : Int32 → Int32 → Int32 → Int32 → Int32 → Int32 → Int32 → Int32 → (Nat → Int32) → (Nat → Int32) → (Nat → Int32) → (Nat → Int32) → (Nat → Int32) → (Nat → Int32) → (Nat → Int32) → (Nat → Int32) → (Nat → Int32) → (Nat → Int32) → Prop), J (nI cnt') (nI (x + 1)) (nI nn) (nI ac) (nI pc) (nI tm) (nI md) (nI lo') (go_B al) (go_N A) (go_N La) (go_N P) (go_N Lp) (go_M E') (go_M D) (go_M W') (go_N T') (go_S U' C') → wX_tick_14 post J (nI x) (d + 1) (nI cnt) (nI b) (nI nn) (nI ac) (nI pc) (nI tm) (nI md) (nI lo) (go_B al) (go_N A) (go_N La) (go_N P) (go_N Lp) (go_M E) (go_M D) (go_M W) (go_N T) (go_S U C)) ∧ (∀ (post : Int32 → SY → Prop) (J : Int32 → Int32 → Int32 → Int32 → Int32 → Int32 → Int32 → Int32 → (Nat → Int32) → (Nat → Int32) → (Nat → Int32) → (Nat → Int32) → (Nat → Int32) → (Nat → Int32) → (Nat → Int32) → (Nat → Int32) → (Nat → Int32) → (Nat → Int32) → (Nat → Int32) → Prop), J (nI cnt') (nI (x + 1)) (nI nn) (nI ac) (nI pc) (nI tm) (nI lo') (nI md) (go_B al) (go_N A) (go_N La) (go_N P) (go_N Lp) (go_B E') (go_B D) (go_B W') (go_N T') (go_B U') (go_N C') → wY_tick_26 post J (nI x) (d + 1) (nI cnt) (nI b) (nI nn) (nI ac) (nI pc) (nI tm) (nI lo) (nI md) (go_B al) (go_N A) (go_N La) (go_N P) (go_N Lp) (go_B E) (go_B D) (go_B W) (go_N T) (go_B U) (go_N C)) := by
  intro d
  induction d with
  | zero =>
    intro b cnt lo E W T U C hb JE hT S hl
    exact ⟨cnt, lo, E, W, T, U, C, JE, hT, S, by omega, fun post J hJ => br_t (nI_le (a := 16) (by omega) (by omega)) (nm_r (nI_1 x) hJ), fun post J hJ => br_t (nI_le (a := 16) (by omega) (by omega)) (nm_r (nI_1 x) hJ)⟩
  | succ d ih =>
    intro b cnt lo E W T U C hb JE hT S hl
    have hb16 : b < 16 := by omega
    have hne : ¬ (16 : Int32) ≤ nI b := nI_ge (b := 16) hb16 (by omega)
    have hv : vp_in (nI x) 16 := vp_in_nI hx (by omega)
    have ix := go_ix16 x b
    have hvc : vp_in (nI x * 16 + nI b) 256 := pk_in (x * 16 + b) 256 (by omega) ix
    have rT := go_rN (e := nI x * 16 + nI b) T (x * 16 + b) ix (by omega)
    have h8 := hT (x * 16 + b)
    by_cases t0 : T (x * 16 + b) = 0
    · obtain ⟨cnt', lo', E', W', T', U', C', JE', hT', S', hl', hX, hY⟩ := ih (b + 1) cnt lo E W T U C (by omega) JE hT S (by omega)
      exact ⟨cnt', lo', E', W', T', U', C', JE', hT', S', by omega, fun post J hJ => br_f hne ⟨hv, br_f (go_bn al x hal) (go_cd0 nn ac pc tm md lo al A La P Lp E D W T U C hx hb16 t0 _ (br_t rfl (nm_r (nI_1 b) (hX post J hJ))))⟩, fun post J hJ => br_f hne ⟨hvc, br_t (by rw [rT, t0]; decide) (nm_r (nI_1 b) (hY post J hJ))⟩⟩
    · have s : go_N T (nI x * 16 + nI b).toNatClampNeg - 1 = nI (T (x * 16 + b) - 1) := by rw [rT]; exact pk_sub (b := 1) (by omega)
      have hnl : ¬ go_N T (nI x * 16 + nI b).toNatClampNeg ≤ 0 := by rw [rT]; exact nI_nle (by omega) (by omega)
      have r2 : go_N (go_up T (x * 16 + b) (T (x * 16 + b) - 1)) (nI x * 16 + nI b).toNatClampNeg = nI (T (x * 16 + b) - 1) := by rw [go_rN _ (x * 16 + b) ix (by omega), go_us]
      have hT1 : ∀ j, go_up T (x * 16 + b) (T (x * 16 + b) - 1) j ≤ 8 := by
        intro j
        by_cases e : j = x * 16 + b
        · rw [e, go_us]; omega
        · rw [go_un e]; exact hT j
      have sT := go_uN T (x * 16 + b) (T (x * 16 + b) - 1) s ix
      by_cases t1 : T (x * 16 + b) = 1
      · have e0 : T (x * 16 + b) - 1 = 0 := by omega
        rw [e0] at s r2 hT1 sT
        have r3 : go_N (go_up T (x * 16 + b) 0) (nI x * 16 + nI b).toNatClampNeg = 0 := r2.trans nI_0
        rcases go_first (fun p => W ((x * 16 + b) * 16 + p) = true) 16 with hf | ⟨i0, h0, hW, hWb⟩
        · have hf' : ∀ p, p < 16 → W ((x * 16 + b) * 16 + p) = false := fun p hp => by have := hf p hp; simpa using this
          obtain ⟨cnt', lo', E', W', T', U', C', JE', hT', S', hl', hX, hY⟩ := ih (b + 1) cnt lo E W (go_up T (x * 16 + b) 0) U C (by omega) JE hT1 S (by omega)
          exact ⟨cnt', lo', E', W', T', U', C', JE', hT', S', by omega, fun post J hJ => br_f hne ⟨hv, br_f (go_bn al x hal) (go_cd2 nn ac pc tm md lo al A La P Lp E D W T U C hx hb16 t1 ((go_M0 W _).mpr hf') _ (br_t rfl (nm_r (nI_1 b) (hX post J hJ))))⟩, fun post J hJ => br_f hne ⟨hvc, br_f hnl ⟨hvc, hvc, nm_r sT ⟨hvc, br_t r3 ⟨17, go_g5n nn ac pc tm md lo al A La P Lp E D W (go_up T (x * 16 + b) 0) U C hx hb16 hf' _ (br_f (by decide) (nm_r (Int32.add_zero _) (nm_r (nI_1 b) (hY post J hJ)))) 17 0 (by omega) (by omega)⟩⟩⟩⟩⟩
        · have hWb' : ∀ j, j < i0 → W ((x * 16 + b) * 16 + j) = false := fun j hj => by have := hWb j hj; simpa using this
          have hM : ¬ go_M W (x * 16 + b) = 0 := by
            rw [go_M0]
            intro q
            rw [q i0 h0] at hW
            exact absurd hW (by decide)
          obtain ⟨E1, W1, T1, U1, C1, lo1, JE1, hT1', S1, hl1, hX1, hY1⟩ := go_graft nn ac pc tm md lo al A La P Lp E D W (go_up T (x * 16 + b) 0) U C hac htm IA JE hT1 S (by omega) hx hb16 h0 hW hWb'
          obtain ⟨cnt', lo', E', W', T', U', C', JE', hT', S', hl', hX, hY⟩ := ih (b + 1) (cnt + 1) lo1 E1 W1 T1 U1 C1 (by omega) JE1 hT1' S1 (by omega)
          exact ⟨cnt', lo', E', W', T', U', C', JE', hT', S', by omega, fun post J hJ => br_f hne ⟨hv, br_f (go_bn al x hal) (go_cd3 nn ac pc tm md lo al A La P Lp E D W T U C hx hb16 t1 hM _ (br_f (by decide) (hX1 _ (nm_r (nI_1 cnt) (nm_r (nI_1 b) (hX post J hJ))))))⟩, fun post J hJ => br_f hne ⟨hvc, br_f hnl ⟨hvc, hvc, nm_r sT ⟨hvc, br_t r3 (hY1 _ (nm_r (nI_1 cnt) (nm_r (nI_1 b) (hY post J hJ))))⟩⟩⟩⟩
      · obtain ⟨cnt', lo', E', W', T', U', C', JE', hT', S', hl', hX, hY⟩ := ih (b + 1) cnt lo E W (go_up T (x * 16 + b) (T (x * 16 + b) - 1)) U C (by omega) JE hT1 S (by omega)
        exact ⟨cnt', lo', E', W', T', U', C', JE', hT', S', by omega, fun post J hJ => br_f hne ⟨hv, br_f (go_bn al x hal) (go_cd1 nn ac pc tm md lo al A La P Lp E D W T U C hT hx hb16 (by omega) _ (br_t rfl (nm_r (nI_1 b) (hX post J hJ))))⟩, fun post J hJ => br_f hne ⟨hvc, br_f hnl ⟨hvc, hvc, nm_r sT ⟨hvc, br_f (by rw [r2]; exact nI_ne0 (by omega) (by omega)) (nm_r (nI_1 b) (hY post J hJ))⟩⟩⟩⟩
theorem go_tko (hn : nn ≤ 16) (hac : 2 ≤ ac ∧ ac ≤ 4) (htm : 1 ≤ tm ∧ tm ≤ 8) (IA : go_IV4 ac A La) : ∀ d i (cnt lo : Nat) (E W : Nat → Bool) (T : Nat → Nat) (U : Nat → Bool) (C : Nat → Nat), i + d = nn → go_IE A La E → (∀ j, T j ≤ 8) → go_IS U C → lo + 16 * d < 2 ^ 31 → ∃ (cnt' lo' : Nat) (E' W' : Nat → Bool) (T' : Nat → Nat) (U' : Nat → Bool) (C' : Nat → Nat), go_IE A La E' ∧ (∀ j, T' j ≤ 8) ∧ go_IS U' C' ∧ lo' ≤ lo + 16 * d ∧ (∀ (post : Int32 → SX → Prop), post (nI cnt') (nI nn, nI ac, nI pc, nI tm, nI md, nI lo', go_B al, go_N A, go_N La, go_N P, go_N Lp, go_M E', go_M D, go_M W', go_N T', go_S U' C') → wX_tick_4 post (d + 1) (nI cnt) (nI i) (nI nn) (nI ac) (nI pc) (nI tm) (nI md) (nI lo) (go_B al) (go_N A) (go_N La) (go_N P) (go_N Lp) (go_M E) (go_M D) (go_M W) (go_N T) (go_S U C)) ∧ (∀ (post : Int32 → SY → Prop), post (nI cnt') (nI nn, nI ac, nI pc, nI tm, nI lo', nI md, go_B al, go_N A, go_N La, go_N P, go_N Lp, go_B E', go_B D, go_B W', go_N T', go_B U', go_N C') → wY_tick_4 post (d + 1) (nI cnt) (nI i) (nI nn) (nI ac) (nI pc) (nI tm) (nI lo) (nI md) (go_B al) (go_N A) (go_N La) (go_N P) (go_N Lp) (go_B E) (go_B D) (go_B W) (go_N T) (go_B U) (go_N C)) := by
  intro d
  induction d with
  | zero =>
    intro i cnt lo E W T U C hi JE hT S hl
    exact ⟨cnt, lo, E, W, T, U, C, JE, hT, S, by omega, fun post hp => br_t (nI_le (by omega) (by omega)) hp, fun post hp => br_t (nI_le (by omega) (by omega)) hp⟩
  | succ d ih =>
    intro i cnt lo E W T U C hi JE hT S hl
    have hi16 : i < 16 := by omega
    have hne : ¬ nI nn ≤ nI i := nI_ge (by omega) (by omega)
    have hv : vp_in (nI i) 16 := vp_in_nI hi16 (by omega)
    cases hal : al i with
    | false =>
      obtain ⟨cnt', lo', E', W', T', U', C', JE', hT', S', hl', hX, hY⟩ := ih (i + 1) cnt lo E W T U C (by omega) JE hT S (by omega)
      exact ⟨cnt', lo', E', W', T', U', C', JE', hT', S', by omega, fun post hp => br_f hne ⟨17, go_tkD nn ac pc tm md lo al A La P Lp E D W T U C hi16 hal post _ (hX post hp) 17 0 (by omega) (by omega)⟩, fun post hp => br_f hne ⟨hv, br_t (go_bz al i hal) (nm_r (nI_1 i) (hY post hp))⟩⟩
    | true =>
      obtain ⟨cnt1, lo1, E1, W1, T1, U1, C1, JE1, hT1, S1, hl1, hX1, hY1⟩ := go_tkl nn ac pc tm md al A La P Lp D (x := i) hac htm IA hi16 hal 16 0 cnt lo E W T U C (by omega) JE hT S (by omega)
      obtain ⟨cnt', lo', E', W', T', U', C', JE', hT', S', hl', hX, hY⟩ := ih (i + 1) cnt1 lo1 E1 W1 T1 U1 C1 (by omega) JE1 hT1 S1 (by omega)
      exact ⟨cnt', lo', E', W', T', U', C', JE', hT', S', by omega, fun post hp => br_f hne ⟨_, hX1 post _ (hX post hp)⟩, fun post hp => br_f hne ⟨hv, br_f (go_bn al i hal) ⟨_, hY1 post _ (hY post hp)⟩⟩⟩
end
