section
variable (nn ac pc tm md lo : Nat) (al : Nat → Bool) (A La P Lp : Nat → Nat) (E D W : Nat → Bool) (T : Nat → Nat) (U : Nat → Bool) (C : Nat → Nat)
theorem go_dMl {x : Nat} (hx : x < 16) (post : Int32 → Prop) (hp : post (go_M D x)) : ∀ n i, i ≤ 16 → 16 - i < n → wY_dMask_4 post (nI x) (nI nn) (nI ac) (nI pc) (nI tm) (nI lo) (nI md) (go_B al) (go_N A) (go_N La) (go_N P) (go_N Lp) (go_B E) (go_B D) (go_B W) (go_N T) (go_B U) (go_N C) n (go_m (fun p => D (x * 16 + p)) i) (nI i) := by
  intro n
  induction n with
  | zero => intro i _ hn; exact absurd hn (by omega)
  | succ n ih =>
    intro i hi hn
    refine pk_le 16 i (fun h => ?_) (fun h => ⟨pk_in (x * 16 + i) 256 (by omega) (go_ix16 x i), go_brB D (x * 16 + i) (fun z => nm_r (nI_1 i) ?_) (fun z => nm_r (e' := go_m (fun p => D (x * 16 + p)) (i + 1)) ?_ (nm_r (nI_1 i) (ih (i + 1) (by omega) (by omega)))) (go_ix16 x i)⟩)
    · have e : i = 16 := by omega
      rw [e]; exact hp
    · have e : go_m (fun p => D (x * 16 + p)) (i + 1) = go_m (fun p => D (x * 16 + p)) i := by
        show cond (D (x * 16 + i)) _ _ = _
        rw [z]; rfl
      have w := ih (i + 1) (by omega) (by omega)
      rw [e] at w
      exact w
    · show _ = cond (D (x * 16 + i)) _ _
      rw [z]; rfl
theorem go_dM {x : Nat} (hx : x < 16) (post : Int32 → Prop) (hp : post (go_M D x)) : wpY_dMask post (nI nn, nI ac, nI pc, nI tm, nI lo, nI md, go_B al, go_N A, go_N La, go_N P, go_N Lp, go_B E, go_B D, go_B W, go_N T, go_B U, go_N C) (nI x) := ⟨17, go_dMl nn ac pc tm md lo al A La P Lp E D W T U C hx post hp 17 0 (by omega) (by omega)⟩
theorem go_ih {x y : Nat} (I : go_IS U C) (hl : lo + 1 < 2 ^ 31) (hx : x < 16) (hy : y < 16) : ∃ (U' : Nat → Bool) (C' : Nat → Nat) (lo' : Nat), go_IS U' C' ∧ lo' ≤ lo + 1 ∧ (∀ post : SX → Prop, post (nI nn, nI ac, nI pc, nI tm, nI md, nI lo', go_B al, go_N A, go_N La, go_N P, go_N Lp, go_M E, go_M D, go_M W, go_N T, go_S U' C') → wX_addActive_127 post (nI x) (nI y) (nI nn) (nI ac) (nI pc) (nI tm) (nI md) (nI lo) (go_B al) (go_N A) (go_N La) (go_N P) (go_N Lp) (go_M E) (go_M D) (go_M W) (go_N T) (go_S U C)) ∧ (∀ post : SY → Prop, post (nI nn, nI ac, nI pc, nI tm, nI lo', nI md, go_B al, go_N A, go_N La, go_N P, go_N Lp, go_B E, go_B D, go_B W, go_N T, go_B U', go_N C') → wY_addA_126 post (nI x) (nI y) (nI nn) (nI ac) (nI pc) (nI tm) (nI lo) (nI md) (go_B al) (go_N A) (go_N La) (go_N P) (go_N Lp) (go_B E) (go_B D) (go_B W) (go_N T) (go_B U) (go_N C)) := by
  have r := go_rM (e := nI x) D x rfl (by omega)
  by_cases h : go_M D x = 0
  · refine ⟨U, C, lo, I, by omega, fun post hp => ⟨vp_in_nI hx (by omega), br_t (r.trans h) hp⟩, fun post hp => ?_⟩
    unfold wY_addA_126
    exact go_dM nn ac pc tm md lo al A La P Lp E D W T U C hx _ (br_t h hp)
  · obtain ⟨m, hm, em⟩ := go_Mn D x
    obtain ⟨U', C', lo', I', hl', hX, hY⟩ := go_send nn ac pc tm md lo al A La P Lp E D W T U C (k := 10) I hl hx hy (by omega) (by omega) hm
    refine ⟨U', C', lo', I', hl', fun post hp => ⟨vp_in_nI hx (by omega), br_f (by rw [r]; exact h) ⟨vp_in_nI hx (by omega), ?_⟩⟩, fun post hp => ?_⟩
    · rw [r, em]
      exact hX _ hp
    · unfold wY_addA_126
      refine go_dM nn ac pc tm md lo al A La P Lp E D W T U C hx _ (br_f h ?_)
      rw [em]
      exact hY _ hp
theorem go_ta {x y : Nat} (lk : Bool) (I : go_IS U C) (hl : lo + 2 < 2 ^ 31) (hx : x < 16) (hy : y < 16) (hn : La x < 4) : ∃ (U' : Nat → Bool) (C' : Nat → Nat) (lo' : Nat), go_IS U' C' ∧ lo' ≤ lo + 2 ∧ (∀ post : SX → Prop, post (nI nn, nI ac, nI pc, nI tm, nI md, nI lo', go_B al, go_N (go_up A (x * 4 + La x) y), go_N (go_up La x (La x + 1)), go_N P, go_N Lp, go_M (go_up E (x * 16 + y) true), go_M D, go_M W, go_N T, go_S U' C') → wX_addActive_77 post (nI x) (nI y) (go_c lk) (nI nn) (nI ac) (nI pc) (nI tm) (nI md) (nI lo) (go_B al) (go_N A) (go_N La) (go_N P) (go_N Lp) (go_M E) (go_M D) (go_M W) (go_N T) (go_S U C)) ∧ (∀ post : SY → Prop, post (nI nn, nI ac, nI pc, nI tm, nI lo', nI md, go_B al, go_N (go_up A (x * 4 + La x) y), go_N (go_up La x (La x + 1)), go_N P, go_N Lp, go_B (go_up E (x * 16 + y) true), go_B D, go_B W, go_N T, go_B U', go_N C') → wY_addA_76 post (nI x) (nI y) (go_c lk) (nI nn) (nI ac) (nI pc) (nI tm) (nI lo) (nI md) (go_B al) (go_N A) (go_N La) (go_N P) (go_N Lp) (go_B E) (go_B D) (go_B W) (go_N T) (go_B U) (go_N C)) := by
  have e1 : nI x * 4 + go_N La (nI x).toNatClampNeg = nI (x * 4 + La x) := by rw [go_rN La x rfl (by omega)]; exact go_ix4 x (La x)
  have e2 : go_N La (nI x).toNatClampNeg + 1 = nI (La x + 1) := by rw [go_rN La x rfl (by omega)]; exact nI_1 _
  cases lk with
  | false =>
    obtain ⟨U', C', lo', I', hl', hX, hY⟩ := go_ih nn ac pc tm md lo al (go_up A (x * 4 + La x) y) (go_up La x (La x + 1)) P Lp (go_up E (x * 16 + y) true) D W T U C I (by omega) hx hy
    exact ⟨U', C', lo', I', by omega, fun post hp => ⟨vp_in_nI hx (by omega), pk_in (x * 4 + La x) 64 (by omega) e1, nm_r (go_uN A (x * 4 + La x) y rfl e1) ⟨vp_in_nI hx (by omega), vp_in_nI hx (by omega), nm_r (go_uN La x (La x + 1) e2) ⟨vp_in_nI hx (by omega), vp_in_nI hx (by omega), nm_r (go_uMs E x y hy) (br_t rfl (hX post hp))⟩⟩⟩, fun post hp => ⟨vp_in_nI hx (by omega), pk_in (x * 4 + La x) 64 (by omega) e1, nm_r (go_uN A (x * 4 + La x) y rfl e1) ⟨vp_in_nI hx (by omega), vp_in_nI hx (by omega), nm_r (go_uN La x (La x + 1) e2) ⟨pk_in (x * 16 + y) 256 (by omega) (go_ix16 x y), nm_r (go_uB E (x * 16 + y) true go_vt (go_ix16 x y)) (br_t rfl (hY post hp))⟩⟩⟩⟩
  | true =>
    obtain ⟨U1, C1, lo1, I1, hl1, hX1, hY1⟩ := go_send nn ac pc tm md lo al (go_up A (x * 4 + La x) y) (go_up La x (La x + 1)) P Lp (go_up E (x * 16 + y) true) D W T U C (k := 3) (a := 0) I (by omega) hx hy (by omega) (by omega) (by omega)
    obtain ⟨U', C', lo', I', hl', hX, hY⟩ := go_ih nn ac pc tm md lo1 al (go_up A (x * 4 + La x) y) (go_up La x (La x + 1)) P Lp (go_up E (x * 16 + y) true) D W T U1 C1 I1 (by omega) hx hy
    exact ⟨U', C', lo', I', by omega, fun post hp => ⟨vp_in_nI hx (by omega), pk_in (x * 4 + La x) 64 (by omega) e1, nm_r (go_uN A (x * 4 + La x) y rfl e1) ⟨vp_in_nI hx (by omega), vp_in_nI hx (by omega), nm_r (go_uN La x (La x + 1) e2) ⟨vp_in_nI hx (by omega), vp_in_nI hx (by omega), nm_r (go_uMs E x y hy) (br_f (by decide) (hX1 _ (hX post hp)))⟩⟩⟩, fun post hp => ⟨vp_in_nI hx (by omega), pk_in (x * 4 + La x) 64 (by omega) e1, nm_r (go_uN A (x * 4 + La x) y rfl e1) ⟨vp_in_nI hx (by omega), vp_in_nI hx (by omega), nm_r (go_uN La x (La x + 1) e2) ⟨pk_in (x * 16 + y) 256 (by omega) (go_ix16 x y), nm_r (go_uB E (x * 16 + y) true go_vt (go_ix16 x y)) (br_f (by decide) (hY1 _ (hY post hp)))⟩⟩⟩⟩
end
