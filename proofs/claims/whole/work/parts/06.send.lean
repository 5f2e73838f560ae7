section
variable (nn ac pc tm md lo : Nat) (al : Nat → Bool) (A La P Lp : Nat → Nat) (E D W : Nat → Bool) (T : Nat → Nat) (U : Nat → Bool) (C : Nat → Nat)
theorem go_sXf {x y k a : Nat} (I : go_IS U C) (hl : lo + 1 < 2 ^ 31) (h : ∀ s, s < 64 → U s = true) (post : SX → Prop) (hp : post (nI nn, nI ac, nI pc, nI tm, nI md, nI (lo + 1), go_B al, go_N A, go_N La, go_N P, go_N Lp, go_M E, go_M D, go_M W, go_N T, go_S U C)) : ∀ n i, i ≤ 64 → 64 - i < n → wX_send_13 post (nI x) (nI y) (nI k) (nI a) (nI nn) (nI ac) (nI pc) (nI tm) (nI md) (nI lo) (go_B al) (go_N A) (go_N La) (go_N P) (go_N Lp) (go_M E) (go_M D) (go_M W) (go_N T) (go_S U C) n (nI i) := by
  intro n
  induction n with
  | zero => intro i _ hn; exact absurd hn (by omega)
  | succ n ih =>
    intro i hi hn
    exact pk_le 64 i (fun _ => pk_le 2147483647 lo (fun z => absurd z (by omega)) (fun _ => nm_r (nI_1 lo) hp)) (fun h2 => ⟨vp_in_nI h2 (by omega), go_brS I i (fun z => absurd z (by rw [h i h2]; decide)) (fun _ => nm_r (nI_1 i) (ih (i + 1) (by omega) (by omega)))⟩)
theorem go_sXs {x y k a c s : Nat} (I : go_IS U C) (hc : (((nI k <<< ((24 : Int32) &&& 31)) ||| (nI x <<< ((20 : Int32) &&& 31))) ||| (nI y <<< ((16 : Int32) &&& 31))) ||| nI a = nI c) (hs : s < 64) (hf : U s = false) (hb : ∀ j, j < s → ¬ U j = false) (post : SX → Prop) (hp : post (nI nn, nI ac, nI pc, nI tm, nI md, nI lo, go_B al, go_N A, go_N La, go_N P, go_N Lp, go_M E, go_M D, go_M W, go_N T, go_S (go_up U s true) (go_up C s c))) : ∀ n i, i ≤ s → s - i < n → wX_send_13 post (nI x) (nI y) (nI k) (nI a) (nI nn) (nI ac) (nI pc) (nI tm) (nI md) (nI lo) (go_B al) (go_N A) (go_N La) (go_N P) (go_N Lp) (go_M E) (go_M D) (go_M W) (go_N T) (go_S U C) n (nI i) := by
  intro n
  induction n with
  | zero => intro i _ hn; exact absurd hn (by omega)
  | succ n ih =>
    intro i hi hn
    refine pk_le 64 i (fun z => absurd z (by omega)) (fun h2 => ⟨vp_in_nI h2 (by omega), go_brS I i (fun z => ⟨vp_in_nI h2 (by omega), nm_r (go_uSt U C i c hc) ?_⟩) (fun z => nm_r (nI_1 i) (ih (i + 1) ?_ ?_))⟩)
    · have e : i = s := by
        rcases Nat.lt_or_ge i s with q | q
        · exact absurd z (hb i q)
        · omega
      rw [e]; exact hp
    · have e : i ≠ s := fun q => by rw [q, hf] at z; exact absurd z (by decide)
      omega
    · have e : i ≠ s := fun q => by rw [q, hf] at z; exact absurd z (by decide)
      omega
theorem go_sYf {x y k a : Nat} (h : ∀ s, s < 64 → U s = true) (post : SY → Prop) (hp : post (nI nn, nI ac, nI pc, nI tm, nI (lo + 1), nI md, go_B al, go_N A, go_N La, go_N P, go_N Lp, go_B E, go_B D, go_B W, go_N T, go_B U, go_N C)) : ∀ n i, i ≤ 64 → 64 - i < n → wY_send_16 post (nI x) (nI y) (nI k) (nI a) (nI nn) (nI ac) (nI pc) (nI tm) (nI lo) (nI md) (go_B al) (go_N A) (go_N La) (go_N P) (go_N Lp) (go_B E) (go_B D) (go_B W) (go_N T) (go_B U) (go_N C) n (nI i) := by
  intro n
  induction n with
  | zero => intro i _ hn; exact absurd hn (by omega)
  | succ n ih =>
    intro i hi hn
    exact pk_le 64 i (fun _ => nm_r (nI_1 lo) hp) (fun h2 => ⟨vp_in_nI h2 (by omega), go_brB U i (fun z => absurd z (by rw [h i h2]; decide)) (fun _ => nm_r (nI_1 i) (ih (i + 1) (by omega) (by omega)))⟩)
theorem go_sYs {x y k a c s : Nat} (hc : (((nI k <<< ((24 : Int32) &&& 31)) ||| (nI x <<< ((20 : Int32) &&& 31))) ||| (nI y <<< ((16 : Int32) &&& 31))) ||| nI a = nI c) (hs : s < 64) (hf : U s = false) (hb : ∀ j, j < s → ¬ U j = false) (post : SY → Prop) (hp : post (nI nn, nI ac, nI pc, nI tm, nI lo, nI md, go_B al, go_N A, go_N La, go_N P, go_N Lp, go_B E, go_B D, go_B W, go_N T, go_B (go_up U s true), go_N (go_up C s c))) : ∀ n i, i ≤ s → s - i < n → wY_send_16 post (nI x) (nI y) (nI k) (nI a) (nI nn) (nI ac) (nI pc) (nI tm) (nI lo) (nI md) (go_B al) (go_N A) (go_N La) (go_N P) (go_N Lp) (go_B E) (go_B D) (go_B W) (go_N T) (go_B U) (go_N C) n (nI i) := by
  intro n
  induction n with
  | zero => intro i _ hn; exact absurd hn (by omega)
  | succ n ih =>
    intro i hi hn
    refine pk_le 64 i (fun z => absurd z (by omega)) (fun h2 => ⟨vp_in_nI h2 (by omega), go_brB U i (fun z => ⟨vp_in_nI h2 (by omega), nm_r (go_uB U i true go_vt) ⟨vp_in_nI h2 (by omega), nm_r (go_uN C i c hc) ?_⟩⟩) (fun z => nm_r (nI_1 i) (ih (i + 1) ?_ ?_))⟩)
    · have e : i = s := by
        rcases Nat.lt_or_ge i s with q | q
        · exact absurd z (hb i q)
        · omega
      rw [e]; exact hp
    · have e : i ≠ s := fun q => by rw [q, hf] at z; exact absurd z (by decide)
      omega
    · have e : i ≠ s := fun q => by rw [q, hf] at z; exact absurd z (by decide)
      omega
theorem go_send {x y k a : Nat} (I : go_IS U C) (hl : lo + 1 < 2 ^ 31) (hx : x < 16) (hy : y < 16) (hk0 : 0 < k) (hk : k < 128) (ha : a < 65536) : ∃ (U' : Nat → Bool) (C' : Nat → Nat) (lo' : Nat), go_IS U' C' ∧ lo' ≤ lo + 1 ∧ (∀ post : SX → Prop, post (nI nn, nI ac, nI pc, nI tm, nI md, nI lo', go_B al, go_N A, go_N La, go_N P, go_N Lp, go_M E, go_M D, go_M W, go_N T, go_S U' C') → wpX_send post (nI nn, nI ac, nI pc, nI tm, nI md, nI lo, go_B al, go_N A, go_N La, go_N P, go_N Lp, go_M E, go_M D, go_M W, go_N T, go_S U C) (nI x) (nI y) (nI k) (nI a)) ∧ (∀ post : SY → Prop, post (nI nn, nI ac, nI pc, nI tm, nI lo', nI md, go_B al, go_N A, go_N La, go_N P, go_N Lp, go_B E, go_B D, go_B W, go_N T, go_B U', go_N C') → wpY_send post (nI nn, nI ac, nI pc, nI tm, nI lo, nI md, go_B al, go_N A, go_N La, go_N P, go_N Lp, go_B E, go_B D, go_B W, go_N T, go_B U, go_N C) (nI x) (nI y) (nI k) (nI a)) := by
  obtain ⟨c, hc0, hc1, hc⟩ := go_code k x y a hk0 hk hx hy ha
  have e15 : nI y &&& 15 = nI y := by rw [pk_andN (by omega) 4 (by decide), Nat.mod_eq_of_lt (show y < 2 ^ 4 from hy)]
  cases hal : al y with
  | false => exact ⟨U, C, lo, I, by omega, fun post hp => ⟨vp_in_nI hy (by omega), br_t (go_bz al y hal) hp⟩, fun post hp => ⟨pk_in y 16 hy e15, br_t (go_bz al y hal e15) hp⟩⟩
  | true =>
    rcases go_first (fun s => U s = false) 64 with h | ⟨s, hs, hf, hb⟩
    · have h' : ∀ s, s < 64 → U s = true := fun s hs => by have := h s hs; simpa using this
      exact ⟨U, C, lo + 1, I, by omega, fun post hp => ⟨vp_in_nI hy (by omega), br_f (go_bn al y hal) ⟨65, go_sXf nn ac pc tm md lo al A La P Lp E D W T U C I hl h' post hp 65 0 (by omega) (by omega)⟩⟩, fun post hp => ⟨pk_in y 16 hy e15, br_f (go_bn al y hal e15) ⟨65, go_sYf nn ac pc tm md lo al A La P Lp E D W T U C h' post hp 65 0 (by omega) (by omega)⟩⟩⟩
    · exact ⟨go_up U s true, go_up C s c, lo, go_ISt I s c hc0 hc1, by omega, fun post hp => ⟨vp_in_nI hy (by omega), br_f (go_bn al y hal) ⟨65, go_sXs nn ac pc tm md lo al A La P Lp E D W T U C I hc hs hf hb post hp 65 0 (by omega) (by omega)⟩⟩, fun post hp => ⟨pk_in y 16 hy e15, br_f (go_bn al y hal e15) ⟨65, go_sYs nn ac pc tm md lo al A La P Lp E D W T U C hc hs hf hb post hp 65 0 (by omega) (by omega)⟩⟩⟩
end
