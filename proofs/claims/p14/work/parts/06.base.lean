section
variable (nn ac pc tm md lo : Nat) (al : Nat → Bool) (A La P Lp : Nat → Nat) (E D W : Nat → Bool) (T : Nat → Nat) (U : Nat → Bool) (C : Nat → Nat)
theorem go_lkX4 {x y : Nat} (hA : ∀ j, A j < 16) (hL : La x ≤ 4) (hx : x < 16) (hy : y < 16) (h : ∀ i, i < La x → A (x * 4 + i) ≠ y) (post : Int32 → Prop) (hp : post 0) : ∀ n i, i ≤ La x → La x - i < n → wX_isActive_2 post (nI x) (nI y) (nI nn) (nI ac) (nI pc) (nI tm) (nI md) (nI lo) (go_B al) (go_N A) (go_N La) (go_N P) (go_N Lp) (go_M E) (go_M D) (go_M W) (go_N T) (go_S U C) n (nI i) := by
  intro n
  induction n with
  | zero => intro i _ hn; exact absurd hn (by omega)
  | succ n ih =>
    intro i hi hn
    exact ⟨vp_in_nI hx (by omega), pk_le (La x) i (fun _ => hp) (fun h2 => ⟨pk_in (x * 4 + i) 64 (by omega) (go_ix4 x i), br_f (by rw [go_rN A (x * 4 + i) (go_ix4 x i) (by omega), nI_eq (by have := hA (x * 4 + i); omega) (by omega)]; exact h i h2) (nm_r (nI_1 i) (ih (i + 1) (by omega) (by omega)))⟩) (go_rN La x rfl (by omega)) rfl (by omega) (by omega)⟩
theorem go_lkXy4 {x y i0 : Nat} (hA : ∀ j, A j < 16) (hL : La x ≤ 4) (hx : x < 16) (hy : y < 16) (h0 : i0 < La x) (he : A (x * 4 + i0) = y) (post : Int32 → Prop) (hp : post 1) : ∀ n i, i ≤ i0 → i0 - i < n → wX_isActive_2 post (nI x) (nI y) (nI nn) (nI ac) (nI pc) (nI tm) (nI md) (nI lo) (go_B al) (go_N A) (go_N La) (go_N P) (go_N Lp) (go_M E) (go_M D) (go_M W) (go_N T) (go_S U C) n (nI i) := by
  intro n
  induction n with
  | zero => intro i _ hn; exact absurd hn (by omega)
  | succ n ih =>
    intro i hi hn
    refine ⟨vp_in_nI hx (by omega), pk_le (La x) i (fun h2 => absurd h2 (by omega)) (fun h2 => ⟨pk_in (x * 4 + i) 64 (by omega) (go_ix4 x i), pk_eq (A (x * 4 + i)) y (fun _ => hp) (fun h3 => ?_) (go_rN A (x * 4 + i) (go_ix4 x i) (by omega)) rfl (by have := hA (x * 4 + i); omega) (by omega)⟩) (go_rN La x rfl (by omega)) rfl (by omega) (by omega)⟩
    have h4 : i ≠ i0 := fun q => h3 (by rw [q]; exact he)
    exact nm_r (nI_1 i) (ih (i + 1) (by omega) (by omega))
theorem go_is4 {x y : Nat} (hA : ∀ j, A j < 16) (hL : La x ≤ 4) (hx : x < 16) (hy : y < 16) (h : ∀ i, i < La x → A (x * 4 + i) ≠ y) (post : Int32 → Prop) (hp : post 0) : wpX_isActive post (nI nn, nI ac, nI pc, nI tm, nI md, nI lo, go_B al, go_N A, go_N La, go_N P, go_N Lp, go_M E, go_M D, go_M W, go_N T, go_S U C) (nI x) (nI y) := ⟨La x + 1, go_lkX4 nn ac pc tm md lo al A La P Lp E D W T U C hA hL hx hy h post hp _ 0 (by omega) (by omega)⟩
theorem go_isy4 {x y i0 : Nat} (hA : ∀ j, A j < 16) (hL : La x ≤ 4) (hx : x < 16) (hy : y < 16) (h0 : i0 < La x) (he : A (x * 4 + i0) = y) (post : Int32 → Prop) (hp : post 1) : wpX_isActive post (nI nn, nI ac, nI pc, nI tm, nI md, nI lo, go_B al, go_N A, go_N La, go_N P, go_N Lp, go_M E, go_M D, go_M W, go_N T, go_S U C) (nI x) (nI y) := ⟨i0 + 1, go_lkXy4 nn ac pc tm md lo al A La P Lp E D W T U C hA hL hx hy h0 he post hp _ 0 (by omega) (by omega)⟩
theorem go_lkX8 {x y : Nat} (hA : ∀ j, P j < 16) (hL : Lp x ≤ 8) (hx : x < 16) (hy : y < 16) (h : ∀ i, i < Lp x → P (x * 8 + i) ≠ y) (post : Int32 → Prop) (hp : post 0) : ∀ n i, i ≤ Lp x → Lp x - i < n → wX_isPassive_2 post (nI x) (nI y) (nI nn) (nI ac) (nI pc) (nI tm) (nI md) (nI lo) (go_B al) (go_N A) (go_N La) (go_N P) (go_N Lp) (go_M E) (go_M D) (go_M W) (go_N T) (go_S U C) n (nI i) := by
  intro n
  induction n with
  | zero => intro i _ hn; exact absurd hn (by omega)
  | succ n ih =>
    intro i hi hn
    exact ⟨vp_in_nI hx (by omega), pk_le (Lp x) i (fun _ => hp) (fun h2 => ⟨pk_in (x * 8 + i) 128 (by omega) (go_ix8 x i), br_f (by rw [go_rN P (x * 8 + i) (go_ix8 x i) (by omega), nI_eq (by have := hA (x * 8 + i); omega) (by omega)]; exact h i h2) (nm_r (nI_1 i) (ih (i + 1) (by omega) (by omega)))⟩) (go_rN Lp x rfl (by omega)) rfl (by omega) (by omega)⟩
theorem go_lkXy8 {x y i0 : Nat} (hA : ∀ j, P j < 16) (hL : Lp x ≤ 8) (hx : x < 16) (hy : y < 16) (h0 : i0 < Lp x) (he : P (x * 8 + i0) = y) (post : Int32 → Prop) (hp : post 1) : ∀ n i, i ≤ i0 → i0 - i < n → wX_isPassive_2 post (nI x) (nI y) (nI nn) (nI ac) (nI pc) (nI tm) (nI md) (nI lo) (go_B al) (go_N A) (go_N La) (go_N P) (go_N Lp) (go_M E) (go_M D) (go_M W) (go_N T) (go_S U C) n (nI i) := by
  intro n
  induction n with
  | zero => intro i _ hn; exact absurd hn (by omega)
  | succ n ih =>
    intro i hi hn
    refine ⟨vp_in_nI hx (by omega), pk_le (Lp x) i (fun h2 => absurd h2 (by omega)) (fun h2 => ⟨pk_in (x * 8 + i) 128 (by omega) (go_ix8 x i), pk_eq (P (x * 8 + i)) y (fun _ => hp) (fun h3 => ?_) (go_rN P (x * 8 + i) (go_ix8 x i) (by omega)) rfl (by have := hA (x * 8 + i); omega) (by omega)⟩) (go_rN Lp x rfl (by omega)) rfl (by omega) (by omega)⟩
    have h4 : i ≠ i0 := fun q => h3 (by rw [q]; exact he)
    exact nm_r (nI_1 i) (ih (i + 1) (by omega) (by omega))
theorem go_is8 {x y : Nat} (hA : ∀ j, P j < 16) (hL : Lp x ≤ 8) (hx : x < 16) (hy : y < 16) (h : ∀ i, i < Lp x → P (x * 8 + i) ≠ y) (post : Int32 → Prop) (hp : post 0) : wpX_isPassive post (nI nn, nI ac, nI pc, nI tm, nI md, nI lo, go_B al, go_N A, go_N La, go_N P, go_N Lp, go_M E, go_M D, go_M W, go_N T, go_S U C) (nI x) (nI y) := ⟨Lp x + 1, go_lkX8 nn ac pc tm md lo al A La P Lp E D W T U C hA hL hx hy h post hp _ 0 (by omega) (by omega)⟩
theorem go_isy8 {x y i0 : Nat} (hA : ∀ j, P j < 16) (hL : Lp x ≤ 8) (hx : x < 16) (hy : y < 16) (h0 : i0 < Lp x) (he : P (x * 8 + i0) = y) (post : Int32 → Prop) (hp : post 1) : wpX_isPassive post (nI nn, nI ac, nI pc, nI tm, nI md, nI lo, go_B al, go_N A, go_N La, go_N P, go_N Lp, go_M E, go_M D, go_M W, go_N T, go_S U C) (nI x) (nI y) := ⟨i0 + 1, go_lkXy8 nn ac pc tm md lo al A La P Lp E D W T U C hA hL hx hy h0 he post hp _ 0 (by omega) (by omega)⟩
theorem go_sXf {x y k a : Nat} (I : go_IS U C) (hl : lo + 1 < 2 ^ 31) (h : ∀ s, s < 64 → U s = true) (post : St2 → Prop) (hp : post (nI nn, nI ac, nI pc, nI tm, nI md, nI (lo + 1), go_B al, go_N A, go_N La, go_N P, go_N Lp, go_M E, go_M D, go_M W, go_N T, go_S U C)) : ∀ n i, i ≤ 64 → 64 - i < n → wX_send_13 post (nI x) (nI y) (nI k) (nI a) (nI nn) (nI ac) (nI pc) (nI tm) (nI md) (nI lo) (go_B al) (go_N A) (go_N La) (go_N P) (go_N Lp) (go_M E) (go_M D) (go_M W) (go_N T) (go_S U C) n (nI i) := by
  intro n
  induction n with
  | zero => intro i _ hn; exact absurd hn (by omega)
  | succ n ih =>
    intro i hi hn
    exact pk_le 64 i (fun _ => pk_le 2147483647 lo (fun z => absurd z (by omega)) (fun _ => nm_r (nI_1 lo) hp)) (fun h2 => ⟨vp_in_nI h2 (by omega), go_brS I i (fun z => absurd z (by rw [h i h2]; decide)) (fun _ => nm_r (nI_1 i) (ih (i + 1) (by omega) (by omega)))⟩)
theorem go_sXs {x y k a c s : Nat} (I : go_IS U C) (hc : (((nI k <<< ((24 : Int32) &&& 31)) ||| (nI x <<< ((20 : Int32) &&& 31))) ||| (nI y <<< ((16 : Int32) &&& 31))) ||| nI a = nI c) (hs : s < 64) (hf : U s = false) (hb : ∀ j, j < s → ¬ U j = false) (post : St2 → Prop) (hp : post (nI nn, nI ac, nI pc, nI tm, nI md, nI lo, go_B al, go_N A, go_N La, go_N P, go_N Lp, go_M E, go_M D, go_M W, go_N T, go_S (go_up U s true) (go_up C s c))) : ∀ n i, i ≤ s → s - i < n → wX_send_13 post (nI x) (nI y) (nI k) (nI a) (nI nn) (nI ac) (nI pc) (nI tm) (nI md) (nI lo) (go_B al) (go_N A) (go_N La) (go_N P) (go_N Lp) (go_M E) (go_M D) (go_M W) (go_N T) (go_S U C) n (nI i) := by
  intro n
  induction n with
  | zero => intro i _ hn; exact absurd hn (by omega)
  | succ n ih =>
    intro i hi hn
    refine pk_le 64 i (fun z => absurd z (by omega)) (fun h2 => ⟨vp_in_nI h2 (by omega), go_brS I i (fun z => ⟨vp_in_nI h2 (by omega), nm_r (go_uSt U C i c hc) ?_⟩) (fun z => nm_r (nI_1 i) (ih (i + 1) ?_ ?_))⟩)
    · have e : i = s := by
        rcases Nat.lt_or_ge i s with q | q
        · exact absurd z (hb i q)
        · omega
      rw [e]; exact hp
    · have e : i ≠ s := fun q => by rw [q, hf] at z; exact absurd z (by decide)
      omega
    · have e : i ≠ s := fun q => by rw [q, hf] at z; exact absurd z (by decide)
      omega
theorem go_cX24 {x y i0 : Nat} (hc : ac ≤ 4) (I : go_IV4 ac A La) (hx : x < 16) (hy : y < 16) (h0 : i0 < La x) (he : A (x * 4 + i0) = y) (post : Int32 → St2 → Prop) (hp : post 1  (nI nn, nI ac, nI pc, nI tm, nI md, nI lo, go_B al, go_N (go_sh A (x * 4 + i0) (x * 4 + (La x - 1))), go_N (go_up La x (La x - 1)), go_N P, go_N Lp, go_M (go_up E (x * 16 + y) false), go_M D, go_M W, go_N T, go_S U C)) : ∀ n m, i0 ≤ m → m + 1 ≤ La x → La x - m ≤ n → wX_removeActive_13 post (nI x) (nI y) (nI (La x)) (nI nn) (nI ac) (nI pc) (nI tm) (nI md) (nI lo) n (nI m) (nI (m + 1)) (go_B al) (go_N (go_sh A (x * 4 + i0) (x * 4 + m))) (go_N La) (go_N P) (go_N Lp) (go_M E) (go_M D) (go_M W) (go_N T) (go_S U C) := by
  have hl := I.2.1 x
  intro n
  induction n with
  | zero => intro m _ _ hn; exact absurd hn (by omega)
  | succ n ih =>
    intro m hm1 hm2 hn
    refine pk_le (La x) (m + 1) (fun h => ⟨vp_in_nI hx (by omega), nm_r (go_uN La x m rfl) ?_⟩) (fun h => ⟨pk_in (x * 4 + (m + 1)) 64 (by omega) (go_ix4 x (m + 1)), nm_r ((go_rN _ (x * 4 + (m + 1)) (go_ix4 x (m + 1)) (by omega)).trans (congrArg nI (go_shr A (by omega)))) (br_f ?_ ⟨pk_in (x * 4 + m) 64 (by omega) (go_ix4 x m), nm_r ((go_uN _ (x * 4 + m) (A (x * 4 + (m + 1))) rfl (go_ix4 x m)).trans (congrArg go_N (go_shs A (by omega)))) (nm_r (nI_1 m) (nm_r (nI_1 (m + 1)) (ih (m + 1) (by omega) (by omega) (by omega))))⟩)⟩)
    · have hm : La x - 1 = m := by omega
      rw [hm] at hp
      exact ⟨vp_in_nI hx (by omega), vp_in_nI hx (by omega), nm_r (go_uMc E x y hy) (br_f (nI_ge (by omega) (by omega)) hp)⟩
    · rw [nI_eq (by have := I.1 (x * 4 + (m + 1)); omega) (by omega), ← he]
      exact (I.2.2 x i0 (m + 1) (by omega) (by omega)).symm
theorem go_cX14 {x y i0 : Nat} (hc : ac ≤ 4) (I : go_IV4 ac A La) (hx : x < 16) (hy : y < 16) (h0 : i0 < La x) (he : A (x * 4 + i0) = y) (post : Int32 → St2 → Prop) (hp : post 1  (nI nn, nI ac, nI pc, nI tm, nI md, nI lo, go_B al, go_N (go_sh A (x * 4 + i0) (x * 4 + (La x - 1))), go_N (go_up La x (La x - 1)), go_N P, go_N Lp, go_M (go_up E (x * 16 + y) false), go_M D, go_M W, go_N T, go_S U C)) : ∀ n i, i ≤ i0 → La x - i < n → wX_removeActive_13 post (nI x) (nI y) (nI (La x)) (nI nn) (nI ac) (nI pc) (nI tm) (nI md) (nI lo) n (nI i) (nI i) (go_B al) (go_N A) (go_N La) (go_N P) (go_N Lp) (go_M E) (go_M D) (go_M W) (go_N T) (go_S U C) := by
  have hl := I.2.1 x
  intro n
  induction n with
  | zero => intro m _ hn; exact absurd hn (by omega)
  | succ n ih =>
    intro i hi hn
    refine pk_le (La x) i (fun h => absurd h (by omega)) (fun h => ⟨pk_in (x * 4 + i) 64 (by omega) (go_ix4 x i), nm_r (go_rN A (x * 4 + i) (go_ix4 x i) (by omega)) (pk_eq (A (x * 4 + i)) y (fun h3 => nm_r (nI_1 i) ?_) (fun h3 => ⟨pk_in (x * 4 + i) 64 (by omega) (go_ix4 x i), nm_r ((go_uN A (x * 4 + i) (A (x * 4 + i)) rfl (go_ix4 x i)).trans (congrArg go_N (go_ui A _))) (nm_r (nI_1 i) (nm_r (nI_1 i) (ih (i + 1) ?_ (by omega))))⟩) rfl rfl (by have := I.1 (x * 4 + i); omega) (by omega))⟩)
    · have e : i = i0 := by
        rcases Nat.lt_or_ge i i0 with q | q
        · exact absurd (h3.trans he.symm) (I.2.2 x i i0 q h0)
        · omega
      have w := go_cX24 nn ac pc tm md lo al A La P Lp E D W T U C hc I hx hy h0 he post hp n i0 (by omega) (by omega) (by omega)
      rw [go_sh0] at w
      rw [e]
      exact w
    · have e : i ≠ i0 := fun q => h3 (by rw [q]; exact he)
      omega
theorem go_cX04 {x y : Nat} (hc : ac ≤ 4) (I : go_IV4 ac A La) (JE : go_IE A La E) (hx : x < 16) (hy : y < 16) (ha : ∀ i, i < La x → A (x * 4 + i) ≠ y) (post : Int32 → St2 → Prop) (hp : post 0  (nI nn, nI ac, nI pc, nI tm, nI md, nI lo, go_B al, go_N A, go_N La, go_N P, go_N Lp, go_M E, go_M D, go_M W, go_N T, go_S U C)) : ∀ n i, i ≤ La x → La x - i < n → wX_removeActive_13 post (nI x) (nI y) (nI (La x)) (nI nn) (nI ac) (nI pc) (nI tm) (nI md) (nI lo) n (nI i) (nI i) (go_B al) (go_N A) (go_N La) (go_N P) (go_N Lp) (go_M E) (go_M D) (go_M W) (go_N T) (go_S U C) := by
  have hl := I.2.1 x
  intro n
  induction n with
  | zero => intro m _ hn; exact absurd hn (by omega)
  | succ n ih =>
    intro i hi hn
    refine pk_le (La x) i (fun h => ⟨vp_in_nI hx (by omega), nm_r ((go_uN La x i rfl).trans (congrArg go_N (show go_up La x i = La by rw [show i = La x by omega]; exact go_ui La x))) ?_⟩) (fun h => ⟨pk_in (x * 4 + i) 64 (by omega) (go_ix4 x i), nm_r (go_rN A (x * 4 + i) (go_ix4 x i) (by omega)) (br_f ?_ ⟨pk_in (x * 4 + i) 64 (by omega) (go_ix4 x i), nm_r ((go_uN A (x * 4 + i) (A (x * 4 + i)) rfl (go_ix4 x i)).trans (congrArg go_N (go_ui A _))) (nm_r (nI_1 i) (nm_r (nI_1 i) (ih (i + 1) (by omega) (by omega))))⟩)⟩)
    · exact ⟨vp_in_nI hx (by omega), vp_in_nI hx (by omega), nm_r ((go_uMc E x y hy).trans (congrArg go_M (go_Eno JE hy ha))) (br_t (nI_le (by omega) (by omega)) hp)⟩
    · rw [nI_eq (by have := I.1 (x * 4 + i); omega) (by omega)]
      exact ha i h
theorem go_rX14 {x y i0 : Nat} (hc : ac ≤ 4) (I : go_IV4 ac A La) (hx : x < 16) (hy : y < 16) (h0 : i0 < La x) (he : A (x * 4 + i0) = y) (post : Int32 → St2 → Prop) (hp : post 1  (nI nn, nI ac, nI pc, nI tm, nI md, nI lo, go_B al, go_N (go_sh A (x * 4 + i0) (x * 4 + (La x - 1))), go_N (go_up La x (La x - 1)), go_N P, go_N Lp, go_M (go_up E (x * 16 + y) false), go_M D, go_M W, go_N T, go_S U C)) : wpX_removeActive post (nI nn, nI ac, nI pc, nI tm, nI md, nI lo, go_B al, go_N A, go_N La, go_N P, go_N Lp, go_M E, go_M D, go_M W, go_N T, go_S U C) (nI x) (nI y) := ⟨vp_in_nI hx (by omega), nm_r (go_rN La x rfl (by omega)) ⟨La x + 1, go_cX14 nn ac pc tm md lo al A La P Lp E D W T U C hc I hx hy h0 he post hp _ 0 (by omega) (by omega)⟩⟩
theorem go_rX04 {x y : Nat} (hc : ac ≤ 4) (I : go_IV4 ac A La) (JE : go_IE A La E) (hx : x < 16) (hy : y < 16) (ha : ∀ i, i < La x → A (x * 4 + i) ≠ y) (post : Int32 → St2 → Prop) (hp : post 0  (nI nn, nI ac, nI pc, nI tm, nI md, nI lo, go_B al, go_N A, go_N La, go_N P, go_N Lp, go_M E, go_M D, go_M W, go_N T, go_S U C)) : wpX_removeActive post (nI nn, nI ac, nI pc, nI tm, nI md, nI lo, go_B al, go_N A, go_N La, go_N P, go_N Lp, go_M E, go_M D, go_M W, go_N T, go_S U C) (nI x) (nI y) := ⟨vp_in_nI hx (by omega), nm_r (go_rN La x rfl (by omega)) ⟨La x + 1, go_cX04 nn ac pc tm md lo al A La P Lp E D W T U C hc I JE hx hy ha post hp _ 0 (by omega) (by omega)⟩⟩
theorem go_cX28 {x y i0 : Nat} (hc : pc ≤ 8) (I : go_IV8 pc P Lp) (hx : x < 16) (hy : y < 16) (h0 : i0 < Lp x) (he : P (x * 8 + i0) = y) (post : St2 → Prop) (hp : post  (nI nn, nI ac, nI pc, nI tm, nI md, nI lo, go_B al, go_N A, go_N La, go_N (go_sh P (x * 8 + i0) (x * 8 + (Lp x - 1))), go_N (go_up Lp x (Lp x - 1)), go_M E, go_M D, go_M W, go_N T, go_S U C)) : ∀ n m, i0 ≤ m → m + 1 ≤ Lp x → Lp x - m ≤ n → wX_removePassive_13 post (nI x) (nI y) (nI (Lp x)) (nI nn) (nI ac) (nI pc) (nI tm) (nI md) (nI lo) n (nI m) (nI (m + 1)) (go_B al) (go_N A) (go_N La) (go_N (go_sh P (x * 8 + i0) (x * 8 + m))) (go_N Lp) (go_M E) (go_M D) (go_M W) (go_N T) (go_S U C) := by
  have hl := I.2.1 x
  intro n
  induction n with
  | zero => intro m _ _ hn; exact absurd hn (by omega)
  | succ n ih =>
    intro m hm1 hm2 hn
    refine pk_le (Lp x) (m + 1) (fun h => ⟨vp_in_nI hx (by omega), nm_r (go_uN Lp x m rfl) ?_⟩) (fun h => ⟨pk_in (x * 8 + (m + 1)) 128 (by omega) (go_ix8 x (m + 1)), nm_r ((go_rN _ (x * 8 + (m + 1)) (go_ix8 x (m + 1)) (by omega)).trans (congrArg nI (go_shr P (by omega)))) (br_f ?_ ⟨pk_in (x * 8 + m) 128 (by omega) (go_ix8 x m), nm_r ((go_uN _ (x * 8 + m) (P (x * 8 + (m + 1))) rfl (go_ix8 x m)).trans (congrArg go_N (go_shs P (by omega)))) (nm_r (nI_1 m) (nm_r (nI_1 (m + 1)) (ih (m + 1) (by omega) (by omega) (by omega))))⟩)⟩)
    · have hm : Lp x - 1 = m := by omega
      rw [hm] at hp
      exact hp
    · rw [nI_eq (by have := I.1 (x * 8 + (m + 1)); omega) (by omega), ← he]
      exact (I.2.2 x i0 (m + 1) (by omega) (by omega)).symm
theorem go_cX18 {x y i0 : Nat} (hc : pc ≤ 8) (I : go_IV8 pc P Lp) (hx : x < 16) (hy : y < 16) (h0 : i0 < Lp x) (he : P (x * 8 + i0) = y) (post : St2 → Prop) (hp : post  (nI nn, nI ac, nI pc, nI tm, nI md, nI lo, go_B al, go_N A, go_N La, go_N (go_sh P (x * 8 + i0) (x * 8 + (Lp x - 1))), go_N (go_up Lp x (Lp x - 1)), go_M E, go_M D, go_M W, go_N T, go_S U C)) : ∀ n i, i ≤ i0 → Lp x - i < n → wX_removePassive_13 post (nI x) (nI y) (nI (Lp x)) (nI nn) (nI ac) (nI pc) (nI tm) (nI md) (nI lo) n (nI i) (nI i) (go_B al) (go_N A) (go_N La) (go_N P) (go_N Lp) (go_M E) (go_M D) (go_M W) (go_N T) (go_S U C) := by
  have hl := I.2.1 x
  intro n
  induction n with
  | zero => intro m _ hn; exact absurd hn (by omega)
  | succ n ih =>
    intro i hi hn
    refine pk_le (Lp x) i (fun h => absurd h (by omega)) (fun h => ⟨pk_in (x * 8 + i) 128 (by omega) (go_ix8 x i), nm_r (go_rN P (x * 8 + i) (go_ix8 x i) (by omega)) (pk_eq (P (x * 8 + i)) y (fun h3 => nm_r (nI_1 i) ?_) (fun h3 => ⟨pk_in (x * 8 + i) 128 (by omega) (go_ix8 x i), nm_r ((go_uN P (x * 8 + i) (P (x * 8 + i)) rfl (go_ix8 x i)).trans (congrArg go_N (go_ui P _))) (nm_r (nI_1 i) (nm_r (nI_1 i) (ih (i + 1) ?_ (by omega))))⟩) rfl rfl (by have := I.1 (x * 8 + i); omega) (by omega))⟩)
    · have e : i = i0 := by
        rcases Nat.lt_or_ge i i0 with q | q
        · exact absurd (h3.trans he.symm) (I.2.2 x i i0 q h0)
        · omega
      have w := go_cX28 nn ac pc tm md lo al A La P Lp E D W T U C hc I hx hy h0 he post hp n i0 (by omega) (by omega) (by omega)
      rw [go_sh0] at w
      rw [e]
      exact w
    · have e : i ≠ i0 := fun q => h3 (by rw [q]; exact he)
      omega
theorem go_cX08 {x y : Nat} (hc : pc ≤ 8) (I : go_IV8 pc P Lp) (hx : x < 16) (hy : y < 16) (ha : ∀ i, i < Lp x → P (x * 8 + i) ≠ y) (post : St2 → Prop) (hp : post  (nI nn, nI ac, nI pc, nI tm, nI md, nI lo, go_B al, go_N A, go_N La, go_N P, go_N Lp, go_M E, go_M D, go_M W, go_N T, go_S U C)) : ∀ n i, i ≤ Lp x → Lp x - i < n → wX_removePassive_13 post (nI x) (nI y) (nI (Lp x)) (nI nn) (nI ac) (nI pc) (nI tm) (nI md) (nI lo) n (nI i) (nI i) (go_B al) (go_N A) (go_N La) (go_N P) (go_N Lp) (go_M E) (go_M D) (go_M W) (go_N T) (go_S U C) := by
  have hl := I.2.1 x
  intro n
  induction n with
  | zero => intro m _ hn; exact absurd hn (by omega)
  | succ n ih =>
    intro i hi hn
    refine pk_le (Lp x) i (fun h => ⟨vp_in_nI hx (by omega), nm_r ((go_uN Lp x i rfl).trans (congrArg go_N (show go_up Lp x i = Lp by rw [show i = Lp x by omega]; exact go_ui Lp x))) ?_⟩) (fun h => ⟨pk_in (x * 8 + i) 128 (by omega) (go_ix8 x i), nm_r (go_rN P (x * 8 + i) (go_ix8 x i) (by omega)) (br_f ?_ ⟨pk_in (x * 8 + i) 128 (by omega) (go_ix8 x i), nm_r ((go_uN P (x * 8 + i) (P (x * 8 + i)) rfl (go_ix8 x i)).trans (congrArg go_N (go_ui P _))) (nm_r (nI_1 i) (nm_r (nI_1 i) (ih (i + 1) (by omega) (by omega))))⟩)⟩)
    · exact hp
    · rw [nI_eq (by have := I.1 (x * 8 + i); omega) (by omega)]
      exact ha i h
theorem go_rX18 {x y i0 : Nat} (hc : pc ≤ 8) (I : go_IV8 pc P Lp) (hx : x < 16) (hy : y < 16) (h0 : i0 < Lp x) (he : P (x * 8 + i0) = y) (post : St2 → Prop) (hp : post  (nI nn, nI ac, nI pc, nI tm, nI md, nI lo, go_B al, go_N A, go_N La, go_N (go_sh P (x * 8 + i0) (x * 8 + (Lp x - 1))), go_N (go_up Lp x (Lp x - 1)), go_M E, go_M D, go_M W, go_N T, go_S U C)) : wpX_removePassive post (nI nn, nI ac, nI pc, nI tm, nI md, nI lo, go_B al, go_N A, go_N La, go_N P, go_N Lp, go_M E, go_M D, go_M W, go_N T, go_S U C) (nI x) (nI y) := ⟨vp_in_nI hx (by omega), nm_r (go_rN Lp x rfl (by omega)) ⟨Lp x + 1, go_cX18 nn ac pc tm md lo al A La P Lp E D W T U C hc I hx hy h0 he post hp _ 0 (by omega) (by omega)⟩⟩
theorem go_rX08 {x y : Nat} (hc : pc ≤ 8) (I : go_IV8 pc P Lp) (hx : x < 16) (hy : y < 16) (ha : ∀ i, i < Lp x → P (x * 8 + i) ≠ y) (post : St2 → Prop) (hp : post  (nI nn, nI ac, nI pc, nI tm, nI md, nI lo, go_B al, go_N A, go_N La, go_N P, go_N Lp, go_M E, go_M D, go_M W, go_N T, go_S U C)) : wpX_removePassive post (nI nn, nI ac, nI pc, nI tm, nI md, nI lo, go_B al, go_N A, go_N La, go_N P, go_N Lp, go_M E, go_M D, go_M W, go_N T, go_S U C) (nI x) (nI y) := ⟨vp_in_nI hx (by omega), nm_r (go_rN Lp x rfl (by omega)) ⟨Lp x + 1, go_cX08 nn ac pc tm md lo al A La P Lp E D W T U C hc I hx hy ha post hp _ 0 (by omega) (by omega)⟩⟩
theorem go_pyX {x y : Nat} (hx : x < 16) (hy : y < 16) (hl : Lp x < 8) (post : St2 → Prop) (hp : post (nI nn, nI ac, nI pc, nI tm, nI md, nI lo, go_B al, go_N A, go_N La, go_N (go_up P (x * 8 + Lp x) y), go_N (go_up Lp x (Lp x + 1)), go_M E, go_M D, go_M W, go_N T, go_S U C)) : wX_addPassive_53 post (nI x) (nI y) (nI nn) (nI ac) (nI pc) (nI tm) (nI md) (nI lo) (go_B al) (go_N A) (go_N La) (go_N P) (go_N Lp) (go_M E) (go_M D) (go_M W) (go_N T) (go_S U C) := by
  have e1 : nI x * 8 + go_N Lp (nI x).toNatClampNeg = nI (x * 8 + Lp x) := by rw [go_rN Lp x rfl (by omega)]; exact go_ix8 x (Lp x)
  have e2 : go_N Lp (nI x).toNatClampNeg + 1 = nI (Lp x + 1) := by rw [go_rN Lp x rfl (by omega)]; exact nI_1 _
  exact ⟨vp_in_nI hx (by omega), pk_in (x * 8 + Lp x) 128 (by omega) e1, nm_r (go_uN P (x * 8 + Lp x) y rfl e1) ⟨vp_in_nI hx (by omega), vp_in_nI hx (by omega), nm_r (go_uN Lp x (Lp x + 1) e2) hp⟩⟩
theorem go_me1 {x y i : Nat} (hA : ∀ j, A j < 16) (hL : La x ≤ 4) (hx : x < 16) (hy : y < 16) (hi : i < La x) (he : A (x * 4 + i) = y) (post : St2 → Prop) (hp : post (nI nn, nI ac, nI pc, nI tm, nI md, nI lo, go_B al, go_N A, go_N La, go_N P, go_N Lp, go_M (go_up E (x * 16 + y) true), go_M D, go_M W, go_N T, go_S U C)) : wpX_makeEager post (nI nn, nI ac, nI pc, nI tm, nI md, nI lo, go_B al, go_N A, go_N La, go_N P, go_N Lp, go_M E, go_M D, go_M W, go_N T, go_S U C) (nI x) (nI y) := by
  unfold wpX_makeEager
  exact go_isy4 nn ac pc tm md lo al A La P Lp E D W T U C hA hL hx hy hi he _ (br_f (by decide) ⟨vp_in_nI hx (by omega), vp_in_nI hx (by omega), nm_r (go_uMs E x y hy) hp⟩)
theorem go_me0 {x y : Nat} (hA : ∀ j, A j < 16) (hL : La x ≤ 4) (hx : x < 16) (hy : y < 16) (h : ∀ i, i < La x → A (x * 4 + i) ≠ y) (post : St2 → Prop) (hp : post (nI nn, nI ac, nI pc, nI tm, nI md, nI lo, go_B al, go_N A, go_N La, go_N P, go_N Lp, go_M E, go_M D, go_M W, go_N T, go_S U C)) : wpX_makeEager post (nI nn, nI ac, nI pc, nI tm, nI md, nI lo, go_B al, go_N A, go_N La, go_N P, go_N Lp, go_M E, go_M D, go_M W, go_N T, go_S U C) (nI x) (nI y) := by
  unfold wpX_makeEager
  exact go_is4 nn ac pc tm md lo al A La P Lp E D W T U C hA hL hx hy h _ (br_t rfl hp)
theorem go_stl {x g : Nat} (hx : x < 16) (post : St2 → Prop) (hp : post (nI nn, nI ac, nI pc, nI tm, nI md, nI lo, go_B al, go_N A, go_N La, go_N P, go_N Lp, go_M E, go_M D, go_M (go_oW W x (nI g) 16), go_N (go_ov T 0 x (nI g) 16), go_S U C)) : ∀ n b, b ≤ 16 → 16 - b < n → wX_stopWaitingFor_2 post (nI x) (nI g) (nI nn) (nI ac) (nI pc) (nI tm) (nI md) (nI lo) n (nI b) (go_B al) (go_N A) (go_N La) (go_N P) (go_N Lp) (go_M E) (go_M D) (go_M (go_oW W x (nI g) b)) (go_N (go_ov T 0 x (nI g) b)) (go_S U C) := by
  intro n
  induction n with
  | zero => intro i _ hn; exact absurd hn (by omega)
  | succ n ih =>
    intro b hb hn
    refine pk_le 16 b (fun h => ?_) (fun h => go_brb g b h (fun z => nm_r (nI_1 b) ?_) (fun z => ⟨pk_in (x * 16 + b) 256 (by omega) (go_ix16 x b), nm_r ((go_uMz _ (x * 16 + b) (go_ix16 x b)).trans (congrArg go_M (go_oWt W x z))) ⟨pk_in (x * 16 + b) 256 (by omega) (go_ix16 x b), nm_r ((go_uN _ (x * 16 + b) 0 rfl (go_ix16 x b)).trans (congrArg go_N (go_ovt T 0 x z))) (nm_r (nI_1 b) (ih (b + 1) (by omega) (by omega)))⟩⟩))
    · have e : b = 16 := by omega
      rw [e]; exact hp
    · have w := ih (b + 1) (by omega) (by omega)
      rw [← go_oWf W x z, ← go_ovf T 0 x z] at w
      exact w
theorem go_stop {x g : Nat} (hx : x < 16) (post : St2 → Prop) (hp : post (nI nn, nI ac, nI pc, nI tm, nI md, nI lo, go_B al, go_N A, go_N La, go_N P, go_N Lp, go_M E, go_M D, go_M (go_oW W x (nI g) 16), go_N (go_ov T 0 x (nI g) 16), go_S U C)) : wpX_stopWaitingFor post (nI nn, nI ac, nI pc, nI tm, nI md, nI lo, go_B al, go_N A, go_N La, go_N P, go_N Lp, go_M E, go_M D, go_M W, go_N T, go_S U C) (nI x) (nI g) := by
  have w := go_stl nn ac pc tm md lo al A La P Lp E D W T U C hx post hp 17 0 (by omega) (by omega)
  rw [go_oW0, go_ov0] at w
  exact ⟨17, w⟩
theorem go_fx0 {x y w : Nat} (hA : ∀ j, A j < 16) (hL : La y ≤ 4) (hx : x < 16) (hy : y < 16) (hw : w < 16) (h : ∀ i, i < La y → ¬ (A (y * 4 + i) ≠ x ∧ A (y * 4 + i) ≠ w)) (post : Int32 → Prop) (hp : post (-1)) : ∀ n i, i ≤ La y → La y - i < n → wX_firstActiveExcept_3 post (nI y) (nI x) (nI w) (nI nn) (nI ac) (nI pc) (nI tm) (nI md) (nI lo) (go_B al) (go_N A) (go_N La) (go_N P) (go_N Lp) (go_M E) (go_M D) (go_M W) (go_N T) (go_S U C) n (nI i) := by
  intro n
  induction n with
  | zero => intro i _ hn; exact absurd hn (by omega)
  | succ n ih =>
    intro i hi hn
    have hz : A (y * 4 + i) < 16 := hA _
    refine ⟨vp_in_nI hy (by omega), pk_le (La y) i (fun _ => hp) (fun h2 => ⟨pk_in (y * 4 + i) 64 (by omega) (go_ix4 y i), nm_r (go_rN A (y * 4 + i) (go_ix4 y i) (by omega)) (pk_eq (A (y * 4 + i)) x (fun _ => nm_r (nI_1 i) (ih (i + 1) (by omega) (by omega))) (fun h3 => pk_eq (A (y * 4 + i)) w (fun _ => nm_r (nI_1 i) (ih (i + 1) (by omega) (by omega))) (fun h4 => absurd ⟨h3, h4⟩ (h i h2))))⟩) (go_rN La y rfl (by omega)) rfl (by omega) (by omega)⟩
theorem go_fx1 {x y w i0 : Nat} (hA : ∀ j, A j < 16) (hL : La y ≤ 4) (hx : x < 16) (hy : y < 16) (hw : w < 16) (h0 : i0 < La y) (he : A (y * 4 + i0) ≠ x ∧ A (y * 4 + i0) ≠ w) (hb : ∀ j, j < i0 → ¬ (A (y * 4 + j) ≠ x ∧ A (y * 4 + j) ≠ w)) (post : Int32 → Prop) (hp : post (nI (A (y * 4 + i0)))) : ∀ n i, i ≤ i0 → i0 - i < n → wX_firstActiveExcept_3 post (nI y) (nI x) (nI w) (nI nn) (nI ac) (nI pc) (nI tm) (nI md) (nI lo) (go_B al) (go_N A) (go_N La) (go_N P) (go_N Lp) (go_M E) (go_M D) (go_M W) (go_N T) (go_S U C) n (nI i) := by
  intro n
  induction n with
  | zero => intro i _ hn; exact absurd hn (by omega)
  | succ n ih =>
    intro i hi hn
    have hz : A (y * 4 + i) < 16 := hA _
    have k : ¬ (A (y * 4 + i) ≠ x ∧ A (y * 4 + i) ≠ w) → i < i0 := by
      intro q
      rcases Nat.lt_or_ge i i0 with r | r
      · exact r
      · rw [show i = i0 by omega] at q; exact absurd he q
    refine ⟨vp_in_nI hy (by omega), pk_le (La y) i (fun h2 => absurd h2 (by omega)) (fun h2 => ⟨pk_in (y * 4 + i) 64 (by omega) (go_ix4 y i), nm_r (go_rN A (y * 4 + i) (go_ix4 y i) (by omega)) (pk_eq (A (y * 4 + i)) x (fun h3 => nm_r (nI_1 i) ?_) (fun h3 => pk_eq (A (y * 4 + i)) w (fun h4 => nm_r (nI_1 i) ?_) (fun h4 => ?_)))⟩) (go_rN La y rfl (by omega)) rfl (by omega) (by omega)⟩
    · have q := k (fun z => z.1 h3)
      exact ih (i + 1) (by omega) (by omega)
    · have q := k (fun z => z.2 h4)
      exact ih (i + 1) (by omega) (by omega)
    · have e : i = i0 := by
        rcases Nat.lt_or_ge i i0 with r | r
        · exact absurd ⟨h3, h4⟩ (hb i r)
        · omega
      rw [e]; exact hp
theorem go_pmX {x : Nat} (hP : ∀ j, P j < 16) (hL : Lp x ≤ 8) (hx : x < 16) (post : Int32 → Prop) (hp : post (go_w P (x * 8) (Lp x))) : ∀ n i, i ≤ Lp x → Lp x - i < n → wX_passiveMask_4 post (nI x) (nI nn) (nI ac) (nI pc) (nI tm) (nI md) (nI lo) (go_B al) (go_N A) (go_N La) (go_N P) (go_N Lp) (go_M E) (go_M D) (go_M W) (go_N T) (go_S U C) n (go_w P (x * 8) i) (nI i) := by
  intro n
  induction n with
  | zero => intro i _ hn; exact absurd hn (by omega)
  | succ n ih =>
    intro i hi hn
    refine ⟨vp_in_nI hx (by omega), pk_le (Lp x) i (fun h => ?_) (fun h => ⟨pk_in (x * 8 + i) 128 (by omega) (go_ix8 x i), nm_r (e' := go_w P (x * 8) (i + 1)) (by rw [go_rN P (x * 8 + i) (go_ix8 x i) (by omega)]; rfl) (nm_r (nI_1 i) (ih (i + 1) (by omega) (by omega)))⟩) (go_rN Lp x rfl (by omega)) rfl (by omega) (by omega)⟩
    have e : i = Lp x := by omega
    rw [e]; exact hp
theorem go_amX {x : Nat} (hA : ∀ j, A j < 16) (hL : La x ≤ 4) (hx : x < 16) (post : Int32 → Prop) (hp : post (go_w A (x * 4) (La x))) : ∀ n i, i ≤ La x → La x - i < n → wX_activeMask_4 post (nI x) (nI nn) (nI ac) (nI pc) (nI tm) (nI md) (nI lo) (go_B al) (go_N A) (go_N La) (go_N P) (go_N Lp) (go_M E) (go_M D) (go_M W) (go_N T) (go_S U C) n (go_w A (x * 4) i) (nI i) := by
  intro n
  induction n with
  | zero => intro i _ hn; exact absurd hn (by omega)
  | succ n ih =>
    intro i hi hn
    refine ⟨vp_in_nI hx (by omega), pk_le (La x) i (fun h => ?_) (fun h => ⟨pk_in (x * 4 + i) 64 (by omega) (go_ix4 x i), nm_r (e' := go_w A (x * 4) (i + 1)) (by rw [go_rN A (x * 4 + i) (go_ix4 x i) (by omega)]; rfl) (nm_r (nI_1 i) (ih (i + 1) (by omega) (by omega)))⟩) (go_rN La x rfl (by omega)) rfl (by omega) (by omega)⟩
    have e : i = La x := by omega
    rw [e]; exact hp
end
def go_rU (U : Nat → Bool) (C : Nat → Nat) (x i : Nat) : Nat → Bool := fun s => if s < i ∧ (C s / 2 ^ 20 % 2 ^ 4 = x ∨ C s / 2 ^ 16 % 2 ^ 4 = x) then false else U s
theorem go_rU0 (U : Nat → Bool) (C : Nat → Nat) (x : Nat) : go_rU U C x 0 = U := funext fun s => if_neg (fun h => absurd h.1 (by omega))
theorem go_rUi (U : Nat → Bool) (C : Nat → Nat) (x i : Nat) : go_rU U C x i i = U i := if_neg (fun h => absurd h.1 (by omega))
theorem go_rUa {U : Nat → Bool} {C : Nat → Nat} {x i : Nat} (h : (C i / 2 ^ 20 % 2 ^ 4 = x ∨ C i / 2 ^ 16 % 2 ^ 4 = x) ∨ U i = false) : go_up (go_rU U C x i) i false = go_rU U C x (i + 1) := by
  funext s
  unfold go_up go_rU
  by_cases e : s = i
  · rw [if_pos e, e]
    rcases h with h | h
    · rw [if_pos ⟨by omega, h⟩]
    · rw [h]; split <;> rfl
  · rw [if_neg e]
    by_cases g : s < i ∧ (C s / 2 ^ 20 % 2 ^ 4 = x ∨ C s / 2 ^ 16 % 2 ^ 4 = x)
    · rw [if_pos g, if_pos ⟨by have := g.1; omega, g.2⟩]
    · rw [if_neg g, if_neg (fun z => g ⟨by have := z.1; omega, z.2⟩)]
theorem go_rUb {U : Nat → Bool} {C : Nat → Nat} {x i : Nat} (h : ¬ (C i / 2 ^ 20 % 2 ^ 4 = x ∨ C i / 2 ^ 16 % 2 ^ 4 = x) ∨ U i = false) : go_rU U C x i = go_rU U C x (i + 1) := by
  funext s
  unfold go_rU
  by_cases e : s = i
  · rw [if_neg (fun z => absurd z.1 (by omega)), e]
    rcases h with h | h
    · rw [if_neg (fun z => h z.2)]
    · rw [h]; split <;> rfl
  · by_cases g : s < i ∧ (C s / 2 ^ 20 % 2 ^ 4 = x ∨ C s / 2 ^ 16 % 2 ^ 4 = x)
    · rw [if_pos g, if_pos ⟨by have := g.1; omega, g.2⟩]
    · rw [if_neg g, if_neg (fun z => g ⟨by have := z.1; omega, z.2⟩)]
theorem go_rUS {U : Nat → Bool} {C : Nat → Nat} (S : go_IS U C) (x i : Nat) : go_IS (go_rU U C x i) C := by
  intro s
  refine ⟨(S s).1, fun h => ?_⟩
  unfold go_rU at h
  split at h
  · exact absurd h (by decide)
  · exact (S s).2 h
theorem go_z20 : ((0 : Int32) >>> ((20 : Int32) &&& 31)) &&& 15 = nI 0 := by decide
theorem go_z16 : ((0 : Int32) >>> ((16 : Int32) &&& 31)) &&& 15 = nI 0 := by decide
theorem go_bt1 {b : Nat} (h : b < 16) : bt (nI 65535) b = true := (b_65535 b).trans (decide_eq_true h)
section
variable (nn ac pc tm md lo : Nat) (al : Nat → Bool) (A La P Lp : Nat → Nat) (E D W : Nat → Bool) (T : Nat → Nat) (U : Nat → Bool) (C : Nat → Nat)
theorem go_fpX {x : Nat} (hx : x < 16) (post : St2 → Prop) (hp : post (nI nn, nI ac, nI pc, nI tm, nI md, nI lo, go_B al, go_N A, go_N (go_up La x 0), go_N P, go_N (go_up Lp x 0), go_M (go_z E false (x * 16) (x * 16 + 16)), go_M D, go_M (go_oW W x (nI 65535) 16), go_N (go_ov T 0 x (nI 65535) 16), go_S U C)) : wpX_forgetPeers post (nI nn, nI ac, nI pc, nI tm, nI md, nI lo, go_B al, go_N A, go_N La, go_N P, go_N Lp, go_M E, go_M D, go_M W, go_N T, go_S U C) (nI x) := ⟨vp_in_nI hx (by omega), nm_r (go_uN La x 0 rfl) ⟨vp_in_nI hx (by omega), nm_r (go_uN Lp x 0 rfl) ⟨vp_in_nI hx (by omega), nm_r (go_uMz E x) (go_stop nn ac pc tm md lo al A (go_up La x 0) P (go_up Lp x 0) (go_z E false (x * 16) (x * 16 + 16)) D W T U C (g := 65535) hx _ hp)⟩⟩⟩
theorem go_rmX {x : Nat} (S : go_IS U C) (hx : x < 16) (post : St2 → Prop) (hp : post (nI nn, nI ac, nI pc, nI tm, nI md, nI lo, go_B al, go_N A, go_N La, go_N P, go_N Lp, go_M E, go_M D, go_M W, go_N T, go_S (go_rU U C x 64) C)) : ∀ n i, i ≤ 64 → 64 - i < n → wX_removeMessagesOf_2 post (nI x) (nI nn) (nI ac) (nI pc) (nI tm) (nI md) (nI lo) n (nI i) (go_B al) (go_N A) (go_N La) (go_N P) (go_N Lp) (go_M E) (go_M D) (go_M W) (go_N T) (go_S (go_rU U C x i) C) := by
  intro n
  induction n with
  | zero => intro i _ hn; exact absurd hn (by omega)
  | succ n ih =>
    intro i hi hn
    refine pk_le 64 i (fun h => ?_) (fun h => ?_)
    · have e : i = 64 := by omega
      rw [e]; exact hp
    · have hv : vp_in (nI i) 64 := vp_in_nI h (by omega)
      have w := ih (i + 1) (by omega) (by omega)
      cases hU : U i with
      | false =>
        have r0 : go_S (go_rU U C x i) C (nI i).toNatClampNeg = 0 := (go_S0 (go_rUS S x i) i).mpr ((go_rUi U C x i).trans hU)
        have e1 : (go_S (go_rU U C x i) C (nI i).toNatClampNeg >>> ((20 : Int32) &&& 31)) &&& 15 = nI 0 := by rw [r0]; exact go_z20
        have e2 : (go_S (go_rU U C x i) C (nI i).toNatClampNeg >>> ((16 : Int32) &&& 31)) &&& 15 = nI 0 := by rw [r0]; exact go_z16
        have s1 : upd (go_S (go_rU U C x i) C) (nI i).toNatClampNeg 0 = go_S (go_rU U C x (i + 1)) C := by rw [go_uSf _ C i, go_rUa (Or.inr hU)]
        have w2 := w
        rw [← go_rUb (Or.inr hU)] at w2
        exact ⟨hv, nm_r e1 ⟨hv, nm_r e2 (br_c (fun _ => ⟨hv, nm_r s1 (nm_r (nI_1 i) w)⟩) (fun _ => br_c (fun _ => ⟨hv, nm_r s1 (nm_r (nI_1 i) w)⟩) (fun _ => nm_r (nI_1 i) w2)))⟩⟩
      | true =>
        have hc := (S i).1
        have r1 : go_S (go_rU U C x i) C (nI i).toNatClampNeg = nI (C i) := go_rS i ((go_rUi U C x i).trans hU)
        have e1 : (go_S (go_rU U C x i) C (nI i).toNatClampNeg >>> ((20 : Int32) &&& 31)) &&& 15 = nI (C i / 2 ^ 20 % 2 ^ 4) := by rw [r1]; exact go_d20 hc
        have e2 : (go_S (go_rU U C x i) C (nI i).toNatClampNeg >>> ((16 : Int32) &&& 31)) &&& 15 = nI (C i / 2 ^ 16 % 2 ^ 4) := by rw [r1]; exact go_d16 hc
        have s1 : ∀ (q : C i / 2 ^ 20 % 2 ^ 4 = x ∨ C i / 2 ^ 16 % 2 ^ 4 = x), upd (go_S (go_rU U C x i) C) (nI i).toNatClampNeg 0 = go_S (go_rU U C x (i + 1)) C := fun q => by rw [go_uSf _ C i, go_rUa (Or.inl q)]
        refine ⟨hv, nm_r e1 ⟨hv, nm_r e2 (pk_eq (C i / 2 ^ 20 % 2 ^ 4) x (fun q => ⟨hv, nm_r (s1 (Or.inl q)) (nm_r (nI_1 i) w)⟩) (fun q1 => pk_eq (C i / 2 ^ 16 % 2 ^ 4) x (fun q => ⟨hv, nm_r (s1 (Or.inr q)) (nm_r (nI_1 i) w)⟩) (fun q2 => nm_r (nI_1 i) ?_)))⟩⟩
        rw [← go_rUb (Or.inl (fun z => z.elim q1 q2))] at w
        exact w
theorem go_ndX {j : Nat} (hn : nn ≤ 16) (hj : j < nn) (post : Int32 → Prop) (hp : post 1) : wpX_isNode post (nI nn, nI ac, nI pc, nI tm, nI md, nI lo, go_B al, go_N A, go_N La, go_N P, go_N Lp, go_M E, go_M D, go_M W, go_N T, go_S U C) (nI j) := br_f (nI_pos (by omega)) (br_f (nI_ge hj (by omega)) hp)
theorem go_ndX0 {v : Int32} (hv : v < 0 ∨ nI nn ≤ v) (post : Int32 → Prop) (hp : post 0) : wpX_isNode post (nI nn, nI ac, nI pc, nI tm, nI md, nI lo, go_B al, go_N A, go_N La, go_N P, go_N Lp, go_M E, go_M D, go_M W, go_N T, go_S U C) v := br_c (fun _ => hp) (fun q => br_t (hv.resolve_left q) hp)
theorem go_alX {j : Nat} (hn : nn ≤ 16) (hj : j < nn) (ha : al j = true) (post : Int32 → Prop) (hp : post 1) : wpX_isAlive post (nI nn, nI ac, nI pc, nI tm, nI md, nI lo, go_B al, go_N A, go_N La, go_N P, go_N Lp, go_M E, go_M D, go_M W, go_N T, go_S U C) (nI j) := by
  unfold wpX_isAlive
  exact go_ndX nn ac pc tm md lo al A La P Lp E D W T U C hn hj _ (br_f (by decide) ⟨vp_in_nI (by omega) (by omega), br_f (go_bn al j ha) hp⟩)
theorem go_alX0 {v : Int32} (hn : nn ≤ 16) (hv : (v < 0 ∨ nI nn ≤ v) ∨ ∃ j, j < nn ∧ v = nI j ∧ al j = false) (post : Int32 → Prop) (hp : post 0) : wpX_isAlive post (nI nn, nI ac, nI pc, nI tm, nI md, nI lo, go_B al, go_N A, go_N La, go_N P, go_N Lp, go_M E, go_M D, go_M W, go_N T, go_S U C) v := by
  unfold wpX_isAlive
  rcases hv with hv | ⟨j, hj, e, ha⟩
  · exact go_ndX0 nn ac pc tm md lo al A La P Lp E D W T U C hv _ (br_t rfl hp)
  · rw [e]
    exact go_ndX nn ac pc tm md lo al A La P Lp E D W T U C hn hj _ (br_f (by decide) ⟨vp_in_nI (by omega) (by omega), br_t (go_bz al j ha) hp⟩)
end
theorem go_low {m : Int32} {i0 : Nat} (h0 : i0 < 16) (hz : ∀ j, j < i0 → (m &&& ((1 : Int32) <<< (nI j &&& 31))) = 0) (hn : ¬ (m &&& ((1 : Int32) <<< (nI i0 &&& 31))) = 0) (post : Int32 → Prop) (hp : post (nI i0)) : ∀ n i, i ≤ i0 → i0 - i < n → wX_lowestNode_2 post m n (nI i) := by
  intro n
  induction n with
  | zero => intro i _ hn; exact absurd hn (by omega)
  | succ n ih =>
    intro i hi hn'
    refine pk_le 16 i (fun h => absurd h (by omega)) (fun h => ?_)
    by_cases e : i = i0
    · rw [e]; exact br_f hn hp
    · exact br_t (hz i (by omega)) (nm_r (nI_1 i) (ih (i + 1) (by omega) (by omega)))
section
variable (nn ac pc tm md lo : Nat) (al : Nat → Bool) (A La P Lp : Nat → Nat) (E D W : Nat → Bool) (T : Nat → Nat) (U : Nat → Bool) (C : Nat → Nat)
theorem go_cd0 {x b : Nat} (hx : x < 16) (hb : b < 16) (h : T (x * 16 + b) = 0) (post : Int32 → St2 → Prop) (hp : post 0 (nI nn, nI ac, nI pc, nI tm, nI md, nI lo, go_B al, go_N A, go_N La, go_N P, go_N Lp, go_M E, go_M D, go_M W, go_N T, go_S U C)) : wpX_countDownEnds post (nI nn, nI ac, nI pc, nI tm, nI md, nI lo, go_B al, go_N A, go_N La, go_N P, go_N Lp, go_M E, go_M D, go_M W, go_N T, go_S U C) (nI x) (nI b) := nm_r (go_ix16 x b) ⟨vp_in_nI (by omega) (by omega), br_t (by rw [go_rN T (x * 16 + b) rfl (by omega), h]; exact nI_0) hp⟩
theorem go_cd1 {x b : Nat} (hT : ∀ j, T j ≤ 8) (hx : x < 16) (hb : b < 16) (h : 1 < T (x * 16 + b)) (post : Int32 → St2 → Prop) (hp : post 0 (nI nn, nI ac, nI pc, nI tm, nI md, nI lo, go_B al, go_N A, go_N La, go_N P, go_N Lp, go_M E, go_M D, go_M W, go_N (go_up T (x * 16 + b) (T (x * 16 + b) - 1)), go_S U C)) : wpX_countDownEnds post (nI nn, nI ac, nI pc, nI tm, nI md, nI lo, go_B al, go_N A, go_N La, go_N P, go_N Lp, go_M E, go_M D, go_M W, go_N T, go_S U C) (nI x) (nI b) := by
  have hv : vp_in (nI (x * 16 + b)) 256 := vp_in_nI (by omega) (by omega)
  have r := go_rN (e := nI (x * 16 + b)) T (x * 16 + b) rfl (by omega)
  have h8 := hT (x * 16 + b)
  have s : go_N T (nI (x * 16 + b)).toNatClampNeg - 1 = nI (T (x * 16 + b) - 1) := by rw [r]; exact pk_sub (b := 1) (by omega)
  have r2 : go_N (go_up T (x * 16 + b) (T (x * 16 + b) - 1)) (nI (x * 16 + b)).toNatClampNeg = nI (T (x * 16 + b) - 1) := by rw [go_rN _ (x * 16 + b) rfl (by omega), go_us]
  exact nm_r (go_ix16 x b) ⟨hv, br_f (by rw [r]; exact nI_ne0 (by omega) (by omega)) ⟨hv, hv, nm_r (go_uN T (x * 16 + b) (T (x * 16 + b) - 1) s) ⟨hv, br_f (by rw [r2]; exact nI_ne0 (by omega) (by omega)) hp⟩⟩⟩
theorem go_cd2 {x b : Nat} (hx : x < 16) (hb : b < 16) (h : T (x * 16 + b) = 1) (hW : go_M W (x * 16 + b) = 0) (post : Int32 → St2 → Prop) (hp : post 0 (nI nn, nI ac, nI pc, nI tm, nI md, nI lo, go_B al, go_N A, go_N La, go_N P, go_N Lp, go_M E, go_M D, go_M W, go_N (go_up T (x * 16 + b) 0), go_S U C)) : wpX_countDownEnds post (nI nn, nI ac, nI pc, nI tm, nI md, nI lo, go_B al, go_N A, go_N La, go_N P, go_N Lp, go_M E, go_M D, go_M W, go_N T, go_S U C) (nI x) (nI b) := by
  have hv : vp_in (nI (x * 16 + b)) 256 := vp_in_nI (by omega) (by omega)
  have r := go_rN (e := nI (x * 16 + b)) T (x * 16 + b) rfl (by omega)
  have s : go_N T (nI (x * 16 + b)).toNatClampNeg - 1 = nI 0 := by rw [r, h]; decide
  have r2 : go_N (go_up T (x * 16 + b) 0) (nI (x * 16 + b)).toNatClampNeg = 0 := by rw [go_rN _ (x * 16 + b) rfl (by omega), go_us]; exact nI_0
  exact nm_r (go_ix16 x b) ⟨hv, br_f (by rw [r, h]; decide) ⟨hv, hv, nm_r (go_uN T (x * 16 + b) 0 s) ⟨hv, br_t r2 ⟨hv, br_t (by rw [go_rM W (x * 16 + b)]; exact hW) hp⟩⟩⟩⟩
theorem go_cd3 {x b : Nat} (hx : x < 16) (hb : b < 16) (h : T (x * 16 + b) = 1) (hW : ¬ go_M W (x * 16 + b) = 0) (post : Int32 → St2 → Prop) (hp : post 1 (nI nn, nI ac, nI pc, nI tm, nI md, nI lo, go_B al, go_N A, go_N La, go_N P, go_N Lp, go_M E, go_M D, go_M W, go_N (go_up T (x * 16 + b) 0), go_S U C)) : wpX_countDownEnds post (nI nn, nI ac, nI pc, nI tm, nI md, nI lo, go_B al, go_N A, go_N La, go_N P, go_N Lp, go_M E, go_M D, go_M W, go_N T, go_S U C) (nI x) (nI b) := by
  have hv : vp_in (nI (x * 16 + b)) 256 := vp_in_nI (by omega) (by omega)
  have r := go_rN (e := nI (x * 16 + b)) T (x * 16 + b) rfl (by omega)
  have s : go_N T (nI (x * 16 + b)).toNatClampNeg - 1 = nI 0 := by rw [r, h]; decide
  have r2 : go_N (go_up T (x * 16 + b) 0) (nI (x * 16 + b)).toNatClampNeg = 0 := by rw [go_rN _ (x * 16 + b) rfl (by omega), go_us]; exact nI_0
  exact nm_r (go_ix16 x b) ⟨hv, br_f (by rw [r, h]; decide) ⟨hv, hv, nm_r (go_uN T (x * 16 + b) 0 s) ⟨hv, br_t r2 ⟨hv, br_f (by rw [go_rM W (x * 16 + b)]; exact hW) hp⟩⟩⟩⟩
theorem go_tkD {x cnt : Nat} (hx : x < 16) (hal : al x = false) (post : Int32 → St2 → Prop) (J : Int32 → Int32 → Int32 → Int32 → Int32 → Int32 → Int32 → Int32 → (Nat → Int32) → (Nat → Int32) → (Nat → Int32) → (Nat → Int32) → (Nat → Int32) → (Nat → Int32) → (Nat → Int32) → (Nat → Int32) → (Nat → Int32) → (Nat → Int32) → Prop) (hJ : J (nI cnt) (nI (x + 1)) (nI nn) (nI ac) (nI pc) (nI tm) (nI md) (nI lo) (go_B al) (go_N A) (go_N La) (go_N P) (go_N Lp) (go_M E) (go_M D) (go_M W) (go_N T) (go_S U C)) : ∀ n b, b ≤ 16 → 16 - b < n → wX_tick_14 post J (nI x) n (nI cnt) (nI b) (nI nn) (nI ac) (nI pc) (nI tm) (nI md) (nI lo) (go_B al) (go_N A) (go_N La) (go_N P) (go_N Lp) (go_M E) (go_M D) (go_M W) (go_N T) (go_S U C) := by
  intro n
  induction n with
  | zero => intro i _ hn; exact absurd hn (by omega)
  | succ n ih =>
    intro b hb hn
    exact pk_le 16 b (fun _ => nm_r (nI_1 x) hJ) (fun h2 => ⟨vp_in_nI hx (by omega), br_t (go_bz al x hal) (nm_r (nI_1 b) (ih (b + 1) (by omega) (by omega)))⟩)
theorem go_usX {s : Nat} (S : go_IS U C) (hs : s < 64) (hU : U s = true) (post : Int32 → Prop) (hp : post 1) : wpX_isUsed post (nI nn, nI ac, nI pc, nI tm, nI md, nI lo, go_B al, go_N A, go_N La, go_N P, go_N Lp, go_M E, go_M D, go_M W, go_N T, go_S U C) (nI s) := br_f (nI_pos (by omega)) (br_f (nI_ge (b := 64) hs (by omega)) ⟨vp_in_nI hs (by omega), br_f (fun q => by rw [(go_S0 S s).mp q] at hU; exact absurd hU (by decide)) hp⟩)
theorem go_usX0 {v : Int32} (S : go_IS U C) (hv : (v < 0 ∨ nI 64 ≤ v) ∨ ∃ s, s < 64 ∧ v = nI s ∧ U s = false) (post : Int32 → Prop) (hp : post 0) : wpX_isUsed post (nI nn, nI ac, nI pc, nI tm, nI md, nI lo, go_B al, go_N A, go_N La, go_N P, go_N Lp, go_M E, go_M D, go_M W, go_N T, go_S U C) v := by
  rcases hv with hv | ⟨s, hs, e, hU⟩
  · exact br_c (fun _ => hp) (fun q => br_t (hv.resolve_left q) hp)
  · rw [e]
    exact br_f (nI_pos (by omega)) (br_f (nI_ge (b := 64) hs (by omega)) ⟨vp_in_nI hs (by omega), br_t ((go_S0 S s).mpr hU) hp⟩)
end
