section
variable (nn ac pc tm md lo : Nat) (al : Nat → Bool) (A La P Lp : Nat → Nat) (E D W : Nat → Bool) (T : Nat → Nat) (U : Nat → Bool) (C : Nat → Nat)
theorem go_cX24 {x y i0 : Nat} (hc : ac ≤ 4) (I : go_IV4 ac A La) (hx : x < 16) (hy : y < 16) (h0 : i0 < La x) (he : A (x * 4 + i0) = y) (post : Int32 → SX → Prop) (hp : post 1  (nI nn, nI ac, nI pc, nI tm, nI md, nI lo, go_B al, go_N (go_sh A (x * 4 + i0) (x * 4 + (La x - 1))), go_N (go_up La x (La x - 1)), go_N P, go_N Lp, go_M (go_up E (x * 16 + y) false), go_M D, go_M W, go_N T, go_S U C)) : ∀ n m, i0 ≤ m → m + 1 ≤ La x → La x - m ≤ n → wX_removeActive_13 post (nI x) (nI y) (nI (La x)) (nI nn) (nI ac) (nI pc) (nI tm) (nI md) (nI lo) n (nI m) (nI (m + 1)) (go_B al) (go_N (go_sh A (x * 4 + i0) (x * 4 + m))) (go_N La) (go_N P) (go_N Lp) (go_M E) (go_M D) (go_M W) (go_N T) (go_S U C) := by
  have hl := I.2.1 x
  intro n
  induction n with
  | zero => intro m _ _ hn; exact absurd hn (by omega)
  | succ n ih =>
    intro m hm1 hm2 hn
    refine pk_le (La x) (m + 1) (fun h => ⟨vp_in_nI hx (by omega), nm_r (go_uN La x m rfl) ?_⟩) (fun h => ⟨pk_in (x * 4 + (m + 1)) 64 (by omega) (go_ix4 x (m + 1)), nm_r ((go_rN _ (x * 4 + (m + 1)) (go_ix4 x (m + 1)) (by omega)).trans (congrArg nI (go_shr A (by omega)))) (br_f ?_ ⟨pk_in (x * 4 + m) 64 (by omega) (go_ix4 x m), nm_r ((go_uN _ (x * 4 + m) (A (x * 4 + (m + 1))) rfl (go_ix4 x m)).trans (congrArg go_N (go_shs A (by omega)))) (nm_r (nI_1 m) (nm_r (nI_1 (m + 1)) (ih (m + 1) (by omega) (by omega) (by omega))))⟩)⟩)
    · have hm : La x - 1 = m := by omega
      rw [hm] at hp
      exact ⟨vp_in_nI hx (by omega), vp_in_nI hx (by omega), nm_r (go_uMc E x y hy) (br_f (nI_ge (by omega) (by omega)) hp)⟩
    · rw [nI_eq (by have := I.1 (x * 4 + (m + 1)); omega) (by omega), ← he]
      exact (I.2.2 x i0 (m + 1) (by omega) (by omega)).symm
theorem go_cX14 {x y i0 : Nat} (hc : ac ≤ 4) (I : go_IV4 ac A La) (hx : x < 16) (hy : y < 16) (h0 : i0 < La x) (he : A (x * 4 + i0) = y) (post : Int32 → SX → Prop) (hp : post 1  (nI nn, nI ac, nI pc, nI tm, nI md, nI lo, go_B al, go_N (go_sh A (x * 4 + i0) (x * 4 + (La x - 1))), go_N (go_up La x (La x - 1)), go_N P, go_N Lp, go_M (go_up E (x * 16 + y) false), go_M D, go_M W, go_N T, go_S U C)) : ∀ n i, i ≤ i0 → La x - i < n → wX_removeActive_13 post (nI x) (nI y) (nI (La x)) (nI nn) (nI ac) (nI pc) (nI tm) (nI md) (nI lo) n (nI i) (nI i) (go_B al) (go_N A) (go_N La) (go_N P) (go_N Lp) (go_M E) (go_M D) (go_M W) (go_N T) (go_S U C) := by
  have hl := I.2.1 x
  intro n
  induction n with
  | zero => intro m _ hn; exact absurd hn (by omega)
  | succ n ih =>
    intro i hi hn
    refine pk_le (La x) i (fun h => absurd h (by omega)) (fun h => ⟨pk_in (x * 4 + i) 64 (by omega) (go_ix4 x i), nm_r (go_rN A (x * 4 + i) (go_ix4 x i) (by omega)) (pk_eq (A (x * 4 + i)) y (fun h3 => nm_r (nI_1 i) ?_) (fun h3 => ⟨pk_in (x * 4 + i) 64 (by omega) (go_ix4 x i), nm_r ((go_uN A (x * 4 + i) (A (x * 4 + i)) rfl (go_ix4 x i)).trans (congrArg go_N (go_ui A _))) (nm_r (nI_1 i) (nm_r (nI_1 i) (ih (i + 1) ?_ (by omega))))⟩) rfl rfl (by have := I.1 (x * 4 + i); omega) (by omega))⟩)
    · have e : i = i0 := by
        rcases Nat.lt_or_ge i i0 with q | q
        · exact absurd (h3.trans he.symm) (I.2.2 x i i0 q h0)
        · omega
      have w := go_cX24 nn ac pc tm md lo al A La P Lp E D W T U C hc I hx hy h0 he post hp n i0 (by omega) (by omega) (by omega)
      rw [go_sh0] at w
      rw [e]
      exact w
    · have e : i ≠ i0 := fun q => h3 (by rw [q]; exact he)
      omega
theorem go_cX04 {x y : Nat} (hc : ac ≤ 4) (I : go_IV4 ac A La) (JE : go_IE A La E) (hx : x < 16) (hy : y < 16) (ha : ∀ i, i < La x → A (x * 4 + i) ≠ y) (post : Int32 → SX → Prop) (hp : post 0  (nI nn, nI ac, nI pc, nI tm, nI md, nI lo, go_B al, go_N A, go_N La, go_N P, go_N Lp, go_M E, go_M D, go_M W, go_N T, go_S U C)) : ∀ n i, i ≤ La x → La x - i < n → wX_removeActive_13 post (nI x) (nI y) (nI (La x)) (nI nn) (nI ac) (nI pc) (nI tm) (nI md) (nI lo) n (nI i) (nI i) (go_B al) (go_N A) (go_N La) (go_N P) (go_N Lp) (go_M E) (go_M D) (go_M W) (go_N T) (go_S U C) := by
  have hl := I.2.1 x
  intro n
  induction n with
  | zero => intro m _ hn; exact absurd hn (by omega)
  | succ n ih =>
    intro i hi hn
    refine pk_le (La x) i (fun h => ⟨vp_in_nI hx (by omega), nm_r ((go_uN La x i rfl).trans (congrArg go_N (show go_up La x i = La by rw [show i = La x by omega]; exact go_ui La x))) ?_⟩) (fun h => ⟨pk_in (x * 4 + i) 64 (by omega) (go_ix4 x i), nm_r (go_rN A (x * 4 + i) (go_ix4 x i) (by omega)) (br_f ?_ ⟨pk_in (x * 4 + i) 64 (by omega) (go_ix4 x i), nm_r ((go_uN A (x * 4 + i) (A (x * 4 + i)) rfl (go_ix4 x i)).trans (congrArg go_N (go_ui A _))) (nm_r (nI_1 i) (nm_r (nI_1 i) (ih (i + 1) (by omega) (by omega))))⟩)⟩)
    · exact ⟨vp_in_nI hx (by omega), vp_in_nI hx (by omega), nm_r ((go_uMc E x y hy).trans (congrArg go_M (go_Eno JE hy ha))) (br_t (nI_le (by omega) (by omega)) hp)⟩
    · rw [nI_eq (by have := I.1 (x * 4 + i); omega) (by omega)]
      exact ha i h
theorem go_cY4 {x y i0 : Nat} (hc : ac ≤ 4) (I : go_IV4 ac A La) (hx : x < 16) (hy : y < 16) (h0 : i0 < La x) (post : SY → Prop) (hp : post (nI nn, nI ac, nI pc, nI tm, nI lo, nI md, go_B al, go_N (go_sh A (x * 4 + i0) (x * 4 + (La x - 1))), go_N (go_up La x (La x - 1)), go_N P, go_N Lp, go_B (go_up E (x * 16 + y) false), go_B D, go_B W, go_N T, go_B U, go_N C)) : ∀ n m, i0 ≤ m → m ≤ La x - 1 → La x - m ≤ n → wY_removeA_15 post (nI x) (nI y) (nI nn) (nI ac) (nI pc) (nI tm) (nI lo) (nI md) n (nI m) (go_B al) (go_N (go_sh A (x * 4 + i0) (x * 4 + m))) (go_N La) (go_N P) (go_N Lp) (go_B E) (go_B D) (go_B W) (go_N T) (go_B U) (go_N C) := by
  have hl := I.2.1 x
  have e2 : go_N La (nI x).toNatClampNeg - 1 = nI (La x - 1) := by
    rw [go_rN La x rfl (by omega)]
    exact pk_sub (a := La x) (b := 1) (by omega)
  intro n
  induction n with
  | zero => intro m _ _ hn; exact absurd hn (by omega)
  | succ n ih =>
    intro m hm1 hm2 hn
    have e1 : nI x * 4 + nI m + 1 = nI (x * 4 + m + 1) := (congrArg (fun z => z + 1) (go_ix4 x m)).trans (nI_1 _)
    refine ⟨vp_in_nI hx (by omega), pk_le (La x - 1) m (fun h => ⟨vp_in_nI hx (by omega), vp_in_nI hx (by omega), nm_r (go_uN La x (La x - 1) e2) ?_⟩) (fun h => ⟨pk_in (x * 4 + m + 1) 64 (by omega) e1, pk_in (x * 4 + m) 64 (by omega) (go_ix4 x m), nm_r ((go_uN _ (x * 4 + m) (A (x * 4 + m + 1)) ((go_rN _ (x * 4 + m + 1) e1 (by omega)).trans (congrArg nI (go_shr A (by omega)))) (go_ix4 x m)).trans (congrArg go_N (go_shs A (by omega)))) (nm_r (nI_1 m) (ih (m + 1) (by omega) (by omega) (by omega)))⟩) e2 rfl (by omega) (by omega)⟩
    have hm : La x - 1 = m := by omega
    rw [hm] at hp ⊢
    exact ⟨pk_in (x * 16 + y) 256 (by omega) (go_ix16 x y), nm_r (go_uB E (x * 16 + y) false go_vf (go_ix16 x y)) hp⟩
theorem go_rX14 {x y i0 : Nat} (hc : ac ≤ 4) (I : go_IV4 ac A La) (hx : x < 16) (hy : y < 16) (h0 : i0 < La x) (he : A (x * 4 + i0) = y) (post : Int32 → SX → Prop) (hp : post 1  (nI nn, nI ac, nI pc, nI tm, nI md, nI lo, go_B al, go_N (go_sh A (x * 4 + i0) (x * 4 + (La x - 1))), go_N (go_up La x (La x - 1)), go_N P, go_N Lp, go_M (go_up E (x * 16 + y) false), go_M D, go_M W, go_N T, go_S U C)) : wpX_removeActive post (nI nn, nI ac, nI pc, nI tm, nI md, nI lo, go_B al, go_N A, go_N La, go_N P, go_N Lp, go_M E, go_M D, go_M W, go_N T, go_S U C) (nI x) (nI y) := ⟨vp_in_nI hx (by omega), nm_r (go_rN La x rfl (by omega)) ⟨La x + 1, go_cX14 nn ac pc tm md lo al A La P Lp E D W T U C hc I hx hy h0 he post hp _ 0 (by omega) (by omega)⟩⟩
theorem go_rX04 {x y : Nat} (hc : ac ≤ 4) (I : go_IV4 ac A La) (JE : go_IE A La E) (hx : x < 16) (hy : y < 16) (ha : ∀ i, i < La x → A (x * 4 + i) ≠ y) (post : Int32 → SX → Prop) (hp : post 0  (nI nn, nI ac, nI pc, nI tm, nI md, nI lo, go_B al, go_N A, go_N La, go_N P, go_N Lp, go_M E, go_M D, go_M W, go_N T, go_S U C)) : wpX_removeActive post (nI nn, nI ac, nI pc, nI tm, nI md, nI lo, go_B al, go_N A, go_N La, go_N P, go_N Lp, go_M E, go_M D, go_M W, go_N T, go_S U C) (nI x) (nI y) := ⟨vp_in_nI hx (by omega), nm_r (go_rN La x rfl (by omega)) ⟨La x + 1, go_cX04 nn ac pc tm md lo al A La P Lp E D W T U C hc I JE hx hy ha post hp _ 0 (by omega) (by omega)⟩⟩
theorem go_rY14 {x y i0 : Nat} (hc : ac ≤ 4) (I : go_IV4 ac A La) (hx : x < 16) (hy : y < 16) (h0 : i0 < La x) (he : A (x * 4 + i0) = y) (hb : ∀ j, j < i0 → A (x * 4 + j) ≠ y) (post : SY → Prop) (hp : post (nI nn, nI ac, nI pc, nI tm, nI lo, nI md, go_B al, go_N (go_sh A (x * 4 + i0) (x * 4 + (La x - 1))), go_N (go_up La x (La x - 1)), go_N P, go_N Lp, go_B (go_up E (x * 16 + y) false), go_B D, go_B W, go_N T, go_B U, go_N C)) : wpY_removeA post (nI nn, nI ac, nI pc, nI tm, nI lo, nI md, go_B al, go_N A, go_N La, go_N P, go_N Lp, go_B E, go_B D, go_B W, go_N T, go_B U, go_N C) (nI x) (nI y) := by
  have hl := I.2.1 x
  have w := go_cY4 nn ac pc tm md lo al A La P Lp E D W T U C hc I hx hy h0 post hp (La x + 1) i0 (by omega) (by omega) (by omega)
  rw [go_sh0] at w
  unfold wpY_removeA
  exact go_psy4 nn ac pc tm md lo al A La P Lp E D W T U C I.1 (by omega) hx hy h0 he hb _ (br_t (nI_pos' (by omega)) ⟨_, w⟩)
theorem go_rY04 {x y : Nat} (hc : ac ≤ 4) (I : go_IV4 ac A La) (hx : x < 16) (hy : y < 16) (ha : ∀ i, i < La x → A (x * 4 + i) ≠ y) (post : SY → Prop) (hp : post (nI nn, nI ac, nI pc, nI tm, nI lo, nI md, go_B al, go_N A, go_N La, go_N P, go_N Lp, go_B E, go_B D, go_B W, go_N T, go_B U, go_N C)) : wpY_removeA post (nI nn, nI ac, nI pc, nI tm, nI lo, nI md, go_B al, go_N A, go_N La, go_N P, go_N Lp, go_B E, go_B D, go_B W, go_N T, go_B U, go_N C) (nI x) (nI y) := by
  have hl := I.2.1 x
  unfold wpY_removeA
  exact go_ps4 nn ac pc tm md lo al A La P Lp E D W T U C I.1 (by omega) hx hy ha _ (br_f (by decide) hp)
theorem go_cX28 {x y i0 : Nat} (hc : pc ≤ 8) (I : go_IV8 pc P Lp) (hx : x < 16) (hy : y < 16) (h0 : i0 < Lp x) (he : P (x * 8 + i0) = y) (post : SX → Prop) (hp : post  (nI nn, nI ac, nI pc, nI tm, nI md, nI lo, go_B al, go_N A, go_N La, go_N (go_sh P (x * 8 + i0) (x * 8 + (Lp x - 1))), go_N (go_up Lp x (Lp x - 1)), go_M E, go_M D, go_M W, go_N T, go_S U C)) : ∀ n m, i0 ≤ m → m + 1 ≤ Lp x → Lp x - m ≤ n → wX_removePassive_13 post (nI x) (nI y) (nI (Lp x)) (nI nn) (nI ac) (nI pc) (nI tm) (nI md) (nI lo) n (nI m) (nI (m + 1)) (go_B al) (go_N A) (go_N La) (go_N (go_sh P (x * 8 + i0) (x * 8 + m))) (go_N Lp) (go_M E) (go_M D) (go_M W) (go_N T) (go_S U C) := by
  have hl := I.2.1 x
  intro n
  induction n with
  | zero => intro m _ _ hn; exact absurd hn (by omega)
  | succ n ih =>
    intro m hm1 hm2 hn
    refine pk_le (Lp x) (m + 1) (fun h => ⟨vp_in_nI hx (by omega), nm_r (go_uN Lp x m rfl) ?_⟩) (fun h => ⟨pk_in (x * 8 + (m + 1)) 128 (by omega) (go_ix8 x (m + 1)), nm_r ((go_rN _ (x * 8 + (m + 1)) (go_ix8 x (m + 1)) (by omega)).trans (congrArg nI (go_shr P (by omega)))) (br_f ?_ ⟨pk_in (x * 8 + m) 128 (by omega) (go_ix8 x m), nm_r ((go_uN _ (x * 8 + m) (P (x * 8 + (m + 1))) rfl (go_ix8 x m)).trans (congrArg go_N (go_shs P (by omega)))) (nm_r (nI_1 m) (nm_r (nI_1 (m + 1)) (ih (m + 1) (by omega) (by omega) (by omega))))⟩)⟩)
    · have hm : Lp x - 1 = m := by omega
      rw [hm] at hp
      exact hp
    · rw [nI_eq (by have := I.1 (x * 8 + (m + 1)); omega) (by omega), ← he]
      exact (I.2.2 x i0 (m + 1) (by omega) (by omega)).symm
theorem go_cX18 {x y i0 : Nat} (hc : pc ≤ 8) (I : go_IV8 pc P Lp) (hx : x < 16) (hy : y < 16) (h0 : i0 < Lp x) (he : P (x * 8 + i0) = y) (post : SX → Prop) (hp : post  (nI nn, nI ac, nI pc, nI tm, nI md, nI lo, go_B al, go_N A, go_N La, go_N (go_sh P (x * 8 + i0) (x * 8 + (Lp x - 1))), go_N (go_up Lp x (Lp x - 1)), go_M E, go_M D, go_M W, go_N T, go_S U C)) : ∀ n i, i ≤ i0 → Lp x - i < n → wX_removePassive_13 post (nI x) (nI y) (nI (Lp x)) (nI nn) (nI ac) (nI pc) (nI tm) (nI md) (nI lo) n (nI i) (nI i) (go_B al) (go_N A) (go_N La) (go_N P) (go_N Lp) (go_M E) (go_M D) (go_M W) (go_N T) (go_S U C) := by
  have hl := I.2.1 x
  intro n
  induction n with
  | zero => intro m _ hn; exact absurd hn (by omega)
  | succ n ih =>
    intro i hi hn
    refine pk_le (Lp x) i (fun h => absurd h (by omega)) (fun h => ⟨pk_in (x * 8 + i) 128 (by omega) (go_ix8 x i), nm_r (go_rN P (x * 8 + i) (go_ix8 x i) (by omega)) (pk_eq (P (x * 8 + i)) y (fun h3 => nm_r (nI_1 i) ?_) (fun h3 => ⟨pk_in (x * 8 + i) 128 (by omega) (go_ix8 x i), nm_r ((go_uN P (x * 8 + i) (P (x * 8 + i)) rfl (go_ix8 x i)).trans (congrArg go_N (go_ui P _))) (nm_r (nI_1 i) (nm_r (nI_1 i) (ih (i + 1) ?_ (by omega))))⟩) rfl rfl (by have := I.1 (x * 8 + i); omega) (by omega))⟩)
    · have e : i = i0 := by
        rcases Nat.lt_or_ge i i0 with q | q
        · exact absurd (h3.trans he.symm) (I.2.2 x i i0 q h0)
        · omega
      have w := go_cX28 nn ac pc tm md lo al A La P Lp E D W T U C hc I hx hy h0 he post hp n i0 (by omega) (by omega) (by omega)
      rw [go_sh0] at w
      rw [e]
      exact w
    · have e : i ≠ i0 := fun q => h3 (by rw [q]; exact he)
      omega
theorem go_cX08 {x y : Nat} (hc : pc ≤ 8) (I : go_IV8 pc P Lp) (hx : x < 16) (hy : y < 16) (ha : ∀ i, i < Lp x → P (x * 8 + i) ≠ y) (post : SX → Prop) (hp : post  (nI nn, nI ac, nI pc, nI tm, nI md, nI lo, go_B al, go_N A, go_N La, go_N P, go_N Lp, go_M E, go_M D, go_M W, go_N T, go_S U C)) : ∀ n i, i ≤ Lp x → Lp x - i < n → wX_removePassive_13 post (nI x) (nI y) (nI (Lp x)) (nI nn) (nI ac) (nI pc) (nI tm) (nI md) (nI lo) n (nI i) (nI i) (go_B al) (go_N A) (go_N La) (go_N P) (go_N Lp) (go_M E) (go_M D) (go_M W) (go_N T) (go_S U C) := by
  have hl := I.2.1 x
  intro n
  induction n with
  | zero => intro m _ hn; exact absurd hn (by omega)
  | succ n ih =>
    intro i hi hn
    refine pk_le (Lp x) i (fun h => ⟨vp_in_nI hx (by omega), nm_r ((go_uN Lp x i rfl).trans (congrArg go_N (show go_up Lp x i = Lp by rw [show i = Lp x by omega]; exact go_ui Lp x))) ?_⟩) (fun h => ⟨pk_in (x * 8 + i) 128 (by omega) (go_ix8 x i), nm_r (go_rN P (x * 8 + i) (go_ix8 x i) (by omega)) (br_f ?_ ⟨pk_in (x * 8 + i) 128 (by omega) (go_ix8 x i), nm_r ((go_uN P (x * 8 + i) (P (x * 8 + i)) rfl (go_ix8 x i)).trans (congrArg go_N (go_ui P _))) (nm_r (nI_1 i) (nm_r (nI_1 i) (ih (i + 1) (by omega) (by omega))))⟩)⟩)
    · exact hp
    · rw [nI_eq (by have := I.1 (x * 8 + i); omega) (by omega)]
      exact ha i h
theorem go_cY8 {x y i0 : Nat} (hc : pc ≤ 8) (I : go_IV8 pc P Lp) (hx : x < 16) (hy : y < 16) (h0 : i0 < Lp x) (post : SY → Prop) (hp : post (nI nn, nI ac, nI pc, nI tm, nI lo, nI md, go_B al, go_N A, go_N La, go_N (go_sh P (x * 8 + i0) (x * 8 + (Lp x - 1))), go_N (go_up Lp x (Lp x - 1)), go_B E, go_B D, go_B W, go_N T, go_B U, go_N C)) : ∀ n m, i0 ≤ m → m ≤ Lp x - 1 → Lp x - m ≤ n → wY_removeP_15 post (nI x) (nI nn) (nI ac) (nI pc) (nI tm) (nI lo) (nI md) n (nI m) (go_B al) (go_N A) (go_N La) (go_N (go_sh P (x * 8 + i0) (x * 8 + m))) (go_N Lp) (go_B E) (go_B D) (go_B W) (go_N T) (go_B U) (go_N C) := by
  have hl := I.2.1 x
  have e2 : go_N Lp (nI x).toNatClampNeg - 1 = nI (Lp x - 1) := by
    rw [go_rN Lp x rfl (by omega)]
    exact pk_sub (a := Lp x) (b := 1) (by omega)
  intro n
  induction n with
  | zero => intro m _ _ hn; exact absurd hn (by omega)
  | succ n ih =>
    intro m hm1 hm2 hn
    have e1 : nI x * 8 + nI m + 1 = nI (x * 8 + m + 1) := (congrArg (fun z => z + 1) (go_ix8 x m)).trans (nI_1 _)
    refine ⟨vp_in_nI hx (by omega), pk_le (Lp x - 1) m (fun h => ⟨vp_in_nI hx (by omega), vp_in_nI hx (by omega), nm_r (go_uN Lp x (Lp x - 1) e2) ?_⟩) (fun h => ⟨pk_in (x * 8 + m + 1) 128 (by omega) e1, pk_in (x * 8 + m) 128 (by omega) (go_ix8 x m), nm_r ((go_uN _ (x * 8 + m) (P (x * 8 + m + 1)) ((go_rN _ (x * 8 + m + 1) e1 (by omega)).trans (congrArg nI (go_shr P (by omega)))) (go_ix8 x m)).trans (congrArg go_N (go_shs P (by omega)))) (nm_r (nI_1 m) (ih (m + 1) (by omega) (by omega) (by omega)))⟩) e2 rfl (by omega) (by omega)⟩
    have hm : Lp x - 1 = m := by omega
    rw [hm] at hp ⊢
    exact hp
theorem go_rX18 {x y i0 : Nat} (hc : pc ≤ 8) (I : go_IV8 pc P Lp) (hx : x < 16) (hy : y < 16) (h0 : i0 < Lp x) (he : P (x * 8 + i0) = y) (post : SX → Prop) (hp : post  (nI nn, nI ac, nI pc, nI tm, nI md, nI lo, go_B al, go_N A, go_N La, go_N (go_sh P (x * 8 + i0) (x * 8 + (Lp x - 1))), go_N (go_up Lp x (Lp x - 1)), go_M E, go_M D, go_M W, go_N T, go_S U C)) : wpX_removePassive post (nI nn, nI ac, nI pc, nI tm, nI md, nI lo, go_B al, go_N A, go_N La, go_N P, go_N Lp, go_M E, go_M D, go_M W, go_N T, go_S U C) (nI x) (nI y) := ⟨vp_in_nI hx (by omega), nm_r (go_rN Lp x rfl (by omega)) ⟨Lp x + 1, go_cX18 nn ac pc tm md lo al A La P Lp E D W T U C hc I hx hy h0 he post hp _ 0 (by omega) (by omega)⟩⟩
theorem go_rX08 {x y : Nat} (hc : pc ≤ 8) (I : go_IV8 pc P Lp) (hx : x < 16) (hy : y < 16) (ha : ∀ i, i < Lp x → P (x * 8 + i) ≠ y) (post : SX → Prop) (hp : post  (nI nn, nI ac, nI pc, nI tm, nI md, nI lo, go_B al, go_N A, go_N La, go_N P, go_N Lp, go_M E, go_M D, go_M W, go_N T, go_S U C)) : wpX_removePassive post (nI nn, nI ac, nI pc, nI tm, nI md, nI lo, go_B al, go_N A, go_N La, go_N P, go_N Lp, go_M E, go_M D, go_M W, go_N T, go_S U C) (nI x) (nI y) := ⟨vp_in_nI hx (by omega), nm_r (go_rN Lp x rfl (by omega)) ⟨Lp x + 1, go_cX08 nn ac pc tm md lo al A La P Lp E D W T U C hc I hx hy ha post hp _ 0 (by omega) (by omega)⟩⟩
theorem go_rY18 {x y i0 : Nat} (hc : pc ≤ 8) (I : go_IV8 pc P Lp) (hx : x < 16) (hy : y < 16) (h0 : i0 < Lp x) (he : P (x * 8 + i0) = y) (hb : ∀ j, j < i0 → P (x * 8 + j) ≠ y) (post : SY → Prop) (hp : post (nI nn, nI ac, nI pc, nI tm, nI lo, nI md, go_B al, go_N A, go_N La, go_N (go_sh P (x * 8 + i0) (x * 8 + (Lp x - 1))), go_N (go_up Lp x (Lp x - 1)), go_B E, go_B D, go_B W, go_N T, go_B U, go_N C)) : wpY_removeP post (nI nn, nI ac, nI pc, nI tm, nI lo, nI md, go_B al, go_N A, go_N La, go_N P, go_N Lp, go_B E, go_B D, go_B W, go_N T, go_B U, go_N C) (nI x) (nI y) := by
  have hl := I.2.1 x
  have w := go_cY8 nn ac pc tm md lo al A La P Lp E D W T U C hc I hx hy h0 post hp (Lp x + 1) i0 (by omega) (by omega) (by omega)
  rw [go_sh0] at w
  unfold wpY_removeP
  exact go_psy8 nn ac pc tm md lo al A La P Lp E D W T U C I.1 (by omega) hx hy h0 he hb _ (br_t (nI_pos' (by omega)) ⟨_, w⟩)
theorem go_rY08 {x y : Nat} (hc : pc ≤ 8) (I : go_IV8 pc P Lp) (hx : x < 16) (hy : y < 16) (ha : ∀ i, i < Lp x → P (x * 8 + i) ≠ y) (post : SY → Prop) (hp : post (nI nn, nI ac, nI pc, nI tm, nI lo, nI md, go_B al, go_N A, go_N La, go_N P, go_N Lp, go_B E, go_B D, go_B W, go_N T, go_B U, go_N C)) : wpY_removeP post (nI nn, nI ac, nI pc, nI tm, nI lo, nI md, go_B al, go_N A, go_N La, go_N P, go_N Lp, go_B E, go_B D, go_B W, go_N T, go_B U, go_N C) (nI x) (nI y) := by
  have hl := I.2.1 x
  unfold wpY_removeP
  exact go_ps8 nn ac pc tm md lo al A La P Lp E D W T U C I.1 (by omega) hx hy ha _ (br_f (by decide) hp)
end
