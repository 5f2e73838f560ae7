section
variable (nn ac pc tm md lo : Nat) (al : Nat → Bool) (A La P Lp : Nat → Nat) (E D W : Nat → Bool) (T : Nat → Nat) (U : Nat → Bool) (C : Nat → Nat)
theorem go_rdD (hn : nn ≤ 16) (j : Nat) (hj : j < 2 ^ 31) (post : Int32 → Prop) (hp : post (go_dd nn D j)) : wpX_delivered post (nI nn, nI ac, nI pc, nI tm, nI md, nI lo, go_B al, go_N A, go_N La, go_N P, go_N Lp, go_M E, go_M D, go_M W, go_N T, go_S U C) (nI j) := by
  unfold wpX_delivered
  unfold go_dd at hp
  by_cases h : j < nn
  · rw [if_pos h] at hp
    refine go_ndX nn ac pc tm md lo al A La P Lp E D W T U C hn h _ (br_f (by decide) ⟨vp_in_nI (by omega) (by omega), ?_⟩)
    rw [go_rM D j]
    exact hp
  · rw [if_neg h] at hp
    exact go_ndX0 nn ac pc tm md lo al A La P Lp E D W T U C (Or.inr (nI_le (by omega) hj)) _ (br_t rfl hp)
theorem go_pkl (hn : nn ≤ 16) {base : Nat} (hb : base < 16) (post : Int64 → Prop) (hp : post (go_pk nn D base 4)) : ∀ n v, v ≤ 4 → 4 - v < n → wL_pack_5 post (nI base) (nI nn) (nI ac) (nI pc) (nI tm) (nI md) (nI lo) (go_B al) (go_N A) (go_N La) (go_N P) (go_N Lp) (go_M E) (go_M D) (go_M W) (go_N T) (go_S U C) n (go_pk nn D base v) (nI v) := by
  intro n
  induction n with
  | zero => intro i _ hn; exact absurd hn (by omega)
  | succ n ih =>
    intro v hv hn'
    refine pk_le 4 v (fun h => ?_) (fun h => ?_)
    · rw [show v = 4 by omega]; exact hp
    · rw [nI_add]
      refine go_rdD nn ac pc tm md lo al A La P Lp E D W T U C hn (base + v) (by omega) _ (nm_r (e' := go_pk nn D base (v + 1)) ?_ (nm_r (nI_1 v) (ih (v + 1) (by omega) (by omega))))
      show go_pk nn D base v ||| (((go_dd nn D (base + v) &&& 65535).toInt64) <<< ((nI 16 * nI v).toInt64 &&& 63)) = _
      rw [pk_mul]
      rfl
theorem go_pack (hn : nn ≤ 16) {base : Nat} (hb : base < 16) (post : Int64 → Prop) (hp : post (go_pk nn D base 4)) : wpL_pack post (nI nn, nI ac, nI pc, nI tm, nI md, nI lo, go_B al, go_N A, go_N La, go_N P, go_N Lp, go_M E, go_M D, go_M W, go_N T, go_S U C) (nI base) := ⟨5, go_pkl nn ac pc tm md lo al A La P Lp E D W T U C hn hb post hp 5 0 (by omega) (by omega)⟩
theorem go_pdl (post : Int32 → Prop) (S : go_IS U C) (hp : ∀ r, (r = 0 → ∀ s, s < 64 → U s = false) → post r) : ∀ n i cnt, i ≤ 64 → 64 - i < n → cnt ≤ i → (cnt = 0 → ∀ s, s < i → U s = false) → wX_pending_4 post (nI nn) (nI ac) (nI pc) (nI tm) (nI md) (nI lo) (go_B al) (go_N A) (go_N La) (go_N P) (go_N Lp) (go_M E) (go_M D) (go_M W) (go_N T) (go_S U C) n (nI cnt) (nI i) := by
  intro n
  induction n with
  | zero => intro i _ _ hn; exact absurd hn (by omega)
  | succ n ih =>
    intro i cnt hi hn hc h0
    refine pk_le 64 i (fun h => hp _ (fun q => ?_)) (fun h => ⟨vp_in_nI h (by omega), go_brS S i (fun z => nm_r (nI_1 i) (ih (i + 1) cnt (by omega) (by omega) (by omega) (fun q s hs => ?_))) (fun z => nm_r (nI_1 cnt) (nm_r (nI_1 i) (ih (i + 1) (cnt + 1) (by omega) (by omega) (by omega) (fun q => absurd q (by omega)))))⟩)
    · have e : cnt = 0 := (nI_eq (a := cnt) (b := 0) (by omega) (by omega)).mp q
      rw [show (64 : Nat) = i by omega]
      exact h0 e
    · by_cases e : s = i
      · rw [e]; exact z
      · exact h0 q s (by omega)
theorem go_pd (post : Int32 → Prop) (S : go_IS U C) (hp : ∀ r, (r = 0 → ∀ s, s < 64 → U s = false) → post r) : wpX_pending post (nI nn, nI ac, nI pc, nI tm, nI md, nI lo, go_B al, go_N A, go_N La, go_N P, go_N Lp, go_M E, go_M D, go_M W, go_N T, go_S U C) := ⟨65, go_pdl nn ac pc tm md lo al A La P Lp E D W T U C post S hp 65 0 0 (by omega) (by omega) (by omega) (fun _ s hs => absurd hs (by omega))⟩
theorem go_gsX (hn : nn ≤ 16) {j b : Nat} (hj : j < nn) (hb : b < 16) (post : Int32 → Prop) (hp : post (go_M W (j * 16 + b) ||| (nI (T (j * 16 + b)) <<< ((16 : Int32) &&& 31)))) : wpX_graftState post (nI nn, nI ac, nI pc, nI tm, nI md, nI lo, go_B al, go_N A, go_N La, go_N P, go_N Lp, go_M E, go_M D, go_M W, go_N T, go_S U C) (nI j) (nI b) := by
  unfold wpX_graftState
  have hw : vp_in (nI (j * 16 + b)) 256 := vp_in_nI (by omega) (by omega)
  refine go_ndX nn ac pc tm md lo al A La P Lp E D W T U C hn hj _ (br_f (by decide) (br_f (nI_pos (by omega)) (br_t (nI_lt (b := 16) hb (by omega)) (nm_r (go_ix16 j b) ⟨hw, hw, ?_⟩))))
  rw [go_rM W (j * 16 + b), go_rN T (j * 16 + b) rfl (by omega)]
  exact hp
theorem go_q9 (hn : nn ≤ 16) (hT : ∀ j, T j ≤ 8) {v : Nat} (hv : v < nn) (post : Int32 → Prop) (h0 : post 0) (J : Int32 → Prop) (hJ : (∀ b, b < 16 → T (v * 16 + b) = 0) → J (nI (v + 1))) : ∀ n b, b ≤ 16 → 16 - b < n → (∀ c, c < b → T (v * 16 + c) = 0) → wL_quiet_9 post J (nI nn) (nI v) (nI nn) (nI ac) (nI pc) (nI tm) (nI md) (nI lo) (go_B al) (go_N A) (go_N La) (go_N P) (go_N Lp) (go_M E) (go_M D) (go_M W) (go_N T) (go_S U C) n (nI b) := by
  intro n
  induction n with
  | zero => intro i _ hn; exact absurd hn (by omega)
  | succ n ih =>
    intro b hb hn' hc
    refine pk_le 16 b (fun h => nm_r (nI_1 v) (hJ (fun c h2 => hc c (by omega)))) (fun h => go_gsX nn ac pc tm md lo al A La P Lp E D W T U C hn hv h _ ?_)
    have h8 := hT (v * 16 + b)
    have e := go_gq W (v * 16 + b) (T (v * 16 + b)) h8
    by_cases t0 : T (v * 16 + b) = 0
    · refine br_t (by rw [e, t0]; exact nI_0) (nm_r (nI_1 b) (ih (b + 1) (by omega) (by omega) (fun c h2 => ?_)))
      by_cases q : c = b
      · rw [q]; exact t0
      · exact hc c (by omega)
    · exact br_f (by rw [e]; exact nI_ne0 (by omega) (by omega)) h0
theorem go_q2 (hn : nn ≤ 16) (hT : ∀ j, T j ≤ 8) (post : Int32 → Prop) (h0 : post 0) (h1 : (∀ v b, v < nn → b < 16 → T (v * 16 + b) = 0) → post 1) : ∀ n v, v ≤ nn → nn - v < n → (∀ z b, z < v → b < 16 → T (z * 16 + b) = 0) → wL_quiet_2 post (nI nn) (nI nn) (nI ac) (nI pc) (nI tm) (nI md) (nI lo) (go_B al) (go_N A) (go_N La) (go_N P) (go_N Lp) (go_M E) (go_M D) (go_M W) (go_N T) (go_S U C) n (nI v) := by
  intro n
  induction n with
  | zero => intro i _ hn; exact absurd hn (by omega)
  | succ n ih =>
    intro v hv hn' hc
    refine pk_le nn v (fun h => h1 (fun z b hz hb => hc z b (by omega) hb)) (fun h => ⟨17, go_q9 nn ac pc tm md lo al A La P Lp E D W T U C hn hT h post h0 _ (fun hv0 => ih (v + 1) (by omega) (by omega) (fun z b hz hb => ?_)) 17 0 (by omega) (by omega) (fun c hc => absurd hc (by omega))⟩)
    by_cases q : z = v
    · rw [q]; exact hv0 b hb
    · exact hc z b (by omega) hb
theorem go_qt (hn : nn ≤ 16) (hT : ∀ j, T j ≤ 8) (post : Int32 → Prop) (h0 : post 0) (h1 : (∀ v b, v < nn → b < 16 → T (v * 16 + b) = 0) → post 1) : wpL_quiet post (nI nn, nI ac, nI pc, nI tm, nI md, nI lo, go_B al, go_N A, go_N La, go_N P, go_N Lp, go_M E, go_M D, go_M W, go_N T, go_S U C) (nI nn) := ⟨nn + 1, go_q2 nn ac pc tm md lo al A La P Lp E D W T U C hn hT post h0 h1 (nn + 1) 0 (by omega) (by omega) (fun z b hz => absurd hz (by omega))⟩
theorem go_msX (S : go_IS U C) (v : Int32) (post : Int32 → Prop) (hp : ∀ r, post r) : wpX_message post (nI nn, nI ac, nI pc, nI tm, nI md, nI lo, go_B al, go_N A, go_N La, go_N P, go_N Lp, go_M E, go_M D, go_M W, go_N T, go_S U C) v := by
  unfold wpX_message
  rcases go_cls v 64 (by omega) with h1 | ⟨s, hs, rfl⟩
  · exact go_usX0 nn ac pc tm md lo al A La P Lp E D W T U C S (Or.inl h1) _ (br_t rfl (hp _))
  · cases hU : U s with
    | false => exact go_usX0 nn ac pc tm md lo al A La P Lp E D W T U C S (Or.inr ⟨s, hs, rfl, hU⟩) _ (br_t rfl (hp _))
    | true => exact go_usX nn ac pc tm md lo al A La P Lp E D W T U C S hs hU _ (br_f (by decide) ⟨vp_in_nI hs (by omega), hp _⟩)
theorem go_ufl (S : go_IS U C) (x1 : Int32) (post : Int32 → Prop) (hp : ∀ r, post r) : ∀ n i, i ≤ 64 → 64 - i < n → wL_usedFrom_2 post x1 (nI nn) (nI ac) (nI pc) (nI tm) (nI md) (nI lo) (go_B al) (go_N A) (go_N La) (go_N P) (go_N Lp) (go_M E) (go_M D) (go_M W) (go_N T) (go_S U C) n (nI i) := by
  intro n
  induction n with
  | zero => intro i _ hn; exact absurd hn (by omega)
  | succ n ih =>
    intro i hi hn
    exact pk_le 64 i (fun _ => hp _) (fun h => nm_e (go_msX nn ac pc tm md lo al A La P Lp E D W T U C S _ _ (fun r => br_c (fun _ => nm_r (nI_1 i) (ih (i + 1) (by omega) (by omega))) (fun _ => hp _))))
theorem go_uf (S : go_IS U C) (x1 : Int32) (post : Int32 → Prop) (hp : ∀ r, post r) : wpL_usedFrom post (nI nn, nI ac, nI pc, nI tm, nI md, nI lo, go_B al, go_N A, go_N La, go_N P, go_N Lp, go_M E, go_M D, go_M W, go_N T, go_S U C) x1 := ⟨65, go_ufl nn ac pc tm md lo al A La P Lp E D W T U C S x1 post hp 65 0 (by omega) (by omega)⟩
theorem go_aaX (hn : nn ≤ 16) (hL : ∀ x, La x ≤ 4) {v j : Nat} (hv : v < nn) (hj : j < 4) (post : Int32 → Prop) (h1 : j < La v → post (nI (A (v * 4 + j)))) (h2 : post (-1)) : wpX_activeAt post (nI nn, nI ac, nI pc, nI tm, nI md, nI lo, go_B al, go_N A, go_N La, go_N P, go_N Lp, go_M E, go_M D, go_M W, go_N T, go_S U C) (nI v) (nI j) := by
  unfold wpX_activeAt
  have hl := hL v
  have rl := go_rN (e := nI v) La v rfl (by omega)
  refine go_ndX nn ac pc tm md lo al A La P Lp E D W T U C hn hv _ (br_f (by decide) (br_f (nI_pos (by omega)) ⟨vp_in_nI (by omega) (by omega), ?_⟩))
  by_cases q : j < La v
  · refine br_t (by rw [rl]; exact nI_lt q (by omega)) ⟨pk_in (v * 4 + j) 64 (by omega) (go_ix4 v j), ?_⟩
    rw [go_rN A (v * 4 + j) (go_ix4 v j) (by omega)]
    exact h1 q
  · exact br_f (by rw [rl]; exact nI_nlt (by omega) (by omega)) h2
def go_R (nn : Nat) (al D : Nat → Bool) (b : Nat) (r : Int32) : Prop := ∀ v, v < 32 → bt r v = true → v < nn ∧ al v = true ∧ D (v * 16 + b) = true
theorem go_r34 (hn : nn ≤ 16) (hA : ∀ j, A j < 16) (hL : ∀ x, La x ≤ 4) {v b : Nat} {x4 : Int32} (hv : v < nn) (hav : al v = true) (hdv : D (v * 16 + b) = true) (hE : ∀ p, p < nn → al p = true → go_lk A La v p → D (p * 16 + b) = true) (post : Int32 → Prop) (J7 J16 : Int32 → Int32 → Prop) (hJ : ∀ r, go_R nn al D b r → J16 r (nI (v + 1))) : ∀ n j r, j ≤ 4 → 4 - j < n → go_R nn al D b r → wL_reach_34 post J7 J16 (nI nn) x4 (nI v) (nI nn) (nI ac) (nI pc) (nI tm) (nI md) (nI lo) (go_B al) (go_N A) (go_N La) (go_N P) (go_N Lp) (go_M E) (go_M D) (go_M W) (go_N T) (go_S U C) n r (nI j) := by
  intro n
  induction n with
  | zero => intro j r _ hn; exact absurd hn (by omega)
  | succ n ih =>
    intro j r hj hn' hR
    refine pk_le 4 j (fun _ => nm_r (nI_1 v) (hJ r hR)) (fun h => go_aaX nn ac pc tm md lo al A La P Lp E D W T U C hn hL hv h _ (fun q => ?_) (br_t (by decide) (nm_r (nI_1 j) (ih (j + 1) r (by omega) (by omega) hR))))
    have hp := hA (v * 4 + j)
    refine br_f (nI_pos (by omega)) (pk_le nn (A (v * 4 + j)) (fun _ => nm_r (nI_1 j) (ih (j + 1) r (by omega) (by omega) hR)) (fun hpn => ?_))
    cases ha : al (A (v * 4 + j)) with
    | false => exact go_alX0 nn ac pc tm md lo al A La P Lp E D W T U C hn (Or.inr ⟨_, hpn, rfl, ha⟩) _ (br_t rfl (nm_r (nI_1 j) (ih (j + 1) r (by omega) (by omega) hR)))
    | true =>
      refine go_alX nn ac pc tm md lo al A La P Lp E D W T U C hn hpn ha _ (br_f (by decide) (nm_e (nm_r (nI_1 j) (ih (j + 1) _ (by omega) (by omega) (fun z hz hb => ?_)))))
      rw [b_or, go_1b _ (by omega) hz] at hb
      rcases Bool.or_eq_true_iff.mp hb with hb | hb
      · exact hR z hz hb
      · have e : z = A (v * 4 + j) := of_decide_eq_true hb
        rw [e]
        exact ⟨hpn, ha, hE _ hpn ha ⟨j, q, rfl⟩⟩
theorem go_r16 (hn : nn ≤ 16) (hA : ∀ j, A j < 16) (hL : ∀ x, La x ≤ 4) {b k : Nat} (hE : ∀ v p, v < nn → p < nn → al v = true → al p = true → go_lk A La v p → D (v * 16 + b) = true → D (p * 16 + b) = true) (post : Int32 → Prop) (J7 : Int32 → Int32 → Prop) (hJ : ∀ r, go_R nn al D b r → J7 r (nI (k + 1))) : ∀ n v r, v ≤ nn → nn - v < n → go_R nn al D b r → wL_reach_16 post J7 (nI nn) (nI k) (nI nn) (nI ac) (nI pc) (nI tm) (nI md) (nI lo) (go_B al) (go_N A) (go_N La) (go_N P) (go_N Lp) (go_M E) (go_M D) (go_M W) (go_N T) (go_S U C) n r (nI v) := by
  intro n
  induction n with
  | zero => intro v r _ hn; exact absurd hn (by omega)
  | succ n ih =>
    intro v r hv hn' hR
    refine pk_le nn v (fun _ => nm_r (nI_1 k) (hJ r hR)) (fun h => ?_)
    cases hb : bt r v with
    | false => exact br_t ((go_sb1 r v (by omega)).mpr hb) (nm_r (nI_1 v) (ih (v + 1) r (by omega) (by omega) hR))
    | true =>
      obtain ⟨_, hav, hdv⟩ := hR v (by omega) hb
      exact br_f (fun q => by rw [(go_sb1 r v (by omega)).mp q] at hb; exact absurd hb (by decide)) ⟨5, go_r34 nn ac pc tm md lo al A La P Lp E D W T U C hn hA hL h hav hdv (fun p hp ap l => hE v p h hp hav ap l hdv) post J7 _ (fun r' hR' => ih (v + 1) r' (by omega) (by omega) hR') 5 0 r (by omega) (by omega) hR⟩
theorem go_r7 (hn : nn ≤ 16) (hA : ∀ j, A j < 16) (hL : ∀ x, La x ≤ 4) {b : Nat} (hE : ∀ v p, v < nn → p < nn → al v = true → al p = true → go_lk A La v p → D (v * 16 + b) = true → D (p * 16 + b) = true) (post : Int32 → Prop) (hp : ∀ r, go_R nn al D b r → post r) : ∀ n k r, k ≤ nn → nn - k < n → go_R nn al D b r → wL_reach_7 post (nI nn) (nI nn) (nI ac) (nI pc) (nI tm) (nI md) (nI lo) (go_B al) (go_N A) (go_N La) (go_N P) (go_N Lp) (go_M E) (go_M D) (go_M W) (go_N T) (go_S U C) n r (nI k) := by
  intro n
  induction n with
  | zero => intro v r _ hn; exact absurd hn (by omega)
  | succ n ih =>
    intro k r hk hn' hR
    exact pk_le nn k (fun _ => hp r hR) (fun h => ⟨nn + 1, go_r16 nn ac pc tm md lo al A La P Lp E D W T U C hn hA hL hE post _ (fun r' hR' => ih (k + 1) r' (by omega) (by omega) hR') (nn + 1) 0 r (by omega) (by omega) hR⟩)
theorem go_reach (hn : nn ≤ 16) (hA : ∀ j, A j < 16) (hL : ∀ x, La x ≤ 4) {b s : Nat} (hs : s < nn) (has : al s = true) (hds : D (s * 16 + b) = true) (hE : ∀ v p, v < nn → p < nn → al v = true → al p = true → go_lk A La v p → D (v * 16 + b) = true → D (p * 16 + b) = true) (post : Int32 → Prop) (hp : ∀ r, go_R nn al D b r → post r) : wpL_reach post (nI nn, nI ac, nI pc, nI tm, nI md, nI lo, go_B al, go_N A, go_N La, go_N P, go_N Lp, go_M E, go_M D, go_M W, go_N T, go_S U C) (nI nn) (nI s) := by
  refine nm_e ⟨nn + 1, go_r7 nn ac pc tm md lo al A La P Lp E D W T U C hn hA hL hE post hp (nn + 1) 0 _ (by omega) (by omega) (fun z hz hb => ?_)⟩
  rw [go_1b s (by omega) hz] at hb
  have e : z = s := of_decide_eq_true hb
  rw [e]
  exact ⟨hs, has, hds⟩
theorem go_c59 (hn : nn ≤ 16) {b : Nat} {x2 : Int32} {x3 : Int64} {r : Int32} (hb : b < 16) (hR : go_R nn al D b r) (post : Int32 → Prop) (J : Int32 → Prop) (hJ : J (nI (b + 1))) : ∀ n v, v ≤ nn → nn - v < n → wL_covered_59 post J (nI nn) x2 x3 (nI b) r (nI nn) (nI ac) (nI pc) (nI tm) (nI md) (nI lo) (go_B al) (go_N A) (go_N La) (go_N P) (go_N Lp) (go_M E) (go_M D) (go_M W) (go_N T) (go_S U C) n (nI v) := by
  intro n
  induction n with
  | zero => intro v _ hn; exact absurd hn (by omega)
  | succ n ih =>
    intro v hv hn'
    refine pk_le nn v (fun _ => nm_r (nI_1 b) hJ) (fun h => ?_)
    cases hbt : bt r v with
    | false => exact br_t ((go_sb1 r v (by omega)).mpr hbt) (nm_r (nI_1 v) (ih (v + 1) (by omega) (by omega)))
    | true =>
      obtain ⟨h1, h2, h3⟩ := hR v (by omega) hbt
      refine br_f (fun q => by rw [(go_sb1 r v (by omega)).mp q] at hbt; exact absurd hbt (by decide)) (go_rdD nn ac pc tm md lo al A La P Lp E D W T U C hn v (by omega) _ (br_f (fun q => ?_) (nm_r (nI_1 v) (ih (v + 1) (by omega) (by omega)))))
      have w := (go_sb1 (go_dd nn D v) b (by omega)).mp q
      unfold go_dd at w
      rw [if_pos h1, go_Mb D v b (by omega), h3, decide_eq_true hb] at w
      exact absurd w (by decide)
theorem go_c3 (hn : nn ≤ 16) (hA : ∀ j, A j < 16) (hL : ∀ x, La x ≤ 4) {x9 : Int32} {x7 : Int64} {src : Nat → Nat} (hm : ∀ i, i < 32 → bt x9 i = decide (i < md)) (hsr : go_sr x7 md src) (hsc : ∀ b, b < md → src b < nn ∧ D (src b * 16 + b) = true) (hE : ∀ b, b < 16 → ∀ v p, v < nn → p < nn → al v = true → al p = true → go_lk A La v p → D (v * 16 + b) = true → D (p * 16 + b) = true) (post : Int32 → Prop) (hp : post 1) : ∀ n b, b ≤ 16 → 16 - b < n → wL_covered_3 post (nI nn) x9 x7 (nI nn) (nI ac) (nI pc) (nI tm) (nI md) (nI lo) (go_B al) (go_N A) (go_N La) (go_N P) (go_N Lp) (go_M E) (go_M D) (go_M W) (go_N T) (go_S U C) n (nI b) := by
  intro n
  induction n with
  | zero => intro v _ hn; exact absurd hn (by omega)
  | succ n ih =>
    intro b hb hn'
    refine pk_le 16 b (fun _ => hp) (fun h => ?_)
    by_cases hbm : b < md
    · have hbt : bt x9 b = true := by rw [hm b (by omega)]; exact decide_eq_true hbm
      obtain ⟨hs1, hs2⟩ := hsc b hbm
      have e4 : (4 : Int32) * nI b = nI (4 * b) := pk_mul 4 b
      refine br_f (fun q => by rw [(go_sb1 x9 b (by omega)).mp q] at hbt; exact absurd hbt (by decide)) (nm_r (e' := nI (src b)) (by rw [e4]; exact go_srr hsr hbm h (by omega)) ?_)
      cases ha : al (src b) with
      | false => exact go_alX0 nn ac pc tm md lo al A La P Lp E D W T U C hn (Or.inr ⟨_, hs1, rfl, ha⟩) _ (br_t rfl (nm_r (nI_1 b) (ih (b + 1) (by omega) (by omega))))
      | true => exact go_alX nn ac pc tm md lo al A La P Lp E D W T U C hn hs1 ha _ (br_f (by decide) (go_reach nn ac pc tm md lo al A La P Lp E D W T U C hn hA hL hs1 ha hs2 (hE b h) _ (fun r hR => ⟨nn + 1, go_c59 nn ac pc tm md lo al A La P Lp E D W T U C hn h hR post _ (ih (b + 1) (by omega) (by omega)) (nn + 1) 0 (by omega) (by omega)⟩)))
    · have hbt : bt x9 b = false := by rw [hm b (by omega)]; exact decide_eq_false hbm
      exact br_t ((go_sb1 x9 b (by omega)).mpr hbt) (nm_r (nI_1 b) (ih (b + 1) (by omega) (by omega)))
theorem go_cov (hn : nn ≤ 16) (hA : ∀ j, A j < 16) (hL : ∀ x, La x ≤ 4) {x9 : Int32} {x7 : Int64} {src : Nat → Nat} (hm : ∀ i, i < 32 → bt x9 i = decide (i < md)) (hsr : go_sr x7 md src) (hsc : ∀ b, b < md → src b < nn ∧ D (src b * 16 + b) = true) (hE : ∀ b, b < 16 → ∀ v p, v < nn → p < nn → al v = true → al p = true → go_lk A La v p → D (v * 16 + b) = true → D (p * 16 + b) = true) (post : Int32 → Prop) (hp : post 1) : wpL_covered post (nI nn, nI ac, nI pc, nI tm, nI md, nI lo, go_B al, go_N A, go_N La, go_N P, go_N Lp, go_M E, go_M D, go_M W, go_N T, go_S U C) (nI nn) x9 x7 := ⟨17, go_c3 nn ac pc tm md lo al A La P Lp E D W T U C hn hA hL hm hsr hsc hE post hp 17 0 (by omega) (by omega)⟩
end
theorem go_ftl {nn md base : Nat} {D : Nat → Bool} {x : Int64} {x9 : Int32} (h : go_sub nn D base x) (hK : ∀ z b, b < 16 → D (z * 16 + b) = true → b < md) (hm : ∀ i, i < 32 → bt x9 i = decide (i < md)) (post : Int32 → Prop) (hp : post 1) : ∀ n v, v ≤ 4 → 4 - v < n → wL_fits_2 post x x9 n (nI v) := by
  intro n
  induction n with
  | zero => intro v _ hn; exact absurd hn (by omega)
  | succ n ih =>
    intro v hv hn
    have e16 : (16 : Int32) * nI v = nI (16 * v) := pk_mul 16 v
    exact pk_le 4 v (fun _ => hp) (fun h4 => br_t (by rw [e16]; exact go_fit h hK hm h4) (nm_r (nI_1 v) (ih (v + 1) (by omega) (by omega))))
theorem go_ft {nn md base : Nat} {D : Nat → Bool} {x : Int64} {x9 : Int32} (h : go_sub nn D base x) (hK : ∀ z b, b < 16 → D (z * 16 + b) = true → b < md) (hm : ∀ i, i < 32 → bt x9 i = decide (i < md)) (post : Int32 → Prop) (hp : post 1) : wpL_fits post () x x9 := ⟨5, go_ftl h hK hm post hp 5 0 (by omega) (by omega)⟩
