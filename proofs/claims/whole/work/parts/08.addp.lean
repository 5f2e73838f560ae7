section
variable (nn ac pc tm md lo : Nat) (al : Nat → Bool) (A La P Lp : Nat → Nat) (E D W : Nat → Bool) (T : Nat → Nat) (U : Nat → Bool) (C : Nat → Nat)
theorem go_pyX {x y : Nat} (hx : x < 16) (hy : y < 16) (hl : Lp x < 8) (post : SX → Prop) (hp : post (nI nn, nI ac, nI pc, nI tm, nI md, nI lo, go_B al, go_N A, go_N La, go_N (go_up P (x * 8 + Lp x) y), go_N (go_up Lp x (Lp x + 1)), go_M E, go_M D, go_M W, go_N T, go_S U C)) : wX_addPassive_53 post (nI x) (nI y) (nI nn) (nI ac) (nI pc) (nI tm) (nI md) (nI lo) (go_B al) (go_N A) (go_N La) (go_N P) (go_N Lp) (go_M E) (go_M D) (go_M W) (go_N T) (go_S U C) := by
  have e1 : nI x * 8 + go_N Lp (nI x).toNatClampNeg = nI (x * 8 + Lp x) := by rw [go_rN Lp x rfl (by omega)]; exact go_ix8 x (Lp x)
  have e2 : go_N Lp (nI x).toNatClampNeg + 1 = nI (Lp x + 1) := by rw [go_rN Lp x rfl (by omega)]; exact nI_1 _
  exact ⟨vp_in_nI hx (by omega), pk_in (x * 8 + Lp x) 128 (by omega) e1, nm_r (go_uN P (x * 8 + Lp x) y rfl e1) ⟨vp_in_nI hx (by omega), vp_in_nI hx (by omega), nm_r (go_uN Lp x (Lp x + 1) e2) hp⟩⟩
theorem go_pyY {x y : Nat} (hx : x < 16) (hy : y < 16) (hl : Lp x < 8) (post : SY → Prop) (hp : post (nI nn, nI ac, nI pc, nI tm, nI lo, nI md, go_B al, go_N A, go_N La, go_N (go_up P (x * 8 + Lp x) y), go_N (go_up Lp x (Lp x + 1)), go_B E, go_B D, go_B W, go_N T, go_B U, go_N C)) : wY_addP_51 post (nI x) (nI y) (nI nn) (nI ac) (nI pc) (nI tm) (nI lo) (nI md) (go_B al) (go_N A) (go_N La) (go_N P) (go_N Lp) (go_B E) (go_B D) (go_B W) (go_N T) (go_B U) (go_N C) := by
  have e1 : nI x * 8 + go_N Lp (nI x).toNatClampNeg = nI (x * 8 + Lp x) := by rw [go_rN Lp x rfl (by omega)]; exact go_ix8 x (Lp x)
  have e2 : go_N Lp (nI x).toNatClampNeg + 1 = nI (Lp x + 1) := by rw [go_rN Lp x rfl (by omega)]; exact nI_1 _
  exact ⟨vp_in_nI hx (by omega), pk_in (x * 8 + Lp x) 128 (by omega) e1, nm_r (go_uN P (x * 8 + Lp x) y rfl e1) ⟨vp_in_nI hx (by omega), vp_in_nI hx (by omega), nm_r (go_uN Lp x (Lp x + 1) e2) hp⟩⟩
theorem go_addP {x y : Nat} (hac : ac ≤ 4) (IA : go_IV4 ac A La) (hpc : 1 ≤ pc ∧ pc ≤ 8) (I : go_IV8 pc P Lp) (hx : x < 16) (hy : y < 16) : ∃ (P' Lp' : Nat → Nat), go_IV8 pc P' Lp' ∧ (∀ post : SX → Prop, post (nI nn, nI ac, nI pc, nI tm, nI md, nI lo, go_B al, go_N A, go_N La, go_N P', go_N Lp', go_M E, go_M D, go_M W, go_N T, go_S U C) → wpX_addPassive post (nI nn, nI ac, nI pc, nI tm, nI md, nI lo, go_B al, go_N A, go_N La, go_N P, go_N Lp, go_M E, go_M D, go_M W, go_N T, go_S U C) (nI x) (nI y)) ∧ (∀ post : SY → Prop, post (nI nn, nI ac, nI pc, nI tm, nI lo, nI md, go_B al, go_N A, go_N La, go_N P', go_N Lp', go_B E, go_B D, go_B W, go_N T, go_B U, go_N C) → wpY_addP post (nI nn, nI ac, nI pc, nI tm, nI lo, nI md, go_B al, go_N A, go_N La, go_N P, go_N Lp, go_B E, go_B D, go_B W, go_N T, go_B U, go_N C) (nI x) (nI y)) := by
  have hla := IA.2.1 x
  have hlp := I.2.1 x
  by_cases e : y = x
  · exact ⟨P, Lp, I, fun post hp => br_t (by rw [e]) hp, fun post hp => br_t (by rw [e]) hp⟩
  have e' : ¬ nI y = nI x := by rw [nI_eq (by omega) (by omega)]; exact e
  rcases go_first (fun i => A (x * 4 + i) = y) (La x) with hA | ⟨i, hi, hAi, hAb⟩
  rotate_left
  · exact ⟨P, Lp, I, fun post hp => br_f e' (go_isy4 nn ac pc tm md lo al A La P Lp E D W T U C IA.1 (by omega) hx hy hi hAi _ (br_f (by decide) hp)), fun post hp => br_f e' (go_psy4 nn ac pc tm md lo al A La P Lp E D W T U C IA.1 (by omega) hx hy hi hAi hAb _ (br_t (nI_pos' (by omega)) hp))⟩
  rcases go_first (fun i => P (x * 8 + i) = y) (Lp x) with hP | ⟨i, hi, hPi, hPb⟩
  rotate_left
  · exact ⟨P, Lp, I, fun post hp => br_f e' (go_is4 nn ac pc tm md lo al A La P Lp E D W T U C IA.1 (by omega) hx hy hA _ (br_t rfl (go_isy8 nn ac pc tm md lo al A La P Lp E D W T U C I.1 (by omega) hx hy hi hPi _ (br_f (by decide) hp)))), fun post hp => br_f e' (go_ps4 nn ac pc tm md lo al A La P Lp E D W T U C IA.1 (by omega) hx hy hA _ (br_f (by decide) (go_psy8 nn ac pc tm md lo al A La P Lp E D W T U C I.1 (by omega) hx hy hi hPi hPb _ (br_f (nI_pos (by omega)) hp))))⟩
  by_cases hf : Lp x = pc
  · have h0 : 0 < Lp x := by omega
    have I2 := go_rm8 hpc.2 I h0
    have l2 : go_up Lp x (Lp x - 1) x = Lp x - 1 := go_us
    have n2 : ∀ i, i < go_up Lp x (Lp x - 1) x → go_sh P (x * 8 + 0) (x * 8 + (Lp x - 1)) (x * 8 + i) ≠ y := by
      intro i hi
      rw [l2] at hi
      rw [go_rm8_at h0 hi, if_neg (by omega)]
      exact hP (i + 1) (by omega)
    have I3 := go_ap8 hpc.2 I2 (by rw [l2]; omega) hy n2
    have c1 : go_N Lp (nI x).toNatClampNeg = nI pc := by rw [go_rN Lp x rfl (by omega), hf]
    have c2 : nI x * 8 = nI (x * 8) := pk_mul x 8
    have c3 : go_N P (nI x * 8).toNatClampNeg = nI (P (x * 8 + 0)) := go_rN P (x * 8) c2 (by omega)
    have hz : P (x * 8 + 0) < 16 := I.1 _
    refine ⟨_, _, I3, fun post hp => br_f e' (go_is4 nn ac pc tm md lo al A La P Lp E D W T U C IA.1 (by omega) hx hy hA _ (br_t rfl (go_is8 nn ac pc tm md lo al A La P Lp E D W T U C I.1 (by omega) hx hy hP _ (br_t rfl ⟨vp_in_nI hx (by omega), br_t c1 ⟨pk_in (x * 8) 128 (by omega) c2, nm_r c3 ?_⟩⟩)))), fun post hp => br_f e' (go_ps4 nn ac pc tm md lo al A La P Lp E D W T U C IA.1 (by omega) hx hy hA _ (br_f (by decide) (go_ps8 nn ac pc tm md lo al A La P Lp E D W T U C I.1 (by omega) hx hy hP _ (br_t (by decide) ⟨vp_in_nI hx (by omega), br_t c1 ⟨pk_in (x * 8) 128 (by omega) c2, ?_⟩⟩))))⟩
    · exact go_rX18 nn ac pc tm md lo al A La P Lp E D W T U C hpc.2 I hx hz h0 rfl _ (go_pyX nn ac pc tm md lo al A La (go_sh P (x * 8 + 0) (x * 8 + (Lp x - 1))) (go_up Lp x (Lp x - 1)) E D W T U C hx hy (by rw [l2]; omega) post hp)
    · rw [c3]
      exact go_rY18 nn ac pc tm md lo al A La P Lp E D W T U C hpc.2 I hx hz h0 rfl (fun j hj => absurd hj (by omega)) _ (go_pyY nn ac pc tm md lo al A La (go_sh P (x * 8 + 0) (x * 8 + (Lp x - 1))) (go_up Lp x (Lp x - 1)) E D W T U C hx hy (by rw [l2]; omega) post hp)
  · have I3 := go_ap8 hpc.2 I (by omega) hy hP
    have c1 : ¬ go_N Lp (nI x).toNatClampNeg = nI pc := by rw [go_rN Lp x rfl (by omega), nI_eq (by omega) (by omega)]; exact hf
    exact ⟨_, _, I3, fun post hp => br_f e' (go_is4 nn ac pc tm md lo al A La P Lp E D W T U C IA.1 (by omega) hx hy hA _ (br_t rfl (go_is8 nn ac pc tm md lo al A La P Lp E D W T U C I.1 (by omega) hx hy hP _ (br_t rfl ⟨vp_in_nI hx (by omega), br_f c1 (go_pyX nn ac pc tm md lo al A La P Lp E D W T U C hx hy (by omega) post hp)⟩)))), fun post hp => br_f e' (go_ps4 nn ac pc tm md lo al A La P Lp E D W T U C IA.1 (by omega) hx hy hA _ (br_f (by decide) (go_ps8 nn ac pc tm md lo al A La P Lp E D W T U C I.1 (by omega) hx hy hP _ (br_t (by decide) ⟨vp_in_nI hx (by omega), br_f c1 (go_pyY nn ac pc tm md lo al A La P Lp E D W T U C hx hy (by omega) post hp)⟩))))⟩
end
