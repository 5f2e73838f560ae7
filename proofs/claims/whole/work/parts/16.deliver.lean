section
variable (nn ac pc tm md lo : Nat) (al : Nat → Bool) (A La P Lp : Nat → Nat) (E D W : Nat → Bool) (T : Nat → Nat) (U : Nat → Bool) (C : Nat → Nat)
theorem go_usX {s : Nat} (S : go_IS U C) (hs : s < 64) (hU : U s = true) (post : Int32 → Prop) (hp : post 1) : wpX_isUsed post (nI nn, nI ac, nI pc, nI tm, nI md, nI lo, go_B al, go_N A, go_N La, go_N P, go_N Lp, go_M E, go_M D, go_M W, go_N T, go_S U C) (nI s) := br_f (nI_pos (by omega)) (br_f (nI_ge (b := 64) hs (by omega)) ⟨vp_in_nI hs (by omega), br_f (fun q => by rw [(go_S0 S s).mp q] at hU; exact absurd hU (by decide)) hp⟩)
theorem go_usX0 {v : Int32} (S : go_IS U C) (hv : (v < 0 ∨ nI 64 ≤ v) ∨ ∃ s, s < 64 ∧ v = nI s ∧ U s = false) (post : Int32 → Prop) (hp : post 0) : wpX_isUsed post (nI nn, nI ac, nI pc, nI tm, nI md, nI lo, go_B al, go_N A, go_N La, go_N P, go_N Lp, go_M E, go_M D, go_M W, go_N T, go_S U C) v := by
  rcases hv with hv | ⟨s, hs, e, hU⟩
  · exact br_c (fun _ => hp) (fun q => br_t (hv.resolve_left q) hp)
  · rw [e]
    exact br_f (nI_pos (by omega)) (br_f (nI_ge (b := 64) hs (by omega)) ⟨vp_in_nI hs (by omega), br_t ((go_S0 S s).mpr hU) hp⟩)
theorem go_deliver {s : Nat} (hn : 2 ≤ nn ∧ nn ≤ 16) (hac : 2 ≤ ac ∧ ac ≤ 4) (hpc : 1 ≤ pc ∧ pc ≤ 8) (htm : 1 ≤ tm ∧ tm ≤ 8) (Z : go_Z ac pc A La P Lp E T U C) (hl : lo + 10 < 2 ^ 31) (hs : s < 64) (hU : U s = true) : ∃ (A' La' P' Lp' : Nat → Nat) (E' D' W' : Nat → Bool) (T' : Nat → Nat) (U' : Nat → Bool) (C' : Nat → Nat) (lo' : Nat), go_Z ac pc A' La' P' Lp' E' T' U' C' ∧ lo' ≤ lo + 10 ∧ (∀ post : Int32 → SX → Prop, post 1 (nI nn, nI ac, nI pc, nI tm, nI md, nI lo', go_B al, go_N A', go_N La', go_N P', go_N Lp', go_M E', go_M D', go_M W', go_N T', go_S U' C') → wpX_deliver post (nI nn, nI ac, nI pc, nI tm, nI md, nI lo, go_B al, go_N A, go_N La, go_N P, go_N Lp, go_M E, go_M D, go_M W, go_N T, go_S U C) (nI s)) ∧ (∀ post : Int32 → SY → Prop, post 1 (nI nn, nI ac, nI pc, nI tm, nI lo', nI md, go_B al, go_N A', go_N La', go_N P', go_N Lp', go_B E', go_B D', go_B W', go_N T', go_B U', go_N C') → wpY_deliver post (nI nn, nI ac, nI pc, nI tm, nI lo, nI md, go_B al, go_N A, go_N La, go_N P, go_N Lp, go_B E, go_B D, go_B W, go_N T, go_B U, go_N C) (nI s)) := by
  have S0 := Z.2.2.2.2
  have Z1 : go_Z ac pc A La P Lp E T (go_up U s false) C := ⟨Z.1, Z.2.1, Z.2.2.1, Z.2.2.2.1, go_ISf S0 s⟩
  have hc := (S0 s).1
  have hv : vp_in (nI s) 64 := vp_in_nI hs (by omega)
  have rS : go_S U C (nI s).toNatClampNeg = nI (C s) := go_rS s hU
  have rC := go_rN (e := nI s) C s rfl (by omega)
  have n63 : ¬ (63 : Int32) < nI s := Int32.not_lt.mpr (nI_le (b := 63) (by omega) (by omega))
  have d24 := go_d24 hc
  have d255 := go_d255 hc
  have d20 := go_d20 hc
  have d16 := go_d16 hc
  have d0 := go_d0 hc
  have hx : C s / 2 ^ 20 % 2 ^ 4 < 16 := by omega
  have hy : C s / 2 ^ 16 % 2 ^ 4 < 16 := by omega
  have ha : C s % 2 ^ 16 < 65536 := by omega
  have hk : C s / 2 ^ 24 < 128 := by omega
  generalize C s / 2 ^ 20 % 2 ^ 4 = x at d20 hx
  generalize C s / 2 ^ 16 % 2 ^ 4 = y at d16 hy
  generalize C s % 2 ^ 16 = a at d0 ha
  generalize C s / 2 ^ 24 = k at d24 d255 hk
  by_cases k1 : k = 1
  · have dx : nI (C s) >>> ((24 : Int32) &&& 31) = 1 := by rw [d24, k1]; rfl
    have dy : (nI (C s) >>> ((24 : Int32) &&& 31)) &&& 255 = 1 := by rw [d255, k1]; rfl
    obtain ⟨A', La', P', Lp', E', D', W', T', U', C', lo', Z', hl', hX, hY⟩ := go_h1 nn ac pc tm md lo al A La P Lp E D W T (go_up U s false) C (nI a) hac hpc Z1 hl hx hy
    refine ⟨A', La', P', Lp', E', D', W', T', U', C', lo', Z', hl', fun post hp => ?_, fun post hp => ?_⟩
    · unfold wpX_deliver
      exact go_usX nn ac pc tm md lo al A La P Lp E D W T U C S0 hs hU _ (br_f (by decide) ⟨hv, nm_r rS ⟨hv, nm_r (go_uSf U C s) (nm_r d20 (nm_r d16 (nm_r d0 (nm_r dx (br_f (by decide) (br_f (by decide) (br_t rfl (hX _ hp))))))))⟩⟩)
    · exact br_f (nI_pos (by omega)) (br_f n63 ⟨hv, br_f (go_bn U s hU) ⟨hv, nm_r rC ⟨hv, nm_r (go_uB U s false go_vf) (by rw [dy, d20, d16, d0]; exact hY _ hp)⟩⟩⟩)
  by_cases k2 : k = 2
  · have dx : nI (C s) >>> ((24 : Int32) &&& 31) = 2 := by rw [d24, k2]; rfl
    have dy : (nI (C s) >>> ((24 : Int32) &&& 31)) &&& 255 = 2 := by rw [d255, k2]; rfl
    obtain ⟨A', La', P', Lp', E', D', W', T', U', C', lo', Z', hl', hX, hY⟩ := go_h2 nn ac pc tm md lo al A La P Lp E D W T (go_up U s false) C hac hpc Z1 hl hx hy ha
    refine ⟨A', La', P', Lp', E', D', W', T', U', C', lo', Z', hl', fun post hp => ?_, fun post hp => ?_⟩
    · unfold wpX_deliver
      exact go_usX nn ac pc tm md lo al A La P Lp E D W T U C S0 hs hU _ (br_f (by decide) ⟨hv, nm_r rS ⟨hv, nm_r (go_uSf U C s) (nm_r d20 (nm_r d16 (nm_r d0 (nm_r dx (br_f (by decide) (br_f (by decide) (br_f (by decide) (br_t rfl (hX _ hp)))))))))⟩⟩)
    · exact br_f (nI_pos (by omega)) (br_f n63 ⟨hv, br_f (go_bn U s hU) ⟨hv, nm_r rC ⟨hv, nm_r (go_uB U s false go_vf) (by rw [dy, d20, d16, d0]; exact hY _ hp)⟩⟩⟩)
  by_cases k3 : k = 3
  · have dx : nI (C s) >>> ((24 : Int32) &&& 31) = 3 := by rw [d24, k3]; rfl
    have dy : (nI (C s) >>> ((24 : Int32) &&& 31)) &&& 255 = 3 := by rw [d255, k3]; rfl
    obtain ⟨A', La', E', P', Lp', U', C', lo', IA', JE', I', S', hl', hX, hY⟩ := go_addA nn ac pc tm md lo al A La P Lp E D W T (go_up U s false) C false hac Z1.1 Z1.2.1 hpc Z1.2.2.1 Z1.2.2.2.2 (by omega) hy hx
    refine ⟨A', La', P', Lp', E', D, W, T, U', C', lo', ⟨IA', JE', I', Z1.2.2.2.1, S'⟩, by omega, fun post hp => ?_, fun post hp => ?_⟩
    · unfold wpX_deliver
      exact go_usX nn ac pc tm md lo al A La P Lp E D W T U C S0 hs hU _ (br_f (by decide) ⟨hv, nm_r rS ⟨hv, nm_r (go_uSf U C s) (nm_r d20 (nm_r d16 (nm_r d0 (nm_r dx (br_f (by decide) (br_f (by decide) (br_f (by decide) (br_f (by decide) (br_t rfl (hX _ hp))))))))))⟩⟩)
    · exact br_f (nI_pos (by omega)) (br_f n63 ⟨hv, br_f (go_bn U s hU) ⟨hv, nm_r rC ⟨hv, nm_r (go_uB U s false go_vf) (by rw [dy, d20, d16, d0]; exact br_f (by decide) (br_f (by decide) (br_t rfl (hY _ hp))))⟩⟩⟩)
  by_cases k4 : k = 4
  · have dx : nI (C s) >>> ((24 : Int32) &&& 31) = 4 := by rw [d24, k4]; rfl
    have dy : (nI (C s) >>> ((24 : Int32) &&& 31)) &&& 255 = 4 := by rw [d255, k4]; rfl
    obtain ⟨A', La', P', Lp', E', D', W', T', U', C', lo', Z', hl', hX, hY⟩ := go_h4 nn ac pc tm md lo al A La P Lp E D W T (go_up U s false) C (nI a) hac hpc Z1 hx hy
    refine ⟨A', La', P', Lp', E', D', W', T', U', C', lo', Z', hl', fun post hp => ?_, fun post hp => ?_⟩
    · unfold wpX_deliver
      exact go_usX nn ac pc tm md lo al A La P Lp E D W T U C S0 hs hU _ (br_f (by decide) ⟨hv, nm_r rS ⟨hv, nm_r (go_uSf U C s) (nm_r d20 (nm_r d16 (nm_r d0 (nm_r dx (br_f (by decide) (br_f (by decide) (br_f (by decide) (br_f (by decide) (br_f (by decide) (br_t rfl (hX _ hp)))))))))))⟩⟩)
    · exact br_f (nI_pos (by omega)) (br_f n63 ⟨hv, br_f (go_bn U s hU) ⟨hv, nm_r rC ⟨hv, nm_r (go_uB U s false go_vf) (by rw [dy, d20, d16, d0]; exact hY _ hp)⟩⟩⟩)
  by_cases k5 : k = 5
  · have dx : nI (C s) >>> ((24 : Int32) &&& 31) = 5 := by rw [d24, k5]; rfl
    have dy : (nI (C s) >>> ((24 : Int32) &&& 31)) &&& 255 = 5 := by rw [d255, k5]; rfl
    obtain ⟨A', La', P', Lp', E', D', W', T', U', C', lo', Z', hl', hX, hY⟩ := go_h5 nn ac pc tm md lo al A La P Lp E D W T (go_up U s false) C hac hpc Z1 hl hx hy ha
    refine ⟨A', La', P', Lp', E', D', W', T', U', C', lo', Z', hl', fun post hp => ?_, fun post hp => ?_⟩
    · unfold wpX_deliver
      exact go_usX nn ac pc tm md lo al A La P Lp E D W T U C S0 hs hU _ (br_f (by decide) ⟨hv, nm_r rS ⟨hv, nm_r (go_uSf U C s) (nm_r d20 (nm_r d16 (nm_r d0 (nm_r dx (br_f (by decide) (br_f (by decide) (br_f (by decide) (br_f (by decide) (br_f (by decide) (br_f (by decide) (br_t rfl (hX _ hp))))))))))))⟩⟩)
    · exact br_f (nI_pos (by omega)) (br_f n63 ⟨hv, br_f (go_bn U s hU) ⟨hv, nm_r rC ⟨hv, nm_r (go_uB U s false go_vf) (by rw [dy, d20, d16, d0]; exact hY _ hp)⟩⟩⟩)
  by_cases k6 : k = 6
  · have dx : nI (C s) >>> ((24 : Int32) &&& 31) = 6 := by rw [d24, k6]; rfl
    have dy : (nI (C s) >>> ((24 : Int32) &&& 31)) &&& 255 = 6 := by rw [d255, k6]; rfl
    obtain ⟨P1, Lp1, I1, hX1, hY1⟩ := go_addP nn ac pc tm md lo al A La P Lp E D W T (go_up U s false) C hac.2 Z1.1 hpc Z1.2.2.1 hy hx
    obtain ⟨P', Lp', U', C', lo', I', S', hl', hX, hY⟩ := go_repair nn ac pc tm md lo al A La P1 Lp1 E D W T (go_up U s false) C hac (Z1.1.2.1 y) hpc I1 Z1.2.2.2.2 (by omega) hy
    refine ⟨A, La, P', Lp', E, D, W, T, U', C', lo', ⟨Z1.1, Z1.2.1, I', Z1.2.2.2.1, S'⟩, by omega, fun post hp => ?_, fun post hp => ?_⟩
    · unfold wpX_deliver
      exact go_usX nn ac pc tm md lo al A La P Lp E D W T U C S0 hs hU _ (br_f (by decide) ⟨hv, nm_r rS ⟨hv, nm_r (go_uSf U C s) (nm_r d20 (nm_r d16 (nm_r d0 (nm_r dx (br_f (by decide) (br_f (by decide) (br_f (by decide) (br_f (by decide) (br_f (by decide) (br_f (by decide) (br_f (by decide) (br_t rfl (hX1 _ (hX _ hp))))))))))))))⟩⟩)
    · exact br_f (nI_pos (by omega)) (br_f n63 ⟨hv, br_f (go_bn U s hU) ⟨hv, nm_r rC ⟨hv, nm_r (go_uB U s false go_vf) (by rw [dy, d20, d16, d0]; exact br_f (by decide) (br_f (by decide) (br_f (by decide) (br_f (by decide) (br_f (by decide) (br_t rfl (hY1 _ (hY _ hp))))))))⟩⟩⟩)
  by_cases k7 : k = 7
  · have dx : nI (C s) >>> ((24 : Int32) &&& 31) = 7 := by rw [d24, k7]; rfl
    have dy : (nI (C s) >>> ((24 : Int32) &&& 31)) &&& 255 = 7 := by rw [d255, k7]; rfl
    obtain ⟨A', La', P', Lp', E', D', W', T', U', C', lo', Z', hl', hX, hY⟩ := go_h7 nn ac pc tm md lo al A La P Lp E D W T (go_up U s false) C (a := a) hn hac hpc Z1 hl hx hy
    refine ⟨A', La', P', Lp', E', D', W', T', U', C', lo', Z', hl', fun post hp => ?_, fun post hp => ?_⟩
    · unfold wpX_deliver
      exact go_usX nn ac pc tm md lo al A La P Lp E D W T U C S0 hs hU _ (br_f (by decide) ⟨hv, nm_r rS ⟨hv, nm_r (go_uSf U C s) (nm_r d20 (nm_r d16 (nm_r d0 (nm_r dx (br_f (by decide) (br_f (by decide) (br_f (by decide) (br_f (by decide) (br_f (by decide) (br_f (by decide) (br_f (by decide) (br_f (by decide) (br_t rfl (hX _ hp))))))))))))))⟩⟩)
    · exact br_f (nI_pos (by omega)) (br_f n63 ⟨hv, br_f (go_bn U s hU) ⟨hv, nm_r rC ⟨hv, nm_r (go_uB U s false go_vf) (by rw [dy, d20, d16, d0]; exact hY _ hp)⟩⟩⟩)
  by_cases k8 : k = 8
  · have dx : nI (C s) >>> ((24 : Int32) &&& 31) = 8 := by rw [d24, k8]; rfl
    have dy : (nI (C s) >>> ((24 : Int32) &&& 31)) &&& 255 = 8 := by rw [d255, k8]; rfl
    obtain ⟨A', La', P', Lp', E', D', W', T', U', C', lo', Z', hl', hX, hY⟩ := go_h8 nn ac pc tm md lo al A La P Lp E D W T (go_up U s false) C (a := a) hn hac hpc Z1 hx hy
    refine ⟨A', La', P', Lp', E', D', W', T', U', C', lo', Z', hl', fun post hp => ?_, fun post hp => ?_⟩
    · unfold wpX_deliver
      exact go_usX nn ac pc tm md lo al A La P Lp E D W T U C S0 hs hU _ (br_f (by decide) ⟨hv, nm_r rS ⟨hv, nm_r (go_uSf U C s) (nm_r d20 (nm_r d16 (nm_r d0 (nm_r dx (br_f (by decide) (br_f (by decide) (br_f (by decide) (br_f (by decide) (br_f (by decide) (br_f (by decide) (br_f (by decide) (br_f (by decide) (br_f (by decide) (br_t rfl (hX _ hp)))))))))))))))⟩⟩)
    · exact br_f (nI_pos (by omega)) (br_f n63 ⟨hv, br_f (go_bn U s hU) ⟨hv, nm_r rC ⟨hv, nm_r (go_uB U s false go_vf) (by rw [dy, d20, d16, d0]; exact hY _ hp)⟩⟩⟩)
  by_cases k9 : k = 9
  · have dx : nI (C s) >>> ((24 : Int32) &&& 31) = 9 := by rw [d24, k9]; rfl
    have dy : (nI (C s) >>> ((24 : Int32) &&& 31)) &&& 255 = 9 := by rw [d255, k9]; rfl
    obtain ⟨A', La', P', Lp', E', D', W', T', U', C', lo', Z', hl', hX, hY⟩ := go_h9 nn ac pc tm md lo al A La P Lp E D W T (go_up U s false) C hac Z1 hl hx hy ha
    refine ⟨A', La', P', Lp', E', D', W', T', U', C', lo', Z', hl', fun post hp => ?_, fun post hp => ?_⟩
    · unfold wpX_deliver
      exact go_usX nn ac pc tm md lo al A La P Lp E D W T U C S0 hs hU _ (br_f (by decide) ⟨hv, nm_r rS ⟨hv, nm_r (go_uSf U C s) (nm_r d20 (nm_r d16 (nm_r d0 (nm_r dx (br_f (by decide) (br_f (by decide) (br_f (by decide) (br_f (by decide) (br_f (by decide) (br_f (by decide) (br_f (by decide) (br_f (by decide) (br_f (by decide) (br_f (by decide) (br_t rfl (hX _ hp))))))))))))))))⟩⟩)
    · exact br_f (nI_pos (by omega)) (br_f n63 ⟨hv, br_f (go_bn U s hU) ⟨hv, nm_r rC ⟨hv, nm_r (go_uB U s false go_vf) (by rw [dy, d20, d16, d0]; exact hY _ hp)⟩⟩⟩)
  by_cases k10 : k = 10
  · have dx : nI (C s) >>> ((24 : Int32) &&& 31) = 10 := by rw [d24, k10]; rfl
    have dy : (nI (C s) >>> ((24 : Int32) &&& 31)) &&& 255 = 10 := by rw [d255, k10]; rfl
    obtain ⟨A', La', P', Lp', E', D', W', T', U', C', lo', Z', hl', hX, hY⟩ := go_h10 nn ac pc tm md lo al A La P Lp E D W T (go_up U s false) C htm Z1 hx hy ha
    refine ⟨A', La', P', Lp', E', D', W', T', U', C', lo', Z', hl', fun post hp => ?_, fun post hp => ?_⟩
    · unfold wpX_deliver
      exact go_usX nn ac pc tm md lo al A La P Lp E D W T U C S0 hs hU _ (br_f (by decide) ⟨hv, nm_r rS ⟨hv, nm_r (go_uSf U C s) (nm_r d20 (nm_r d16 (nm_r d0 (nm_r dx (br_f (by decide) (br_f (by decide) (br_f (by decide) (br_f (by decide) (br_f (by decide) (br_f (by decide) (br_f (by decide) (br_f (by decide) (br_f (by decide) (br_f (by decide) (br_f (by decide) (br_t rfl (hX _ hp)))))))))))))))))⟩⟩)
    · exact br_f (nI_pos (by omega)) (br_f n63 ⟨hv, br_f (go_bn U s hU) ⟨hv, nm_r rC ⟨hv, nm_r (go_uB U s false go_vf) (by rw [dy, d20, d16, d0]; exact hY _ hp)⟩⟩⟩)
  by_cases k11 : k = 11
  · have dx : nI (C s) >>> ((24 : Int32) &&& 31) = 11 := by rw [d24, k11]; rfl
    have dy : (nI (C s) >>> ((24 : Int32) &&& 31)) &&& 255 = 11 := by rw [d255, k11]; rfl
    obtain ⟨A', La', P', Lp', E', D', W', T', U', C', lo', Z', hl', hX, hY⟩ := go_h11 nn ac pc tm md lo al A La P Lp E D W T (go_up U s false) C hac Z1 hl hx hy ha
    refine ⟨A', La', P', Lp', E', D', W', T', U', C', lo', Z', hl', fun post hp => ?_, fun post hp => ?_⟩
    · unfold wpX_deliver
      exact go_usX nn ac pc tm md lo al A La P Lp E D W T U C S0 hs hU _ (br_f (by decide) ⟨hv, nm_r rS ⟨hv, nm_r (go_uSf U C s) (nm_r d20 (nm_r d16 (nm_r d0 (nm_r dx (br_f (by decide) (br_f (by decide) (br_f (by decide) (br_f (by decide) (br_f (by decide) (br_f (by decide) (br_f (by decide) (br_f (by decide) (br_f (by decide) (br_f (by decide) (br_f (by decide) (br_f (by decide) (br_t rfl (hX _ hp))))))))))))))))))⟩⟩)
    · exact br_f (nI_pos (by omega)) (br_f n63 ⟨hv, br_f (go_bn U s hU) ⟨hv, nm_r rC ⟨hv, nm_r (go_uB U s false go_vf) (by rw [dy, d20, d16, d0]; exact hY _ hp)⟩⟩⟩)
  by_cases k12 : k = 12
  · have dx : nI (C s) >>> ((24 : Int32) &&& 31) = 12 := by rw [d24, k12]; rfl
    have dy : (nI (C s) >>> ((24 : Int32) &&& 31)) &&& 255 = 12 := by rw [d255, k12]; rfl
    refine ⟨A, La, P, Lp, go_up E (y * 16 + x) false, D, W, T, go_up U s false, C, lo, ⟨Z1.1, go_Eclr Z1.2.1 _, Z1.2.2.1, Z1.2.2.2.1, Z1.2.2.2.2⟩, by omega, fun post hp => ?_, fun post hp => ?_⟩
    · unfold wpX_deliver
      exact go_usX nn ac pc tm md lo al A La P Lp E D W T U C S0 hs hU _ (br_f (by decide) ⟨hv, nm_r rS ⟨hv, nm_r (go_uSf U C s) (nm_r d20 (nm_r d16 (nm_r d0 (nm_r dx (br_f (by decide) (br_f (by decide) (br_f (by decide) (br_f (by decide) (br_f (by decide) (br_f (by decide) (br_f (by decide) (br_f (by decide) (br_f (by decide) (br_f (by decide) (br_f (by decide) (br_f (by decide) (br_f (by decide) (br_t rfl ⟨vp_in_nI hy (by omega), vp_in_nI hy (by omega), nm_r (go_uMc E y x hx) hp⟩))))))))))))))))))⟩⟩)
    · exact br_f (nI_pos (by omega)) (br_f n63 ⟨hv, br_f (go_bn U s hU) ⟨hv, nm_r rC ⟨hv, nm_r (go_uB U s false go_vf) (by rw [dy, d20, d16, d0]; exact br_f (by decide) (br_f (by decide) (br_f (by decide) (br_f (by decide) (br_f (by decide) (br_f (by decide) (br_f (by decide) (br_f (by decide) (br_f (by decide) (br_f (by decide) (br_f (by decide) (br_t rfl ⟨pk_in (y * 16 + x) 256 (by omega) (go_ix16 y x), nm_r (go_uB E (y * 16 + x) false go_vf (go_ix16 y x)) hp⟩))))))))))))⟩⟩⟩)
  have n1 : ¬ nI k = 1 := fun q => k1 ((nI_eq (a := k) (b := 1) (by omega) (by omega)).mp q)
  have n2 : ¬ nI k = 2 := fun q => k2 ((nI_eq (a := k) (b := 2) (by omega) (by omega)).mp q)
  have n3 : ¬ nI k = 3 := fun q => k3 ((nI_eq (a := k) (b := 3) (by omega) (by omega)).mp q)
  have n4 : ¬ nI k = 4 := fun q => k4 ((nI_eq (a := k) (b := 4) (by omega) (by omega)).mp q)
  have n5 : ¬ nI k = 5 := fun q => k5 ((nI_eq (a := k) (b := 5) (by omega) (by omega)).mp q)
  have n6 : ¬ nI k = 6 := fun q => k6 ((nI_eq (a := k) (b := 6) (by omega) (by omega)).mp q)
  have n7 : ¬ nI k = 7 := fun q => k7 ((nI_eq (a := k) (b := 7) (by omega) (by omega)).mp q)
  have n8 : ¬ nI k = 8 := fun q => k8 ((nI_eq (a := k) (b := 8) (by omega) (by omega)).mp q)
  have n9 : ¬ nI k = 9 := fun q => k9 ((nI_eq (a := k) (b := 9) (by omega) (by omega)).mp q)
  have n10 : ¬ nI k = 10 := fun q => k10 ((nI_eq (a := k) (b := 10) (by omega) (by omega)).mp q)
  have n11 : ¬ nI k = 11 := fun q => k11 ((nI_eq (a := k) (b := 11) (by omega) (by omega)).mp q)
  have n12 : ¬ nI k = 12 := fun q => k12 ((nI_eq (a := k) (b := 12) (by omega) (by omega)).mp q)
  refine ⟨A, La, P, Lp, E, D, W, T, go_up U s false, C, lo, Z1, by omega, fun post hp => ?_, fun post hp => ?_⟩
  · unfold wpX_deliver
    refine go_usX nn ac pc tm md lo al A La P Lp E D W T U C S0 hs hU _ (br_f (by decide) ⟨hv, nm_r rS ⟨hv, nm_r (go_uSf U C s) (nm_r d20 (nm_r d16 (nm_r d0 (nm_r d24 ?_))))⟩⟩)
    rcases Nat.eq_zero_or_pos k with q | q
    · exact br_t (by rw [q]; decide) hp
    · exact br_f (Int32.not_lt.mpr (nI_le (a := 1) q (by omega))) (br_t (nI_lt (a := 12) (by omega) (by omega)) hp)
  · exact br_f (nI_pos (by omega)) (br_f n63 ⟨hv, br_f (go_bn U s hU) ⟨hv, nm_r rC ⟨hv, nm_r (go_uB U s false go_vf) (by rw [d255, d20, d16, d0]; exact br_f n1 (br_f n2 (br_f n3 (br_f n4 (br_f n5 (br_f n6 (br_f n7 (br_f n8 (br_f n9 (br_f n10 (br_f n11 (br_f n12 (hp)))))))))))))⟩⟩⟩)
end

