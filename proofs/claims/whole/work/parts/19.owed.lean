theorem go_cls (v : Int32) (nn : Nat) (hn : nn < 2 ^ 31) : (v < 0 ∨ nI nn ≤ v) ∨ ∃ j, j < nn ∧ v = nI j := by
  rcases pk_ix v hn with h | h | h
  · exact Or.inl (Or.inl h)
  · exact Or.inl (Or.inr h)
  · exact Or.inr h
theorem go_64 {v : Int32} (h : v < 0 ∨ nI 64 ≤ v) : v < 0 ∨ 63 < v := by
  rcases h with h | h
  · exact Or.inl h
  · refine Or.inr (Int32.lt_iff_toInt_lt.mpr ?_)
    have e := Int32.le_iff_toInt_le.mp h
    rw [nI_toInt (by omega)] at e
    have e2 : (63 : Int32).toInt = 63 := by decide
    omega
theorem i_vc_join {k : Nat} {u : SX} {v : SY} (I : i_Rel k u v) (hk : k + 3 ≤ 1540) (v1 : Int32) (v2 : Int32) : wpX_join (fun r u' => wpY_join (fun r' v' => r' = r ∧ i_Rel (k + 3) u' v') v v1 v2) u v1 v2 := by
  have R0 := i_up I
  obtain ⟨nn, ac, pc, tm, md, lo, al, A, La, P, Lp, E, D, W, T, U, C, ⟨hn, hac, hpc, htm⟩, hmd, hlo, Z, rfl, rfl⟩ := I
  unfold wpX_join
  rcases go_cls v1 nn (by omega) with h1 | ⟨j1, hj1, rfl⟩
  · refine go_alX0 nn ac pc tm md lo al A La P Lp E D W T U C hn.2 (Or.inl h1) _ (br_t rfl ?_)
    unfold wpY_join
    exact go_ndY0 nn ac pc tm md lo al A La P Lp E D W T U C h1 _ (br_t rfl ⟨rfl, R0⟩)
  have hv1 : vp_in (nI j1) 16 := vp_in_nI (by omega) (by omega)
  rcases go_cls v2 nn (by omega) with h2 | ⟨j2, hj2, rfl⟩
  · have wy : wpY_join (fun r' v' => r' = 0 ∧ i_Rel (k + 3) (nI nn, nI ac, nI pc, nI tm, nI md, nI lo, go_B al, go_N A, go_N La, go_N P, go_N Lp, go_M E, go_M D, go_M W, go_N T, go_S U C) v') (nI nn, nI ac, nI pc, nI tm, nI lo, nI md, go_B al, go_N A, go_N La, go_N P, go_N Lp, go_B E, go_B D, go_B W, go_N T, go_B U, go_N C) (nI j1) v2 := by
      unfold wpY_join
      exact go_ndY nn ac pc tm md lo al A La P Lp E D W T U C hn.2 hj1 _ (br_f (by decide) (go_ndY0 nn ac pc tm md lo al A La P Lp E D W T U C h2 _ (br_t rfl ⟨rfl, R0⟩)))
    cases ha1 : al j1 with
    | false => exact go_alX0 nn ac pc tm md lo al A La P Lp E D W T U C hn.2 (Or.inr ⟨j1, hj1, rfl, ha1⟩) _ (br_t rfl wy)
    | true => exact go_alX nn ac pc tm md lo al A La P Lp E D W T U C hn.2 hj1 ha1 _ (br_f (by decide) (go_alX0 nn ac pc tm md lo al A La P Lp E D W T U C hn.2 (Or.inl h2) _ (br_t rfl wy)))
  have hv2 : vp_in (nI j2) 16 := vp_in_nI (by omega) (by omega)
  cases ha1 : al j1 with
  | false =>
    refine go_alX0 nn ac pc tm md lo al A La P Lp E D W T U C hn.2 (Or.inr ⟨j1, hj1, rfl, ha1⟩) _ (br_t rfl ?_)
    unfold wpY_join
    exact go_ndY nn ac pc tm md lo al A La P Lp E D W T U C hn.2 hj1 _ (br_f (by decide) (go_ndY nn ac pc tm md lo al A La P Lp E D W T U C hn.2 hj2 _ (br_f (by decide) (br_c (fun _ => ⟨rfl, R0⟩) (fun _ => ⟨hv1, br_t (go_bz al j1 ha1) ⟨rfl, R0⟩⟩)))))
  | true =>
    cases ha2 : al j2 with
    | false =>
      refine go_alX nn ac pc tm md lo al A La P Lp E D W T U C hn.2 hj1 ha1 _ (br_f (by decide) (go_alX0 nn ac pc tm md lo al A La P Lp E D W T U C hn.2 (Or.inr ⟨j2, hj2, rfl, ha2⟩) _ (br_t rfl ?_)))
      unfold wpY_join
      exact go_ndY nn ac pc tm md lo al A La P Lp E D W T U C hn.2 hj1 _ (br_f (by decide) (go_ndY nn ac pc tm md lo al A La P Lp E D W T U C hn.2 hj2 _ (br_f (by decide) (br_c (fun _ => ⟨rfl, R0⟩) (fun _ => ⟨hv1, br_f (go_bn al j1 ha1) ⟨hv2, br_t (go_bz al j2 ha2) ⟨rfl, R0⟩⟩⟩)))))
    | true =>
      refine go_alX nn ac pc tm md lo al A La P Lp E D W T U C hn.2 hj1 ha1 _ (br_f (by decide) (go_alX nn ac pc tm md lo al A La P Lp E D W T U C hn.2 hj2 ha2 _ (br_f (by decide) ?_)))
      by_cases e : nI j1 = nI j2
      · refine br_t e ?_
        unfold wpY_join
        exact go_ndY nn ac pc tm md lo al A La P Lp E D W T U C hn.2 hj1 _ (br_f (by decide) (go_ndY nn ac pc tm md lo al A La P Lp E D W T U C hn.2 hj2 _ (br_f (by decide) (br_t e ⟨rfl, R0⟩))))
      · obtain ⟨IA, JE, I, hT, S⟩ := Z
        obtain ⟨U', C', lo', S', hl', hX, hY⟩ := go_send nn ac pc tm md lo al A La P Lp E D W T U C (k := 1) (a := 0) S (by omega) (show j1 < 16 by omega) (show j2 < 16 by omega) (by omega) (by omega) (by omega)
        refine br_f e (hX _ ?_)
        show wpY_join _ _ _ _
        unfold wpY_join
        exact go_ndY nn ac pc tm md lo al A La P Lp E D W T U C hn.2 hj1 _ (br_f (by decide) (go_ndY nn ac pc tm md lo al A La P Lp E D W T U C hn.2 hj2 _ (br_f (by decide) (br_f e ⟨hv1, br_f (go_bn al j1 ha1) ⟨hv2, br_f (go_bn al j2 ha2) (hY _ ⟨rfl, _, _, _, _, _, _, _, _, _, _, _, _, _, _, _, _, _, ⟨hn, hac, hpc, htm⟩, hmd, by omega, ⟨IA, JE, I, hT, S'⟩, rfl, rfl⟩)⟩⟩))))
theorem i_vc_shuffle {k : Nat} {u : SX} {v : SY} (I : i_Rel k u v) (hk : k + 3 ≤ 1540) (v1 : Int32) : wpX_shuffle (fun r u' => wpY_shuffle (fun r' v' => r' = r ∧ i_Rel (k + 3) u' v') v v1) u v1 := by
  have R0 := i_up I
  obtain ⟨nn, ac, pc, tm, md, lo, al, A, La, P, Lp, E, D, W, T, U, C, ⟨hn, hac, hpc, htm⟩, hmd, hlo, Z, rfl, rfl⟩ := I
  rcases go_cls v1 nn (by omega) with h1 | ⟨j1, hj1, rfl⟩
  · unfold wpX_shuffle
    refine go_alX0 nn ac pc tm md lo al A La P Lp E D W T U C hn.2 (Or.inl h1) _ (br_t rfl ?_)
    unfold wpY_shuffle
    exact go_ndY0 nn ac pc tm md lo al A La P Lp E D W T U C h1 _ (br_t rfl ⟨rfl, R0⟩)
  have hv1 : vp_in (nI j1) 16 := vp_in_nI (by omega) (by omega)
  have hla := Z.1.2.1 j1
  cases ha1 : al j1 with
  | false =>
    unfold wpX_shuffle
    refine go_alX0 nn ac pc tm md lo al A La P Lp E D W T U C hn.2 (Or.inr ⟨j1, hj1, rfl, ha1⟩) _ (br_t rfl ?_)
    unfold wpY_shuffle
    exact go_ndY nn ac pc tm md lo al A La P Lp E D W T U C hn.2 hj1 _ (br_f (by decide) ⟨hv1, br_t (go_bz al j1 ha1) ⟨rfl, R0⟩⟩)
  | true =>
    by_cases h0 : La j1 = 0
    · have z : go_N La (nI j1).toNatClampNeg = 0 := by rw [go_rN La j1 rfl (by omega), h0]; exact nI_0
      unfold wpX_shuffle
      refine go_alX nn ac pc tm md lo al A La P Lp E D W T U C hn.2 hj1 ha1 _ (br_f (by decide) ⟨hv1, br_t z ?_⟩)
      unfold wpY_shuffle
      exact go_ndY nn ac pc tm md lo al A La P Lp E D W T U C hn.2 hj1 _ (br_f (by decide) ⟨hv1, br_f (go_bn al j1 ha1) ⟨hv1, br_t z ⟨rfl, R0⟩⟩⟩)
    · obtain ⟨U', C', lo', S', hl', hX, hY⟩ := go_shuffle nn ac pc tm md lo al A La P Lp E D W T U C hn hac hpc Z (by omega) hj1 ha1 h0
      exact hX _ (hY _ ⟨rfl, _, _, _, _, _, _, _, _, _, _, _, _, _, _, _, _, _, ⟨hn, hac, hpc, htm⟩, hmd, by omega, ⟨Z.1, Z.2.1, Z.2.2.1, Z.2.2.2.1, S'⟩, rfl, rfl⟩)
theorem i_vc_crash {k : Nat} {u : SX} {v : SY} (I : i_Rel k u v) (hk : k + 3 ≤ 1540) (v1 : Int32) : wpX_crash (fun r u' => wpY_crash (fun r' v' => r' = r ∧ i_Rel (k + 3) u' v') v v1) u v1 := by
  have R0 := i_up I
  obtain ⟨nn, ac, pc, tm, md, lo, al, A, La, P, Lp, E, D, W, T, U, C, ⟨hn, hac, hpc, htm⟩, hmd, hlo, Z, rfl, rfl⟩ := I
  rcases go_cls v1 nn (by omega) with h1 | ⟨j1, hj1, rfl⟩
  · unfold wpX_crash
    refine go_alX0 nn ac pc tm md lo al A La P Lp E D W T U C hn.2 (Or.inl h1) _ (br_t rfl ?_)
    unfold wpY_crash
    exact go_ndY0 nn ac pc tm md lo al A La P Lp E D W T U C h1 _ (br_t rfl ⟨rfl, R0⟩)
  have hv1 : vp_in (nI j1) 16 := vp_in_nI (by omega) (by omega)
  cases ha1 : al j1 with
  | false =>
    unfold wpX_crash
    refine go_alX0 nn ac pc tm md lo al A La P Lp E D W T U C hn.2 (Or.inr ⟨j1, hj1, rfl, ha1⟩) _ (br_t rfl ?_)
    unfold wpY_crash
    exact go_ndY nn ac pc tm md lo al A La P Lp E D W T U C hn.2 hj1 _ (br_f (by decide) ⟨hv1, br_t (go_bz al j1 ha1) ⟨rfl, R0⟩⟩)
  | true =>
    obtain ⟨A', La', P', Lp', E', D', W', T', U', C', lo', Z', hl', hX, hY⟩ := go_crash nn ac pc tm md lo al A La P Lp E D W T U C hn hac hpc Z (by omega) hj1 ha1
    exact hX _ (hY _ ⟨rfl, _, _, _, _, _, _, _, _, _, _, _, _, _, _, _, _, _, ⟨hn, hac, hpc, htm⟩, hmd, by omega, Z', rfl, rfl⟩)
theorem i_vc_broadcast {k : Nat} {u : SX} {v : SY} (I : i_Rel k u v) (hk : k + 3 ≤ 1540) (v1 : Int32) : wpX_broadcast (fun r u' => wpY_broadcast (fun r' v' => r' = r ∧ i_Rel (k + 3) u' v') v v1) u v1 := by
  have R0 := i_up I
  obtain ⟨nn, ac, pc, tm, md, lo, al, A, La, P, Lp, E, D, W, T, U, C, ⟨hn, hac, hpc, htm⟩, hmd, hlo, Z, rfl, rfl⟩ := I
  unfold wpX_broadcast
  rcases go_cls v1 nn (by omega) with h1 | ⟨j1, hj1, rfl⟩
  · refine go_alX0 nn ac pc tm md lo al A La P Lp E D W T U C hn.2 (Or.inl h1) _ (br_t rfl ?_)
    unfold wpY_broadcast
    exact go_ndY0 nn ac pc tm md lo al A La P Lp E D W T U C h1 _ (br_t rfl ⟨rfl, R0⟩)
  have hv1 : vp_in (nI j1) 16 := vp_in_nI (by omega) (by omega)
  have hla := Z.1.2.1 j1
  cases ha1 : al j1 with
  | false =>
    refine go_alX0 nn ac pc tm md lo al A La P Lp E D W T U C hn.2 (Or.inr ⟨j1, hj1, rfl, ha1⟩) _ (br_t rfl ?_)
    unfold wpY_broadcast
    exact go_ndY nn ac pc tm md lo al A La P Lp E D W T U C hn.2 hj1 _ (br_f (by decide) ⟨hv1, br_t (go_bz al j1 ha1) ⟨rfl, R0⟩⟩)
  | true =>
    refine go_alX nn ac pc tm md lo al A La P Lp E D W T U C hn.2 hj1 ha1 _ (br_f (by decide) ?_)
    by_cases h16 : md < 16
    · have c : nI md < 16 := nI_lt (b := 16) h16 (by omega)
      obtain ⟨a, _, ha, ea⟩ := go_1n md h16
      obtain ⟨U', C', lo', S', hl', hX, hY⟩ := go_fwd nn ac pc tm (md + 1) lo al A La P Lp E (go_up D (j1 * 16 + md) true) W T U C (-1) Z.1.1 (by omega) Z.2.2.2.2 (by omega) (show j1 < 16 by omega) ha
      rw [← ea] at hX hY
      refine br_t c (nm_r (nI_1 md) ⟨hv1, hv1, nm_r (go_uMs D j1 md h16) (hX _ ?_)⟩)
      show wpY_broadcast _ _ _
      unfold wpY_broadcast
      exact go_ndY nn ac pc tm md lo al A La P Lp E D W T U C hn.2 hj1 _ (br_f (by decide) ⟨hv1, br_f (go_bn al j1 ha1) (br_t c (nm_r (nI_1 md) ⟨pk_in (j1 * 16 + md) 256 (by omega) (go_ix16 j1 md), nm_r (go_uB D (j1 * 16 + md) true go_vt (go_ix16 j1 md)) (hY _ ⟨rfl, _, _, _, _, _, _, _, _, _, _, _, _, _, _, _, _, _, ⟨hn, hac, hpc, htm⟩, h16, by omega, ⟨Z.1, Z.2.1, Z.2.2.1, Z.2.2.2.1, S'⟩, rfl, rfl⟩)⟩))⟩)
    · have c : ¬ nI md < 16 := nI_nlt (b := 16) (by omega) (by omega)
      refine br_f c ?_
      unfold wpY_broadcast
      exact go_ndY nn ac pc tm md lo al A La P Lp E D W T U C hn.2 hj1 _ (br_f (by decide) ⟨hv1, br_f (go_bn al j1 ha1) (br_f c ⟨rfl, R0⟩)⟩)
theorem i_vc_deliver {k : Nat} {u : SX} {v : SY} (I : i_Rel k u v) (hk : k + 3 ≤ 1540) (v1 : Int32) : wpX_deliver (fun r u' => wpY_deliver (fun r' v' => r' = r ∧ i_Rel (k + 3) u' v') v v1) u v1 := by
  have R0 := i_up I
  obtain ⟨nn, ac, pc, tm, md, lo, al, A, La, P, Lp, E, D, W, T, U, C, ⟨hn, hac, hpc, htm⟩, hmd, hlo, Z, rfl, rfl⟩ := I
  rcases go_cls v1 64 (by omega) with h1 | ⟨s, hs, rfl⟩
  · unfold wpX_deliver
    exact go_usX0 nn ac pc tm md lo al A La P Lp E D W T U C Z.2.2.2.2 (Or.inl h1) _ (br_t rfl (br_c (fun _ => ⟨rfl, R0⟩) (fun q => br_t ((go_64 h1).resolve_left q) ⟨rfl, R0⟩)))
  · cases hU : U s with
    | false =>
      have n63 : ¬ (63 : Int32) < nI s := Int32.not_lt.mpr (nI_le (b := 63) (by omega) (by omega))
      unfold wpX_deliver
      exact go_usX0 nn ac pc tm md lo al A La P Lp E D W T U C Z.2.2.2.2 (Or.inr ⟨s, hs, rfl, hU⟩) _ (br_t rfl (br_f (nI_pos (by omega)) (br_f n63 ⟨vp_in_nI hs (by omega), br_t (go_bz U s hU) ⟨rfl, R0⟩⟩)))
    | true =>
      obtain ⟨A', La', P', Lp', E', D', W', T', U', C', lo', Z', hl', hX, hY⟩ := go_deliver nn ac pc tm md lo al A La P Lp E D W T U C hn hac hpc htm Z (by omega) hs hU
      exact hX _ (hY _ ⟨rfl, _, _, _, _, _, _, _, _, _, _, _, _, _, _, _, _, _, ⟨hn, hac, hpc, htm⟩, hmd, by omega, Z', rfl, rfl⟩)
theorem i_vc_drop {k : Nat} {u : SX} {v : SY} (I : i_Rel k u v) (hk : k + 3 ≤ 1540) (v1 : Int32) : wpX_drop (fun r u' => wpY_drop (fun r' v' => r' = r ∧ i_Rel (k + 3) u' v') v v1) u v1 := by
  have R0 := i_up I
  obtain ⟨nn, ac, pc, tm, md, lo, al, A, La, P, Lp, E, D, W, T, U, C, ⟨hn, hac, hpc, htm⟩, hmd, hlo, Z, rfl, rfl⟩ := I
  unfold wpX_drop
  rcases go_cls v1 64 (by omega) with h1 | ⟨s, hs, rfl⟩
  · exact go_usX0 nn ac pc tm md lo al A La P Lp E D W T U C Z.2.2.2.2 (Or.inl h1) _ (br_t rfl (br_c (fun _ => ⟨rfl, R0⟩) (fun q => br_t ((go_64 h1).resolve_left q) ⟨rfl, R0⟩)))
  · have n63 : ¬ (63 : Int32) < nI s := Int32.not_lt.mpr (nI_le (b := 63) (by omega) (by omega))
    have hv : vp_in (nI s) 64 := vp_in_nI hs (by omega)
    cases hU : U s with
    | false => exact go_usX0 nn ac pc tm md lo al A La P Lp E D W T U C Z.2.2.2.2 (Or.inr ⟨s, hs, rfl, hU⟩) _ (br_t rfl (br_f (nI_pos (by omega)) (br_f n63 ⟨hv, br_t (go_bz U s hU) ⟨rfl, R0⟩⟩)))
    | true =>
      have hc := (Z.2.2.2.2 s).1
      have dX : go_S U C (nI s).toNatClampNeg >>> ((24 : Int32) &&& 31) = nI (C s / 2 ^ 24) := by rw [go_rS s hU]; exact go_d24 hc
      have dY : (go_N C (nI s).toNatClampNeg >>> ((24 : Int32) &&& 31)) &&& 255 = nI (C s / 2 ^ 24) := by rw [go_rN C s rfl (by omega)]; exact go_d255 hc
      refine go_usX nn ac pc tm md lo al A La P Lp E D W T U C Z.2.2.2.2 hs hU _ (br_f (by decide) ⟨hv, nm_r dX ?_⟩)
      have wy : ∀ Q : Int32 → SY → Prop, ((nI (C s / 2 ^ 24) = 9 → Q 0 (nI nn, nI ac, nI pc, nI tm, nI lo, nI md, go_B al, go_N A, go_N La, go_N P, go_N Lp, go_B E, go_B D, go_B W, go_N T, go_B U, go_N C)) ∧ (¬ nI (C s / 2 ^ 24) = 9 → ((nI (C s / 2 ^ 24) = 10 → Q 0 (nI nn, nI ac, nI pc, nI tm, nI lo, nI md, go_B al, go_N A, go_N La, go_N P, go_N Lp, go_B E, go_B D, go_B W, go_N T, go_B U, go_N C)) ∧ (¬ nI (C s / 2 ^ 24) = 10 → ((nI (C s / 2 ^ 24) = 11 → Q 0 (nI nn, nI ac, nI pc, nI tm, nI lo, nI md, go_B al, go_N A, go_N La, go_N P, go_N Lp, go_B E, go_B D, go_B W, go_N T, go_B U, go_N C)) ∧ (¬ nI (C s / 2 ^ 24) = 11 → ((nI (C s / 2 ^ 24) = 12 → Q 0 (nI nn, nI ac, nI pc, nI tm, nI lo, nI md, go_B al, go_N A, go_N La, go_N P, go_N Lp, go_B E, go_B D, go_B W, go_N T, go_B U, go_N C)) ∧ (¬ nI (C s / 2 ^ 24) = 12 → Q 1 (nI nn, nI ac, nI pc, nI tm, nI lo, nI md, go_B al, go_N A, go_N La, go_N P, go_N Lp, go_B E, go_B D, go_B W, go_N T, go_B (go_up U s false), go_N C))))))))) → wpY_drop Q (nI nn, nI ac, nI pc, nI tm, nI lo, nI md, go_B al, go_N A, go_N La, go_N P, go_N Lp, go_B E, go_B D, go_B W, go_N T, go_B U, go_N C) (nI s) := by
        intro Q h
        exact br_f (nI_pos (by omega)) (br_f n63 ⟨hv, br_f (go_bn U s hU) ⟨hv, nm_r dY (br_c h.1 (fun q9 => br_c (h.2 q9).1 (fun q10 => br_c ((h.2 q9).2 q10).1 (fun q11 => br_c (((h.2 q9).2 q10).2 q11).1 (fun q12 => ⟨hv, nm_r (go_uB U s false go_vf) ((((h.2 q9).2 q10).2 q11).2 q12)⟩)))))⟩⟩)
      refine br_c (fun q9 => wy _ (br_t q9 ⟨rfl, R0⟩)) (fun q9 => br_c (fun q10 => wy _ (br_f q9 (br_t q10 ⟨rfl, R0⟩))) (fun q10 => br_c (fun q11 => wy _ (br_f q9 (br_f q10 (br_t q11 ⟨rfl, R0⟩)))) (fun q11 => br_c (fun q12 => wy _ (br_f q9 (br_f q10 (br_f q11 (br_t q12 ⟨rfl, R0⟩))))) (fun q12 => ⟨hv, nm_r (go_uSf U C s) (wy _ (br_f q9 (br_f q10 (br_f q11 (br_f q12 ⟨rfl, ?_⟩)))))⟩))))
      exact ⟨_, _, _, _, _, _, _, _, _, _, _, _, _, _, _, _, _, ⟨hn, hac, hpc, htm⟩, hmd, by omega, ⟨Z.1, Z.2.1, Z.2.2.1, Z.2.2.2.1, go_ISf Z.2.2.2.2 s⟩, rfl, rfl⟩
theorem i_vc_tick {k : Nat} {u : SX} {v : SY} (I : i_Rel k u v) (hk : k + 3 ≤ 1540) : wpX_tick (fun r u' => wpY_tick (fun r' v' => r' = r ∧ i_Rel (k + 3) u' v') v) u := by
  obtain ⟨nn, ac, pc, tm, md, lo, al, A, La, P, Lp, E, D, W, T, U, C, ⟨hn, hac, hpc, htm⟩, hmd, hlo, Z, rfl, rfl⟩ := I
  obtain ⟨cnt', lo', E', W', T', U', C', JE', hT', S', hl', hX, hY⟩ := go_tko nn ac pc tm md al A La P Lp D hn.2 hac htm Z.1 nn 0 0 lo E W T U C (by omega) Z.2.1 Z.2.2.2.1 Z.2.2.2.2 (by omega)
  exact ⟨_, hX _ ⟨_, hY _ ⟨rfl, _, _, _, _, _, _, _, _, _, _, _, _, _, _, _, _, _, ⟨hn, hac, hpc, htm⟩, hmd, by omega, ⟨Z.1, JE', Z.2.2.1, hT', S'⟩, rfl, rfl⟩⟩⟩
