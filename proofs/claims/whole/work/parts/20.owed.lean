theorem i_vc_message {k : Nat} {u : SX} {v : SY} (I : i_Rel k u v) (hk : k + 3 ≤ 1540) (v1 : Int32) : wpX_message (fun r => wpY_message (fun r' => r' = r ∧ i_Rel (k + 3) u v) v v1) u v1 := by
  have R0 := i_up I
  obtain ⟨nn, ac, pc, tm, md, lo, al, A, La, P, Lp, E, D, W, T, U, C, ⟨hn, hac, hpc, htm⟩, hmd, hlo, Z, rfl, rfl⟩ := I
  unfold wpX_message
  rcases go_cls v1 64 (by omega) with h1 | ⟨s, hs, rfl⟩
  · exact go_usX0 nn ac pc tm md lo al A La P Lp E D W T U C Z.2.2.2.2 (Or.inl h1) _ (br_t rfl (br_c (fun _ => ⟨rfl, R0⟩) (fun q => br_t ((go_64 h1).resolve_left q) ⟨rfl, R0⟩)))
  · have n63 : ¬ (63 : Int32) < nI s := Int32.not_lt.mpr (nI_le (b := 63) (by omega) (by omega))
    have hv : vp_in (nI s) 64 := vp_in_nI hs (by omega)
    cases hU : U s with
    | false => exact go_usX0 nn ac pc tm md lo al A La P Lp E D W T U C Z.2.2.2.2 (Or.inr ⟨s, hs, rfl, hU⟩) _ (br_t rfl (br_f (nI_pos (by omega)) (br_f n63 ⟨hv, br_t (go_bz U s hU) ⟨rfl, R0⟩⟩)))
    | true => exact go_usX nn ac pc tm md lo al A La P Lp E D W T U C Z.2.2.2.2 hs hU _ (br_f (by decide) ⟨hv, br_f (nI_pos (by omega)) (br_f n63 ⟨hv, br_f (go_bn U s hU) ⟨hv, by rw [go_rN C s rfl (by omega), go_rS s hU], R0⟩⟩)⟩)
theorem i_vc_pending {k : Nat} {u : SX} {v : SY} (I : i_Rel k u v) (hk : k + 3 ≤ 1540) : wpX_pending (fun r => wpY_pending (fun r' => r' = r ∧ i_Rel (k + 3) u v) v) u := by
  have R0 := i_up I
  obtain ⟨nn, ac, pc, tm, md, lo, al, A, La, P, Lp, E, D, W, T, U, C, ⟨hn, hac, hpc, htm⟩, hmd, hlo, Z, rfl, rfl⟩ := I
  obtain ⟨r, hX, hY⟩ := go_pd nn ac pc tm md lo al A La P Lp E D W T U C Z.2.2.2.2 64 0 0 (by omega)
  exact ⟨_, hX _ ⟨_, hY _ ⟨rfl, R0⟩⟩⟩
theorem i_vc_activeAt {k : Nat} {u : SX} {v : SY} (I : i_Rel k u v) (hk : k + 3 ≤ 1540) (v1 : Int32) (v2 : Int32) : wpX_activeAt (fun r => wpY_activeAt (fun r' => r' = r ∧ i_Rel (k + 3) u v) v v1 v2) u v1 v2 := by
  have R0 := i_up I
  obtain ⟨nn, ac, pc, tm, md, lo, al, A, La, P, Lp, E, D, W, T, U, C, ⟨hn, hac, hpc, htm⟩, hmd, hlo, Z, rfl, rfl⟩ := I
  unfold wpX_activeAt
  rcases go_cls v1 nn (by omega) with h1 | ⟨j, hj, rfl⟩
  · refine go_ndX0 nn ac pc tm md lo al A La P Lp E D W T U C h1 _ (br_t rfl ?_)
    unfold wpY_activeAt
    exact go_ndY0 nn ac pc tm md lo al A La P Lp E D W T U C h1 _ (br_t rfl ⟨rfl, R0⟩)
  have hv : vp_in (nI j) 16 := vp_in_nI (by omega) (by omega)
  have hla := Z.1.2.1 j
  have rl := go_rN (e := nI j) La j rfl (by omega)
  refine go_ndX nn ac pc tm md lo al A La P Lp E D W T U C hn.2 hj _ (br_f (by decide) ?_)
  have wy : ∀ Q : Int32 → Prop, ((v2 < 0 → Q (-1)) ∧ (¬ v2 < 0 → (vp_in (nI j) 16 ∧ (((v2 < go_N La (nI j).toNatClampNeg → (vp_in (nI j * 4 + v2) 64 ∧ (Q (go_N A (nI j * 4 + v2).toNatClampNeg)))) ∧ (¬ v2 < go_N La (nI j).toNatClampNeg → (Q (-1)))))))) → wpY_activeAt Q (nI nn, nI ac, nI pc, nI tm, nI lo, nI md, go_B al, go_N A, go_N La, go_N P, go_N Lp, go_B E, go_B D, go_B W, go_N T, go_B U, go_N C) (nI j) v2 := by
    intro Q h
    unfold wpY_activeAt
    exact go_ndY nn ac pc tm md lo al A La P Lp E D W T U C hn.2 hj _ (br_f (by decide) h)
  by_cases hv2 : v2 < 0
  · exact br_t hv2 (wy _ (br_t hv2 ⟨rfl, R0⟩))
  · refine br_f hv2 ⟨hv, ?_⟩
    by_cases h3 : v2 < go_N La (nI j).toNatClampNeg
    · obtain ⟨i, hi, rfl⟩ := nI_of hv2
      have h4 : i < La j := by rw [rl] at h3; exact (nI_ltI hi (by omega)).mp h3
      have hw : vp_in (nI j * 4 + nI i) 64 := pk_in (j * 4 + i) 64 (by omega) (go_ix4 j i)
      exact br_t h3 ⟨hw, wy _ (br_f hv2 ⟨hv, br_t h3 ⟨hw, rfl, R0⟩⟩)⟩
    · exact br_f h3 (wy _ (br_f hv2 ⟨hv, br_f h3 ⟨rfl, R0⟩⟩))
theorem i_vc_passiveAt {k : Nat} {u : SX} {v : SY} (I : i_Rel k u v) (hk : k + 3 ≤ 1540) (v1 : Int32) (v2 : Int32) : wpX_passiveAt (fun r => wpY_passiveAt (fun r' => r' = r ∧ i_Rel (k + 3) u v) v v1 v2) u v1 v2 := by
  have R0 := i_up I
  obtain ⟨nn, ac, pc, tm, md, lo, al, A, La, P, Lp, E, D, W, T, U, C, ⟨hn, hac, hpc, htm⟩, hmd, hlo, Z, rfl, rfl⟩ := I
  unfold wpX_passiveAt
  rcases go_cls v1 nn (by omega) with h1 | ⟨j, hj, rfl⟩
  · refine go_ndX0 nn ac pc tm md lo al A La P Lp E D W T U C h1 _ (br_t rfl ?_)
    unfold wpY_passiveAt
    exact go_ndY0 nn ac pc tm md lo al A La P Lp E D W T U C h1 _ (br_t rfl ⟨rfl, R0⟩)
  have hv : vp_in (nI j) 16 := vp_in_nI (by omega) (by omega)
  have hla := Z.2.2.1.2.1 j
  have rl := go_rN (e := nI j) Lp j rfl (by omega)
  refine go_ndX nn ac pc tm md lo al A La P Lp E D W T U C hn.2 hj _ (br_f (by decide) ?_)
  have wy : ∀ Q : Int32 → Prop, ((v2 < 0 → Q (-1)) ∧ (¬ v2 < 0 → (vp_in (nI j) 16 ∧ (((v2 < go_N Lp (nI j).toNatClampNeg → (vp_in (nI j * 8 + v2) 128 ∧ (Q (go_N P (nI j * 8 + v2).toNatClampNeg)))) ∧ (¬ v2 < go_N Lp (nI j).toNatClampNeg → (Q (-1)))))))) → wpY_passiveAt Q (nI nn, nI ac, nI pc, nI tm, nI lo, nI md, go_B al, go_N A, go_N La, go_N P, go_N Lp, go_B E, go_B D, go_B W, go_N T, go_B U, go_N C) (nI j) v2 := by
    intro Q h
    unfold wpY_passiveAt
    exact go_ndY nn ac pc tm md lo al A La P Lp E D W T U C hn.2 hj _ (br_f (by decide) h)
  by_cases hv2 : v2 < 0
  · exact br_t hv2 (wy _ (br_t hv2 ⟨rfl, R0⟩))
  · refine br_f hv2 ⟨hv, ?_⟩
    by_cases h3 : v2 < go_N Lp (nI j).toNatClampNeg
    · obtain ⟨i, hi, rfl⟩ := nI_of hv2
      have h4 : i < Lp j := by rw [rl] at h3; exact (nI_ltI hi (by omega)).mp h3
      have hw : vp_in (nI j * 8 + nI i) 128 := pk_in (j * 8 + i) 128 (by omega) (go_ix8 j i)
      exact br_t h3 ⟨hw, wy _ (br_f hv2 ⟨hv, br_t h3 ⟨hw, rfl, R0⟩⟩)⟩
    · exact br_f h3 (wy _ (br_f hv2 ⟨hv, br_f h3 ⟨rfl, R0⟩⟩))
theorem i_vc_isEager {k : Nat} {u : SX} {v : SY} (I : i_Rel k u v) (hk : k + 3 ≤ 1540) (v1 : Int32) (v2 : Int32) : wpX_isEager (fun r => wpY_isEager (fun r' => r' = r ∧ i_Rel (k + 3) u v) v v1 v2) u v1 v2 := by
  have R0 := i_up I
  obtain ⟨nn, ac, pc, tm, md, lo, al, A, La, P, Lp, E, D, W, T, U, C, ⟨hn, hac, hpc, htm⟩, hmd, hlo, Z, rfl, rfl⟩ := I
  unfold wpX_isEager
  rcases go_cls v1 nn (by omega) with h1 | ⟨j, hj, rfl⟩
  · refine go_ndX0 nn ac pc tm md lo al A La P Lp E D W T U C h1 _ (br_t rfl ?_)
    unfold wpY_isEager
    exact go_ndY0 nn ac pc tm md lo al A La P Lp E D W T U C h1 _ (br_t rfl ⟨rfl, R0⟩)
  have hv : vp_in (nI j) 16 := vp_in_nI (by omega) (by omega)
  refine go_ndX nn ac pc tm md lo al A La P Lp E D W T U C hn.2 hj _ (br_f (by decide) ?_)
  rcases go_cls v2 nn (by omega) with h2 | ⟨p, hp, rfl⟩
  · refine go_ndX0 nn ac pc tm md lo al A La P Lp E D W T U C h2 _ (br_t rfl ?_)
    unfold wpY_isEager
    exact go_ndY nn ac pc tm md lo al A La P Lp E D W T U C hn.2 hj _ (br_f (by decide) (go_ndY0 nn ac pc tm md lo al A La P Lp E D W T U C h2 _ (br_t rfl ⟨rfl, R0⟩)))
  refine go_ndX nn ac pc tm md lo al A La P Lp E D W T U C hn.2 hp _ (br_f (by decide) ⟨hv, ?_⟩)
  have hw : vp_in (nI j * 16 + nI p) 256 := pk_in (j * 16 + p) 256 (by omega) (go_ix16 j p)
  cases hE : E (j * 16 + p) with
  | false =>
    refine br_t (go_mz E j p (by omega) hE) ?_
    unfold wpY_isEager
    exact go_ndY nn ac pc tm md lo al A La P Lp E D W T U C hn.2 hj _ (br_f (by decide) (go_ndY nn ac pc tm md lo al A La P Lp E D W T U C hn.2 hp _ (br_f (by decide) ⟨hw, br_t (go_bz E _ hE (go_ix16 j p)) ⟨rfl, R0⟩⟩)))
  | true =>
    refine br_f (go_mn E j p (by omega) hE) ?_
    unfold wpY_isEager
    exact go_ndY nn ac pc tm md lo al A La P Lp E D W T U C hn.2 hj _ (br_f (by decide) (go_ndY nn ac pc tm md lo al A La P Lp E D W T U C hn.2 hp _ (br_f (by decide) ⟨hw, br_f (go_bn E _ hE (go_ix16 j p)) ⟨rfl, R0⟩⟩)))
theorem i_vc_delivered {k : Nat} {u : SX} {v : SY} (I : i_Rel k u v) (hk : k + 3 ≤ 1540) (v1 : Int32) : wpX_delivered (fun r => wpY_delivered (fun r' => r' = r ∧ i_Rel (k + 3) u v) v v1) u v1 := by
  have R0 := i_up I
  obtain ⟨nn, ac, pc, tm, md, lo, al, A, La, P, Lp, E, D, W, T, U, C, ⟨hn, hac, hpc, htm⟩, hmd, hlo, Z, rfl, rfl⟩ := I
  unfold wpX_delivered
  rcases go_cls v1 nn (by omega) with h1 | ⟨j, hj, rfl⟩
  · refine go_ndX0 nn ac pc tm md lo al A La P Lp E D W T U C h1 _ (br_t rfl ?_)
    unfold wpY_delivered
    exact go_ndY0 nn ac pc tm md lo al A La P Lp E D W T U C h1 _ (br_t rfl ⟨rfl, R0⟩)
  have hv : vp_in (nI j) 16 := vp_in_nI (by omega) (by omega)
  refine go_ndX nn ac pc tm md lo al A La P Lp E D W T U C hn.2 hj _ (br_f (by decide) ⟨hv, ?_⟩)
  unfold wpY_delivered
  exact go_ndY nn ac pc tm md lo al A La P Lp E D W T U C hn.2 hj _ (br_f (by decide) (go_dM nn ac pc tm md lo al A La P Lp E D W T U C (show j < 16 by omega) _ ⟨(go_rM D j rfl (by omega)).symm, R0⟩))
theorem i_vc_graftState {k : Nat} {u : SX} {v : SY} (I : i_Rel k u v) (hk : k + 3 ≤ 1540) (v1 : Int32) (v2 : Int32) : wpX_graftState (fun r => wpY_graftState (fun r' => r' = r ∧ i_Rel (k + 3) u v) v v1 v2) u v1 v2 := by
  have R0 := i_up I
  obtain ⟨nn, ac, pc, tm, md, lo, al, A, La, P, Lp, E, D, W, T, U, C, ⟨hn, hac, hpc, htm⟩, hmd, hlo, Z, rfl, rfl⟩ := I
  unfold wpX_graftState
  rcases go_cls v1 nn (by omega) with h1 | ⟨j, hj, rfl⟩
  · refine go_ndX0 nn ac pc tm md lo al A La P Lp E D W T U C h1 _ (br_t rfl ?_)
    unfold wpY_graftState
    exact go_ndY0 nn ac pc tm md lo al A La P Lp E D W T U C h1 _ (br_t rfl ⟨rfl, R0⟩)
  refine go_ndX nn ac pc tm md lo al A La P Lp E D W T U C hn.2 hj _ (br_f (by decide) ?_)
  by_cases hv2 : v2 < 0
  · refine br_t hv2 ?_
    unfold wpY_graftState
    exact go_ndY nn ac pc tm md lo al A La P Lp E D W T U C hn.2 hj _ (br_f (by decide) (br_t hv2 ⟨rfl, R0⟩))
  obtain ⟨b, hb, rfl⟩ := nI_of hv2
  by_cases h16 : b < 16
  · have hw : vp_in (nI (j * 16 + b)) 256 := vp_in_nI (by omega) (by omega)
    refine br_f hv2 (br_t (nI_lt (b := 16) h16 (by omega)) (nm_r (go_ix16 j b) ⟨hw, hw, ?_⟩))
    unfold wpY_graftState
    exact go_ndY nn ac pc tm md lo al A La P Lp E D W T U C hn.2 hj _ (br_f (by decide) (br_f hv2 (br_t (nI_le (b := 15) (by omega) (by omega)) ⟨17, go_gs nn ac pc tm md lo al A La P Lp E D W T U C (show j < 16 by omega) h16 _ ⟨by rw [go_rM W (j * 16 + b), go_rN T (j * 16 + b) rfl (by omega)], R0⟩ 17 0 (by omega) (by omega)⟩)))
  · refine br_f hv2 (br_f (nI_nlt (b := 16) (by omega) (by omega)) ?_)
    unfold wpY_graftState
    exact go_ndY nn ac pc tm md lo al A La P Lp E D W T U C hn.2 hj _ (br_f (by decide) (br_f hv2 (br_f (nI_ge (a := 15) (by omega) (by omega)) ⟨rfl, R0⟩)))
theorem i_vc_lost {k : Nat} {u : SX} {v : SY} (I : i_Rel k u v) (hk : k + 3 ≤ 1540) : wpX_lost (fun r => wpY_lost (fun r' => r' = r ∧ i_Rel (k + 3) u v) v) u := by
  have R0 := i_up I
  obtain ⟨nn, ac, pc, tm, md, lo, al, A, La, P, Lp, E, D, W, T, U, C, ⟨hn, hac, hpc, htm⟩, hmd, hlo, Z, rfl, rfl⟩ := I
  exact ⟨rfl, R0⟩
theorem i_vc_isAlive {k : Nat} {u : SX} {v : SY} (I : i_Rel k u v) (hk : k + 3 ≤ 1540) (v1 : Int32) : wpX_isAlive (fun r => wpY_isAlive (fun r' => r' = r ∧ i_Rel (k + 3) u v) v v1) u v1 := by
  have R0 := i_up I
  obtain ⟨nn, ac, pc, tm, md, lo, al, A, La, P, Lp, E, D, W, T, U, C, ⟨hn, hac, hpc, htm⟩, hmd, hlo, Z, rfl, rfl⟩ := I
  rcases go_cls v1 nn (by omega) with h1 | ⟨j, hj, rfl⟩
  · refine go_alX0 nn ac pc tm md lo al A La P Lp E D W T U C hn.2 (Or.inl h1) _ ?_
    unfold wpY_isAlive
    exact go_ndY0 nn ac pc tm md lo al A La P Lp E D W T U C h1 _ (br_t rfl ⟨rfl, R0⟩)
  have hv : vp_in (nI j) 16 := vp_in_nI (by omega) (by omega)
  cases ha : al j with
  | false =>
    refine go_alX0 nn ac pc tm md lo al A La P Lp E D W T U C hn.2 (Or.inr ⟨j, hj, rfl, ha⟩) _ ?_
    unfold wpY_isAlive
    exact go_ndY nn ac pc tm md lo al A La P Lp E D W T U C hn.2 hj _ (br_f (by decide) ⟨hv, br_t (go_bz al j ha) ⟨rfl, R0⟩⟩)
  | true =>
    refine go_alX nn ac pc tm md lo al A La P Lp E D W T U C hn.2 hj ha _ ?_
    unfold wpY_isAlive
    exact go_ndY nn ac pc tm md lo al A La P Lp E D W T U C hn.2 hj _ (br_f (by decide) ⟨hv, br_f (go_bn al j ha) ⟨rfl, R0⟩⟩)
