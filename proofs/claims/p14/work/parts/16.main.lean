section
variable (nn ac pc tm md lo : Nat) (al : Nat → Bool) (A La P Lp : Nat → Nat) (E D W : Nat → Bool) (T : Nat → Nat) (U : Nat → Bool) (C : Nat → Nat)
theorem go_chk {L : Nat} {xs : Nat → Int32} {x3 x5 x7 : Int64} {x9 x10 x11 x12 x13 x14 : Int32} {it kc ks : Nat} {src : Nat → Nat} (G : go_G nn ac pc tm md lo al A La P Lp E D W T U C) (hlo : lo < 2 ^ 31) (h3 : go_sub nn D 0 x3) (h5 : go_sub nn D 4 x5) (hm : ∀ i, i < 32 → bt x9 i = decide (i < md)) (hsr : go_sr x7 md src) (hsc : ∀ b, b < md → src b < nn ∧ D (src b * 16 + b) = true) (post : Int32 → Prop) (J : Int64 → Int64 → Int64 → Int32 → Int32 → Int32 → Int32 → Int32 → Int32 → Int32 → Int32 → Int32 → Int32 → Int32 → Int32 → (Nat → Int32) → (Nat → Int32) → (Nat → Int32) → (Nat → Int32) → (Nat → Int32) → (Nat → Int32) → (Nat → Int32) → (Nat → Int32) → (Nat → Int32) → (Nat → Int32) → Prop) (hJ : ∀ r54 r55, go_sub nn D 0 r54 → go_sub nn D 4 r55 → J r54 r55 x7 x9 x10 x11 x12 x13 (nI (it + 1)) (nI nn) (nI ac) (nI pc) (nI tm) (nI md) (nI lo) (go_B al) (go_N A) (go_N La) (go_N P) (go_N Lp) (go_M E) (go_M D) (go_M W) (go_N T) (go_S U C)) : wL_law_458 post L xs J (nI nn) x3 x5 x7 x9 x10 x11 x12 x13 x14 (nI it) kc ks (nI nn) (nI ac) (nI pc) (nI tm) (nI md) (nI lo) (go_B al) (go_N A) (go_N La) (go_N P) (go_N Lp) (go_M E) (go_M D) (go_M W) (go_N T) (go_S U C) := by
  obtain ⟨⟨hn, hac, hpc, htm⟩, hmd, Z, KD, MS, IV⟩ := G
  have hJ' := hJ _ _ (go_pks nn D 0) (go_pks nn D 4)
  have hL : ∀ x, La x ≤ 4 := fun x => Nat.le_trans (Z.1.2.1 x) hac.2
  unfold wL_law_458
  refine go_pack nn ac pc tm md lo al A La P Lp E D W T U C hn.2 (base := 0) (by omega) _ (go_pack nn ac pc tm md lo al A La P Lp E D W T U C hn.2 (base := 4) (by omega) _ (br_t (go_pkc h3) (br_t (go_pkc h5) (go_ft (go_pks nn D 0) KD hm _ (br_f (by decide) (go_ft (go_pks nn D 4) KD hm _ (br_f (by decide) ?_)))))))
  by_cases l0 : lo = 0
  · refine br_t (by rw [l0]; exact nI_0) (go_pd nn ac pc tm md lo al A La P Lp E D W T U C _ Z.2.2.2.2 (fun r hr => ?_))
    by_cases r0 : r = 0
    · refine br_t r0 (go_qt nn ac pc tm md lo al A La P Lp E D W T U C hn.2 Z.2.2.2.1 _ (br_t rfl (nm_r (nI_1 it) hJ')) (fun hq => br_f (by decide) (go_cov nn ac pc tm md lo al A La P Lp E D W T U C hn.2 Z.1.1 hL hm hsr hsc (fun b hb v p hv hp av ap l d => ?_) _ (br_f (by decide) (nm_r (nI_1 it) hJ')))))
      have hfree := hr r0
      have nohs : ∀ k x y c, ¬ go_hs U C k x y c := fun k x y c ⟨s, hs, hU, _⟩ => by rw [hfree s hs] at hU; exact absurd hU (by decide)
      rcases IV l0 v p b (by omega) (by omega) hb av ap l d with h | h | h | h | h
      · exact h
      · exact absurd h (nohs _ _ _ _)
      · exact absurd h (nohs _ _ _ _)
      · have := hq p b hp hb
        omega
      · exact absurd h (nohs _ _ _ _)
    · exact br_f r0 (nm_r (nI_1 it) hJ')
  · exact br_f (nI_ne0 (by omega) hlo) (nm_r (nI_1 it) hJ')
end
theorem go_cell {L : Nat} (hL : L < 2 ^ 31) (xs : Nat → Int32) {p : Int32} (j : Nat) (hj : j < 2 ^ 31) (e : p = nI j) (post : Int32 → Prop) (h : ∀ r, post r) : wpL_cell post L xs () p := by
  subst e
  exact pk_le L j (fun _ => h _) (fun q => ⟨vp_in_nI q hL, h _⟩) rfl rfl hL hj
theorem go_subm {nn base : Nat} {D D' : Nat → Bool} {x : Int64} (h : ∀ j, D j = true → D' j = true) (g : go_sub nn D base x) : go_sub nn D' base x := fun i hi hx => ⟨(g i hi hx).1, h _ (g i hi hx).2⟩
section
variable (nn ac pc tm md : Nat) (lo0 : Nat) (D0 : Nat → Bool)
theorem go_dl {L : Nat} {xs : Nat → Int32} {x3 x5 x7 : Int64} {x9 x10 x11 x12 x13 x14 x15 x18 : Int32} {kc ks : Nat} (post : Int32 → Prop) (J : Int64 → Int64 → Int64 → Int32 → Int32 → Int32 → Int32 → Int32 → Int32 → Int32 → Int32 → Int32 → Int32 → Int32 → Int32 → (Nat → Int32) → (Nat → Int32) → (Nat → Int32) → (Nat → Int32) → (Nat → Int32) → (Nat → Int32) → (Nat → Int32) → (Nat → Int32) → (Nat → Int32) → (Nat → Int32) → Prop) (hl0 : lo0 + 300 < 2 ^ 31) (HK : ∀ (al : Nat → Bool) (A La P Lp : Nat → Nat) (E D W : Nat → Bool) (T : Nat → Nat) (U : Nat → Bool) (C : Nat → Nat) (lo : Nat), go_G nn ac pc tm md lo al A La P Lp E D W T U C → lo = lo0 → (∀ j, D0 j = true → D j = true) → wL_law_458 post L xs J (nI nn) x3 x5 x7 x9 x10 x11 x12 x13 x14 x15 kc ks (nI nn) (nI ac) (nI pc) (nI tm) (nI md) (nI lo) (go_B al) (go_N A) (go_N La) (go_N P) (go_N Lp) (go_M E) (go_M D) (go_M W) (go_N T) (go_S U C)) : ∀ n k (al : Nat → Bool) (A La P Lp : Nat → Nat) (E D W : Nat → Bool) (T : Nat → Nat) (U : Nat → Bool) (C : Nat → Nat) (lo : Nat), k ≤ 64 → 64 - k < n → go_G nn ac pc tm md lo al A La P Lp E D W T U C → lo = lo0 → (∀ j, D0 j = true → D j = true) → wL_law_378 post L xs J (nI nn) x3 x5 x7 x9 x10 x11 x12 x13 x14 x15 x18 kc ks n (nI k) (nI nn) (nI ac) (nI pc) (nI tm) (nI md) (nI lo) (go_B al) (go_N A) (go_N La) (go_N P) (go_N Lp) (go_M E) (go_M D) (go_M W) (go_N T) (go_S U C) := by
  intro n
  induction n with
  | zero => intro k al A La P Lp E D W T U C lo _ hn; exact absurd hn (by omega)
  | succ n ih =>
    intro k al A La P Lp E D W T U C lo hk hn G hlo hD
    refine pk_le 64 k (fun _ => ?_) (fun h => ?_)
    · unfold wL_law_409 wL_law_439
      exact HK al A La P Lp E D W T U C lo G hlo hD
    · obtain ⟨al', A', La', P', Lp', E', D', W', T', U', C', lo', G', hl', hDD, r, hX⟩ := go_cP nn ac pc tm md lo al A La P Lp E D W T U C ((x18 + nI k) &&& 63) G (by omega)
      have hD' : ∀ j, D0 j = true → D' j = true := fun j h => hDD j (hD j h)
      refine hX _ (br_c (fun _ => nm_r (nI_1 k) (ih (k + 1) al' A' La' P' Lp' E' D' W' T' U' C' lo' (by omega) (by omega) G' (by omega) hD')) (fun _ => ?_))
      unfold wL_law_409 wL_law_439
      exact HK al' A' La' P' Lp' E' D' W' T' U' C' lo' G' (by omega) hD'
end
section
variable (nn ac pc tm : Nat)
theorem go_loop {L : Nat} (hL : L ≤ 260) (xs : Nat → Int32) {kc ks : Nat} (post : Int32 → Prop) (hp : post 1) : ∀ n it (md : Nat) (al : Nat → Bool) (A La P Lp : Nat → Nat) (E D W : Nat → Bool) (T : Nat → Nat) (U : Nat → Bool) (C : Nat → Nat) (lo : Nat) (x3 x5 x7 : Int64) (x9 x10 x11 x13 : Int32) (i : Nat) (src : Nat → Nat), it ≤ L * 1000 + 2000 → L * 1000 + 2000 - it < n → go_G nn ac pc tm md lo al A La P Lp E D W T U C → lo ≤ 300 * it → go_sub nn D 0 x3 → go_sub nn D 4 x5 → (∀ i, i < 32 → bt x9 i = decide (i < md)) → go_sr x7 md src → (∀ b, b < md → src b < nn ∧ D (src b * 16 + b) = true) → i ≤ L + 4 → wL_law_91 post L xs (nI nn) (nI (L * 1000 + 2000)) kc ks n x3 x5 x7 x9 x10 x11 (nI i) x13 (nI it) (nI nn) (nI ac) (nI pc) (nI tm) (nI md) (nI lo) (go_B al) (go_N A) (go_N La) (go_N P) (go_N Lp) (go_M E) (go_M D) (go_M W) (go_N T) (go_S U C) := by
  intro n
  induction n with
  | zero => intro it md al A La P Lp E D W T U C lo x3 x5 x7 x9 x10 x11 x13 i src _ hn; exact absurd hn (by omega)
  | succ n ih =>
    intro it md al A La P Lp E D W T U C lo x3 x5 x7 x9 x10 x11 x13 i src hit hn' G hlo h3 h5 hm hsr hsc hi
    refine pk_le (L * 1000 + 2000) it (fun _ => hp) (fun h => ?_)
    have hnn := G.1.1
    have Z := G.2.2.1
    have hl : lo + 300 < 2 ^ 31 := by omega
    have hn0 : ¬ nI nn = 0 := nI_ne0 (by omega) (by omega)
    have K1 : ∀ (md' : Nat) (al' : Nat → Bool) (A' La' P' Lp' : Nat → Nat) (E' D' W' : Nat → Bool) (T' : Nat → Nat) (U' : Nat → Bool) (C' : Nat → Nat) (lo' : Nat) (y7 : Int64) (y9 y10 y11 y13 : Int32) (i' : Nat) (src' : Nat → Nat), go_G nn ac pc tm md' lo' al' A' La' P' Lp' E' D' W' T' U' C' → lo' ≤ lo + 300 → (∀ j, D j = true → D' j = true) → (∀ i, i < 32 → bt y9 i = decide (i < md')) → go_sr y7 md' src' → (∀ b, b < md' → src' b < nn ∧ D' (src' b * 16 + b) = true) → i' ≤ L + 4 → wL_law_458 post L xs (wL_law_91 post L xs (nI nn) (nI (L * 1000 + 2000)) kc ks n) (nI nn) x3 x5 y7 y9 y10 y11 (nI i') y13 (nI (L * 1000 + 2000)) (nI it) kc ks (nI nn) (nI ac) (nI pc) (nI tm) (nI md') (nI lo') (go_B al') (go_N A') (go_N La') (go_N P') (go_N Lp') (go_M E') (go_M D') (go_M W') (go_N T') (go_S U' C') := by
      intro md' al' A' La' P' Lp' E' D' W' T' U' C' lo' y7 y9 y10 y11 y13 i' src' G' hl' hDD hm' hsr' hsc' hi'
      exact go_chk nn ac pc tm md' lo' al' A' La' P' Lp' E' D' W' T' U' C' G' (by omega) (go_subm hDD h3) (go_subm hDD h5) hm' hsr' hsc' post _ (fun r54 r55 s54 s55 => ih (it + 1) md' al' A' La' P' Lp' E' D' W' T' U' C' lo' r54 r55 y7 y9 y10 y11 y13 i' src' (by omega) (by omega) G' (by omega) s54 s55 hm' hsr' hsc' hi')
    have K : ∀ (al' : Nat → Bool) (A' La' P' Lp' : Nat → Nat) (E' D' W' : Nat → Bool) (T' : Nat → Nat) (U' : Nat → Bool) (C' : Nat → Nat) (lo' : Nat) (y10 y11 y13 : Int32) (i' : Nat), go_G nn ac pc tm md lo' al' A' La' P' Lp' E' D' W' T' U' C' → lo' ≤ lo + 300 → (∀ j, D j = true → D' j = true) → i' ≤ L + 4 → wL_law_458 post L xs (wL_law_91 post L xs (nI nn) (nI (L * 1000 + 2000)) kc ks n) (nI nn) x3 x5 x7 x9 y10 y11 (nI i') y13 (nI (L * 1000 + 2000)) (nI it) kc ks (nI nn) (nI ac) (nI pc) (nI tm) (nI md) (nI lo') (go_B al') (go_N A') (go_N La') (go_N P') (go_N Lp') (go_M E') (go_M D') (go_M W') (go_N T') (go_S U' C') := fun al' A' La' P' Lp' E' D' W' T' U' C' lo' y10 y11 y13 i' G' hl' hDD hi' => K1 md al' A' La' P' Lp' E' D' W' T' U' C' lo' x7 x9 y10 y11 y13 i' src G' hl' hDD hm hsr (fun b hb => ⟨(hsc b hb).1, hDD _ (hsc b hb).2⟩) hi'
    have K0 : ∀ (y10 y11 y13 : Int32) (i' : Nat), i' ≤ L + 4 → wL_law_458 post L xs (wL_law_91 post L xs (nI nn) (nI (L * 1000 + 2000)) kc ks n) (nI nn) x3 x5 x7 x9 y10 y11 (nI i') y13 (nI (L * 1000 + 2000)) (nI it) kc ks (nI nn) (nI ac) (nI pc) (nI tm) (nI md) (nI lo) (go_B al) (go_N A) (go_N La) (go_N P) (go_N Lp) (go_M E) (go_M D) (go_M W) (go_N T) (go_S U C) := fun y10 y11 y13 i' hi' => K al A La P Lp E D W T U C lo y10 y11 y13 i' G (by omega) (fun _ h => h) hi'
    by_cases hb : x10 ≤ 0
    · refine br_t hb (pk_le L i (fun _ => br_c (fun _ => K0 1000 0 1 i hi) (fun _ => hp)) (fun hiL => ?_))
      refine go_cell (by omega) xs i (by omega) rfl _ (fun r74 => nm_e ?_)
      refine go_cell (by omega) xs (i + 1) (by omega) (nI_1 i) _ (fun r76 => ⟨hn0, ?_⟩)
      obtain ⟨a0, ha0, ea0⟩ := pk_andE r76 (m := 255) 8 (by decide)
      have eA : (r76 &&& 255) - (r76 &&& 255) / nI nn * nI nn = nI (a0 % nn) := by rw [ea0]; exact pk_rem (by omega) (by omega) (by omega)
      have ha : a0 % nn < nn := Nat.mod_lt _ (by omega)
      refine nm_r eA ?_
      generalize a0 % nn = a at ha
      refine go_cell (by omega) xs (i + 2) (by omega) (nI_add i 2) _ (fun r79 => nm_e ⟨hn0, nm_e (nm_r (nI_add i 3) ?_)⟩)
      have join : ∀ z0 z1 : Int32, wL_law_244 post L xs (wL_law_91 post L xs (nI nn) (nI (L * 1000 + 2000)) kc ks n) (nI nn) x3 x5 x7 x9 x10 x11 (nI (i + 3)) x13 (nI (L * 1000 + 2000)) (nI it) z0 z1 kc ks (nI nn) (nI ac) (nI pc) (nI tm) (nI md) (nI lo) (go_B al) (go_N A) (go_N La) (go_N P) (go_N Lp) (go_M E) (go_M D) (go_M W) (go_N T) (go_S U C) := by
        intro z0 z1
        obtain ⟨al', A', La', P', Lp', E', D', W', T', U', C', lo', G', hl', hDD, r, hX⟩ := go_cJ nn ac pc tm md lo al A La P Lp E D W T U C z1 z0 G hl
        unfold wL_law_244
        exact hX _ (K al' A' La' P' Lp' E' D' W' T' U' C' lo' x10 x11 x13 (i + 3) G' hl' hDD (by omega))
      refine br_c (fun _ => br_c (fun _ => ?_) (fun _ => br_c (fun _ => ?_) (fun _ => br_c (fun _ => br_c (fun _ => br_c (fun _ => ?_) (fun _ => br_c (fun _ => ?_) (fun _ => ?_))) (fun _ => ?_)) (fun _ => ?_)))) (fun _ => br_c (fun _ => ⟨hn0, join _ _⟩) (fun _ => join _ _))
      · obtain ⟨al', A', La', P', Lp', E', D', W', T', U', C', lo', G', hl', hDD, r, hX⟩ := go_cS nn ac pc tm md lo al A La P Lp E D W T U C (nI a) G hl
        exact hX _ (K al' A' La' P' Lp' E' D' W' T' U' C' lo' x10 x11 x13 (i + 3) G' hl' hDD (by omega))
      · obtain ⟨al', A', La', P', Lp', E', D', W', T', U', C', lo', G', hl', hDD, r, hX⟩ := go_cC nn ac pc tm md lo al A La P Lp E D W T U C (nI a) G hl
        exact hX _ (K al' A' La' P' Lp' E' D' W' T' U' C' lo' x10 x11 x13 (i + 3) G' hl' hDD (by omega))
      · exact ⟨65, go_dl nn ac pc tm md lo D post _ hl (fun al' A' La' P' Lp' E' D' W' T' U' C' lo' G' hl' hDD => K al' A' La' P' Lp' E' D' W' T' U' C' lo' x10 x11 x13 (i + 3) G' (by omega) hDD (by omega)) 65 0 al A La P Lp E D W T U C lo (by omega) (by omega) G rfl (fun _ h => h)⟩
      · obtain ⟨al', A', La', P', Lp', E', D', W', T', U', C', lo', G', hl', hDD, r, hX⟩ := go_cT nn ac pc tm md lo al A La P Lp E D W T U C G hl
        exact hX _ (K al' A' La' P' Lp' E' D' W' T' U' C' lo' x10 x11 x13 (i + 3) G' hl' hDD (by omega))
      · exact nm_e (K0 1000 _ x13 (i + 3) (by omega))
      · refine go_uf nn ac pc tm md lo al A La P Lp E D W T U C Z.2.2.2.2 _ _ (fun r => br_c (fun _ => ?_) (fun _ => ?_))
        · exact K0 x10 x11 x13 (i + 3) (by omega)
        · obtain ⟨al', A', La', P', Lp', E', D', W', T', U', C', lo', G', hl', hDD, r', hX⟩ := go_cD nn ac pc tm md lo al A La P Lp E D W T U C r G hl
          exact hX _ (K al' A' La' P' Lp' E' D' W' T' U' C' lo' x10 x11 x13 (i + 3) G' hl' hDD (by omega))
      · rcases go_cB nn ac pc tm md lo al A La P Lp E D W T U C a G hl ha with hX | ⟨D', U', C', lo', h16, G', hl', hDD, hDx, hX⟩
        · exact hX _ (br_t (by decide) (K0 x10 x11 x13 (i + 3) (by omega)))
        · have e4 : (4 : Int32) * nI md = nI (4 * md) := pk_mul 4 md
          refine hX _ (br_f (nI_pos (by omega)) (br_f (nI_ge (b := 16) h16 (by omega)) (nm_e (nm_r (e' := x7 ||| ((nI a).toInt64 <<< ((nI (4 * md)).toInt64 &&& 63))) (by rw [e4]) ?_))))
          refine K1 (md + 1) al A La P Lp E D' W T U' C' lo' _ _ x10 x11 x13 (i + 3) (go_up src md a) G' hl' hDD (fun j hj => ?_) (go_srb hsr h16 (by omega)) (fun b hb => ?_) (by omega)
          · rw [b_or, hm j hj, go_1b md (by omega) hj]
            by_cases q : j = md
            · rw [q, decide_eq_true (show md < md + 1 by omega), decide_eq_true (rfl : md = md), Bool.or_true]
            · rw [decide_eq_false q, Bool.or_false]
              exact decide_eq_decide.mpr (by omega)
          · by_cases q : b = md
            · rw [q, go_us]; exact ⟨ha, hDx⟩
            · rw [go_un q]
              exact ⟨(hsc b (by omega)).1, hDD _ (hsc b (by omega)).2⟩
    · refine br_f hb (nm_e (go_uf nn ac pc tm md lo al A La P Lp E D W T U C Z.2.2.2.2 _ _ (fun r => br_c (fun _ => go_qt nn ac pc tm md lo al A La P Lp E D W T U C hnn.2 Z.2.2.2.1 _ (br_t rfl ?_) (fun _ => br_f (by decide) ?_)) (fun _ => ?_))))
      · obtain ⟨al', A', La', P', Lp', E', D', W', T', U', C', lo', G', hl', hDD, r', hX⟩ := go_cT nn ac pc tm md lo al A La P Lp E D W T U C G hl
        exact hX _ (K al' A' La' P' Lp' E' D' W' T' U' C' lo' _ x11 x13 i G' hl' hDD hi)
      · exact K0 0 x11 x13 i hi
      · obtain ⟨al', A', La', P', Lp', E', D', W', T', U', C', lo', G', hl', hDD, r', hX⟩ := go_cD nn ac pc tm md lo al A La P Lp E D W T U C r G hl
        exact hX _ (nm_e (K al' A' La' P' Lp' E' D' W' T' U' C' lo' _ _ x13 i G' hl' hDD hi))
end
