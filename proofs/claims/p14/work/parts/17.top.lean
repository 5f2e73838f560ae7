theorem go_clX (p : Int32) (l h : Nat) (hlh : l ≤ h) (hh : h < 2 ^ 31) : ∃ r, l ≤ r ∧ r ≤ h ∧ (∀ Q : Int32 → Prop, Q (nI r) → wpX_clamp Q () p (nI l) (nI h)) := by
  by_cases h1 : nI l ≤ p
  · have h0 : ¬ p < 0 := by
      intro q
      have e1 := Int32.le_iff_toInt_le.mp h1
      have e2 := Int32.lt_iff_toInt_lt.mp q
      rw [nI_toInt (by omega)] at e1
      have e3 : (0 : Int32).toInt = 0 := by decide
      omega
    obtain ⟨r, hr, e⟩ := nI_of h0
    subst e
    have h2 := (nI_leI (by omega) hr).mp h1
    by_cases h3 : nI r ≤ nI h
    · have h4 := (nI_leI hr hh).mp h3
      exact ⟨r, h2, h4, fun Q hQ => br_t h1 (br_t h3 hQ)⟩
    · exact ⟨h, hlh, by omega, fun Q hQ => br_t h1 (br_f h3 hQ)⟩
  · exact ⟨l, by omega, hlh, fun Q hQ => br_f h1 hQ⟩
section
variable (nn ac pc tm md lo : Nat) (al : Nat → Bool) (A La P Lp : Nat → Nat) (E D W : Nat → Bool) (T : Nat → Nat) (U : Nat → Bool) (C : Nat → Nat)
theorem go_iX {mc ms kc ks : Nat} (hn : nn ≤ 16) (post : St2 → Prop) (hp : post (nI nn, nI ac, nI pc, nI tm, nI md, nI lo, go_B (fun j => decide (j < nn)), go_N A, go_N La, go_N P, go_N Lp, go_M E, go_M D, go_M W, go_N T, go_S U C)) : ∀ n i, i ≤ 16 → 16 - i < n → wX_init_144 post mc ms kc ks (nI nn) (nI ac) (nI pc) (nI tm) (nI md) (nI lo) n (nI i) (go_B (fun j => decide (j < i ∧ j < nn))) (go_N A) (go_N La) (go_N P) (go_N Lp) (go_M E) (go_M D) (go_M W) (go_N T) (go_S U C) := by
  intro n
  induction n with
  | zero => intro i _ hn; exact absurd hn (by omega)
  | succ n ih =>
    intro i hi hn'
    have w := ih (i + 1)
    refine pk_le 16 i (fun h => ?_) (fun h => pk_le nn i (fun h2 => ⟨vp_in_nI h (by omega), nm_r (go_uB _ i false rfl) (nm_r (nI_1 i) ?_)⟩) (fun h2 => ⟨vp_in_nI h (by omega), nm_r (go_uB _ i true rfl) (nm_r (nI_1 i) ?_)⟩))
    · have e : (fun j => decide (j < i ∧ j < nn)) = fun j => decide (j < nn) := funext fun j => decide_eq_decide.mpr (by omega)
      rw [e]; exact hp
    · have e : go_up (fun j => decide (j < i ∧ j < nn)) i false = fun j => decide (j < i + 1 ∧ j < nn) := by
        funext j
        unfold go_up
        by_cases q : j = i
        · rw [if_pos q]; exact (decide_eq_false (by omega)).symm
        · rw [if_neg q]; exact decide_eq_decide.mpr (by omega)
      rw [e]; exact w (by omega) (by omega)
    · have e : go_up (fun j => decide (j < i ∧ j < nn)) i true = fun j => decide (j < i + 1 ∧ j < nn) := by
        funext j
        unfold go_up
        by_cases q : j = i
        · rw [if_pos q]; exact (decide_eq_true (by omega)).symm
        · rw [if_neg q]; exact decide_eq_decide.mpr (by omega)
      rw [e]; exact w (by omega) (by omega)
end
theorem go_Zi (ac pc : Nat) : go_Z ac pc (fun _ => 0) (fun _ => 0) (fun _ => 0) (fun _ => 0) (fun _ => false) (fun _ => 0) (fun _ => false) (fun _ => 0) := ⟨⟨fun _ => (by decide : 0 < 16), fun _ => Nat.zero_le _, fun _ _ _ _ hj => absurd hj (Nat.not_lt_zero _)⟩, fun _ _ _ h => absurd h Bool.false_ne_true, ⟨fun _ => (by decide : 0 < 16), fun _ => Nat.zero_le _, fun _ _ _ _ hj => absurd hj (Nat.not_lt_zero _)⟩, fun _ => Nat.zero_le _, fun _ => ⟨(by decide : 0 < 2 ^ 31), fun h => absurd h Bool.false_ne_true⟩⟩
theorem i_vc (xs : Nat → Int32) (L : Nat) (hL : L ≤ 260) : wpL_law (fun r => r = 1) L xs := by
  unfold wpL_law
  refine go_cell (by omega) xs 0 (by omega) rfl _ (fun r1 => ⟨by decide, ?_⟩)
  obtain ⟨a0, ha0, ea0⟩ := pk_andE r1 (m := 255) 8 (by decide)
  have e1 : 2 + ((r1 &&& 255) - (r1 &&& 255) / 7 * 7) = nI (2 + a0 % 7) := by
    rw [ea0]
    show nI 2 + (nI a0 - nI a0 / nI 7 * nI 7) = _
    rw [pk_rem (a := a0) (d := 7) (by omega) (by omega) (by omega), nI_add]
  refine nm_r e1 ?_
  have hn : 2 ≤ 2 + a0 % 7 ∧ 2 + a0 % 7 ≤ 16 := by omega
  generalize 2 + a0 % 7 = nn at hn
  refine go_cell (by omega) xs 1 (by omega) rfl _ (fun r5 => go_cell (by omega) xs 2 (by omega) rfl _ (fun r6 => go_cell (by omega) xs 3 (by omega) rfl _ (fun r7 => ⟨10, 848, by omega, by omega, ?_⟩)))
  obtain ⟨ac, a1, a2, c1⟩ := go_clX (2 + (r5 &&& 3)) 2 4 (by omega) (by omega)
  obtain ⟨pc, p1, p2, c2⟩ := go_clX (1 + (r6 &&& 7)) 1 8 (by omega) (by omega)
  obtain ⟨tm, t1, t2, c3⟩ := go_clX (1 + (r7 &&& 7)) 1 8 (by omega) (by omega)
  have c0 : ∀ Q : Int32 → Prop, Q (nI nn) → wpX_clamp Q () (nI nn) 2 16 := fun Q hQ => br_t (nI_le (a := 2) (by omega) (by omega)) (br_t (nI_le (b := 16) (by omega) (by omega)) hQ)
  have w : ∀ Q : St2 → Prop, Q (nI nn, nI ac, nI pc, nI tm, nI 0, nI 0, go_B (fun j => decide (j < nn)), go_N (fun _ => 0), go_N (fun _ => 0), go_N (fun _ => 0), go_N (fun _ => 0), go_M (fun _ => false), go_M (fun _ => false), go_M (fun _ => false), go_N (fun _ => 0), go_S (fun _ => false) (fun _ => 0)) → wX_init_144 Q 10 848 10 848 (nI nn) (nI ac) (nI pc) (nI tm) (nI 0) (nI 0) 17 (nI 0) (go_B (fun _ => false)) (go_N (fun _ => 0)) (go_N (fun _ => 0)) (go_N (fun _ => 0)) (go_N (fun _ => 0)) (go_M (fun _ => false)) (go_M (fun _ => false)) (go_M (fun _ => false)) (go_N (fun _ => 0)) (go_S (fun _ => false) (fun _ => 0)) := by
    intro Q hQ
    have w := go_iX nn ac pc tm 0 0 (fun _ => 0) (fun _ => 0) (fun _ => 0) (fun _ => 0) (fun _ => false) (fun _ => false) (fun _ => false) (fun _ => 0) (fun _ => false) (fun _ => 0) (mc := 10) (ms := 848) (kc := 10) (ks := 848) hn.2 Q hQ 17 0 (by omega) (by omega)
    have e : (fun j => decide (j < 0 ∧ j < nn)) = (fun _ => false : Nat → Bool) := funext fun j => decide_eq_false (by omega)
    rw [e] at w
    exact w
  have e14 : Int32.ofNat L * 1000 + 2000 = nI (L * 1000 + 2000) := by
    show nI L * nI 1000 + nI 2000 = _
    rw [pk_mul, nI_add]
  refine ⟨by decide, by decide, by decide, by decide, by decide, by decide, by decide, by decide, by decide, by decide, by decide, by decide, by decide, by decide, by decide, by decide, by decide, by decide, by decide, by decide, ?_⟩
  refine c0 _ (c1 _ (c2 _ (c3 _ ⟨17, w _ (nm_r e14 ⟨L * 1000 + 2001, ?_⟩)⟩)))
  exact go_loop nn ac pc tm hL xs (fun r => r = 1) rfl (L * 1000 + 2001) 0 0 (fun j => decide (j < nn)) (fun _ => 0) (fun _ => 0) (fun _ => 0) (fun _ => 0) (fun _ => false) (fun _ => false) (fun _ => false) (fun _ => 0) (fun _ => false) (fun _ => 0) 0 0 0 0 0 0 0 0 4 (fun _ => 0) (by omega) (by omega) ⟨⟨hn, ⟨a1, a2⟩, ⟨p1, p2⟩, ⟨t1, t2⟩⟩, by omega, go_Zi ac pc, fun _ _ _ h => absurd h Bool.false_ne_true, fun _ h => absurd h Bool.false_ne_true, fun _ _ _ _ _ _ _ _ _ _ d => absurd d Bool.false_ne_true⟩ (by omega) (fun i _ h => absurd h (by rw [go_bl0]; decide)) (fun i _ h => absurd h (by rw [go_bl0]; decide)) (fun i _ => (b_0 i).trans (decide_eq_false (by omega)).symm) (fun i _ => by rw [go_bl0, decide_eq_false (by omega), Bool.false_and]) (fun b hb => absurd hb (by omega)) (by omega)
