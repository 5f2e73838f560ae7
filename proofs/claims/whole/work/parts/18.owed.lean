theorem go_Zi (ac pc : Nat) : go_Z ac pc (fun _ => 0) (fun _ => 0) (fun _ => 0) (fun _ => 0) (fun _ => false) (fun _ => 0) (fun _ => false) (fun _ => 0) := ⟨⟨fun _ => (by decide : 0 < 16), fun _ => Nat.zero_le _, fun _ _ _ _ hj => absurd hj (Nat.not_lt_zero _)⟩, fun _ _ _ h => absurd h Bool.false_ne_true, ⟨fun _ => (by decide : 0 < 16), fun _ => Nat.zero_le _, fun _ _ _ _ hj => absurd hj (Nat.not_lt_zero _)⟩, fun _ => Nat.zero_le _, fun _ => ⟨(by decide : 0 < 2 ^ 31), fun h => absurd h Bool.false_ne_true⟩⟩
def i_Rel (k : Nat) (u : SX) (v : SY) : Prop := ∃ (nn ac pc tm md lo : Nat) (al : Nat → Bool) (A La P Lp : Nat → Nat) (E D W : Nat → Bool) (T : Nat → Nat) (U : Nat → Bool) (C : Nat → Nat), ((2 ≤ nn ∧ nn ≤ 16) ∧ (2 ≤ ac ∧ ac ≤ 4) ∧ (1 ≤ pc ∧ pc ≤ 8) ∧ (1 ≤ tm ∧ tm ≤ 8)) ∧ md ≤ 16 ∧ lo ≤ 300 * k ∧ go_Z ac pc A La P Lp E T U C ∧ u = (nI nn, nI ac, nI pc, nI tm, nI md, nI lo, go_B al, go_N A, go_N La, go_N P, go_N Lp, go_M E, go_M D, go_M W, go_N T, go_S U C) ∧ v = (nI nn, nI ac, nI pc, nI tm, nI lo, nI md, go_B al, go_N A, go_N La, go_N P, go_N Lp, go_B E, go_B D, go_B W, go_N T, go_B U, go_N C)
theorem i_up {k : Nat} {u : SX} {v : SY} (h : i_Rel k u v) : i_Rel (k + 3) u v := by
  obtain ⟨nn, ac, pc, tm, md, lo, al, A, La, P, Lp, E, D, W, T, U, C, hk, hm, hl, h⟩ := h
  exact ⟨nn, ac, pc, tm, md, lo, al, A, La, P, Lp, E, D, W, T, U, C, hk, hm, by omega, h⟩
theorem i_vc0 (k0 : Int32) (k1 : Int32) (k2 : Int32) (k3 : Int32) : wpX_init (fun u => wpY_init (fun v => i_Rel 4 u v) k0 k1 k2 k3) k0 k1 k2 k3 := by
  obtain ⟨nn, n1, n2, cX0, cY0⟩ := go_clX k0 2 16 (by omega) (by omega)
  obtain ⟨ac, a1, a2, cX1, cY1⟩ := go_clX k1 2 4 (by omega) (by omega)
  obtain ⟨pc, p1, p2, cX2, cY2⟩ := go_clX k2 1 8 (by omega) (by omega)
  obtain ⟨tm, t1, t2, cX3, cY3⟩ := go_clX k3 1 8 (by omega) (by omega)
  have R : i_Rel 4 (nI nn, nI ac, nI pc, nI tm, nI 0, nI 0, go_B (fun j => decide (j < nn)), go_N (fun _ => 0), go_N (fun _ => 0), go_N (fun _ => 0), go_N (fun _ => 0), go_M (fun _ => false), go_M (fun _ => false), go_M (fun _ => false), go_N (fun _ => 0), go_S (fun _ => false) (fun _ => 0)) (nI nn, nI ac, nI pc, nI tm, nI 0, nI 0, go_B (fun j => decide (j < nn)), go_N (fun _ => 0), go_N (fun _ => 0), go_N (fun _ => 0), go_N (fun _ => 0), go_B (fun _ => false), go_B (fun _ => false), go_B (fun _ => false), go_N (fun _ => 0), go_B (fun _ => false), go_N (fun _ => 0)) := by
    refine ⟨nn, ac, pc, tm, 0, 0, _, _, _, _, _, _, _, _, _, _, _, ⟨⟨n1, n2⟩, ⟨a1, a2⟩, ⟨p1, p2⟩, ⟨t1, t2⟩⟩, by omega, by omega, ?_, rfl, rfl⟩
    exact go_Zi ac pc
  have wY : wpY_init (fun v => i_Rel 4 (nI nn, nI ac, nI pc, nI tm, nI 0, nI 0, go_B (fun j => decide (j < nn)), go_N (fun _ => 0), go_N (fun _ => 0), go_N (fun _ => 0), go_N (fun _ => 0), go_M (fun _ => false), go_M (fun _ => false), go_M (fun _ => false), go_N (fun _ => 0), go_S (fun _ => false) (fun _ => 0)) v) k0 k1 k2 k3 := by
    have w := go_iY nn ac pc tm 0 0 (fun _ => 0) (fun _ => 0) (fun _ => 0) (fun _ => 0) (fun _ => false) (fun _ => false) (fun _ => false) (fun _ => 0) (fun _ => false) (fun _ => 0) n2 _ R 17 0 (by omega) (by omega)
    have e : (fun j => decide (j < 0)) = (fun _ => false : Nat → Bool) := funext fun j => decide_eq_false (by omega)
    rw [e] at w
    exact cY0 (fun z => wY_init_119 _ k1 k2 k3 z 0 0 0 0 0 0 (fun _ => 0) (fun _ => 0) (fun _ => 0) (fun _ => 0) (fun _ => 0) (fun _ => 0) (fun _ => 0) (fun _ => 0) (fun _ => 0) (fun _ => 0) (fun _ => 0)) (cY1 (fun z => wY_init_142 _ k2 k3 z (nI nn) 0 0 0 0 0 (fun _ => 0) (fun _ => 0) (fun _ => 0) (fun _ => 0) (fun _ => 0) (fun _ => 0) (fun _ => 0) (fun _ => 0) (fun _ => 0) (fun _ => 0) (fun _ => 0)) (cY2 (fun z => wY_init_167 _ k3 z (nI nn) (nI ac) 0 0 0 0 (fun _ => 0) (fun _ => 0) (fun _ => 0) (fun _ => 0) (fun _ => 0) (fun _ => 0) (fun _ => 0) (fun _ => 0) (fun _ => 0) (fun _ => 0) (fun _ => 0)) (cY3 (fun z => ∃ n201 : Nat, wY_init_201 _ (nI nn) (nI ac) (nI pc) z 0 0 n201 0 (fun _ => 0) (fun _ => 0) (fun _ => 0) (fun _ => 0) (fun _ => 0) (fun _ => 0) (fun _ => 0) (fun _ => 0) (fun _ => 0) (fun _ => 0) (fun _ => 0)) ⟨17, w⟩)))
  have w := go_iX nn ac pc tm 0 0 (fun _ => 0) (fun _ => 0) (fun _ => 0) (fun _ => 0) (fun _ => false) (fun _ => false) (fun _ => false) (fun _ => 0) (fun _ => false) (fun _ => 0) n2 (fun u => wpY_init (fun v => i_Rel 4 u v) k0 k1 k2 k3) wY 17 0 (by omega) (by omega)
  have e : (fun j => decide (j < 0 ∧ j < nn)) = (fun _ => false : Nat → Bool) := funext fun j => decide_eq_false (by omega)
  rw [e] at w
  unfold wpX_init
  exact cX0 _ (cX1 _ (cX2 _ (cX3 _ ⟨17, w⟩)))
