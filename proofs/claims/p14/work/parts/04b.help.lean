/-! stores and reads at an index e with e = nI j -/
theorem go_vt : vp_nar .boolean 1 = go_c true := rfl
theorem go_vf : vp_nar .boolean 0 = go_c false := rfl
theorem go_uN {e v : Int32} (f : Nat → Nat) (j w : Nat) (hv : v = nI w) (he : e = nI j := by rfl) (hj : j < 2 ^ 31 := by omega) : upd (go_N f) e.toNatClampNeg v = go_N (go_up f j w) := by
  subst he hv
  rw [nI_clamp hj]
  exact go_Nu f j w
theorem go_uB {e v : Int32} (b : Nat → Bool) (j : Nat) (w : Bool) (hv : v = go_c w) (he : e = nI j := by rfl) (hj : j < 2 ^ 31 := by omega) : upd (go_B b) e.toNatClampNeg v = go_B (go_up b j w) := by
  subst he hv
  rw [nI_clamp hj]
  exact go_Bu b j w
theorem go_rM {e : Int32} (b : Nat → Bool) (c : Nat) (he : e = nI c := by rfl) (hc : c < 2 ^ 31 := by omega) : go_M b e.toNatClampNeg = go_M b c := by
  subst he
  rw [nI_clamp hc]
theorem go_uMs {e : Int32} (b : Nat → Bool) (c p : Nat) (hp : p < 16) (he : e = nI c := by rfl) (hc : c < 2 ^ 31 := by omega) : upd (go_M b) e.toNatClampNeg (go_M b e.toNatClampNeg ||| ((1 : Int32) <<< (nI p &&& 31))) = go_M (go_up b (c * 16 + p) true) := by
  subst he
  rw [nI_clamp hc]
  exact go_Mset b c p hp
theorem go_uMc {e : Int32} (b : Nat → Bool) (c p : Nat) (hp : p < 16) (he : e = nI c := by rfl) (hc : c < 2 ^ 31 := by omega) : upd (go_M b) e.toNatClampNeg (go_M b e.toNatClampNeg &&& (((1 : Int32) <<< (nI p &&& 31)) ^^^ (-1))) = go_M (go_up b (c * 16 + p) false) := by
  subst he
  rw [nI_clamp hc]
  exact go_Mclr b c p hp
theorem go_uMz {e : Int32} (b : Nat → Bool) (c : Nat) (he : e = nI c := by rfl) (hc : c < 2 ^ 31 := by omega) : upd (go_M b) e.toNatClampNeg 0 = go_M (go_z b false (c * 16) (c * 16 + 16)) := by
  subst he
  rw [nI_clamp hc]
  exact go_Mz b c
theorem go_brM {e : Int32} {A B : Prop} (b : Nat → Bool) (c p : Nat) (hp : p < 16) (f : b (c * 16 + p) = false → A) (g : b (c * 16 + p) = true → B) (he : e = nI c := by rfl) (hc : c < 2 ^ 31 := by omega) : ((go_M b e.toNatClampNeg &&& ((1 : Int32) <<< (nI p &&& 31))) = 0 → A) ∧ (¬ (go_M b e.toNatClampNeg &&& ((1 : Int32) <<< (nI p &&& 31))) = 0 → B) := by
  subst he
  rw [nI_clamp hc]
  cases h : b (c * 16 + p) with
  | false => exact br_t ((go_Mt b c p hp).mpr h) (f h)
  | true => exact br_f (fun z => by rw [(go_Mt b c p hp).mp z] at h; exact absurd h (by decide)) (g h)
theorem go_brb {A B : Prop} (m p : Nat) (hp : p < 16) (f : bt (nI m) p = false → A) (g : bt (nI m) p = true → B) : ((nI m &&& ((1 : Int32) <<< (nI p &&& 31))) = 0 → A) ∧ (¬ (nI m &&& ((1 : Int32) <<< (nI p &&& 31))) = 0 → B) := by
  cases h : bt (nI m) p with
  | false => exact br_t ((go_bm m p hp).mpr h) (f h)
  | true => exact br_f (fun z => by rw [(go_bm m p hp).mp z] at h; exact absurd h (by decide)) (g h)
theorem go_brS {e : Int32} {A B : Prop} {U : Nat → Bool} {C : Nat → Nat} (I : go_IS U C) (s : Nat) (f : U s = false → A) (g : U s = true → B) (he : e = nI s := by rfl) (hs : s < 2 ^ 31 := by omega) : (go_S U C e.toNatClampNeg = 0 → A) ∧ (¬ go_S U C e.toNatClampNeg = 0 → B) := by
  cases h : U s with
  | false => exact br_t ((go_S0 I s he hs).mpr h) (f h)
  | true => exact br_f (fun z => by rw [(go_S0 I s he hs).mp z] at h; exact absurd h (by decide)) (g h)
theorem go_uSt {e v : Int32} (U : Nat → Bool) (C : Nat → Nat) (s c : Nat) (hv : v = nI c) (he : e = nI s := by rfl) (hs : s < 2 ^ 31 := by omega) : upd (go_S U C) e.toNatClampNeg v = go_S (go_up U s true) (go_up C s c) := by
  subst he hv
  rw [nI_clamp hs]
  exact go_St U C s c
theorem go_uSf {e : Int32} (U : Nat → Bool) (C : Nat → Nat) (s : Nat) (he : e = nI s := by rfl) (hs : s < 2 ^ 31 := by omega) : upd (go_S U C) e.toNatClampNeg 0 = go_S (go_up U s false) C := by
  subst he
  rw [nI_clamp hs]
  exact go_Sf U C s
theorem go_rS {e : Int32} {U : Nat → Bool} {C : Nat → Nat} (s : Nat) (h : U s = true) (he : e = nI s := by rfl) (hs : s < 2 ^ 31 := by omega) : go_S U C e.toNatClampNeg = nI (C s) := by
  subst he
  rw [nI_clamp hs]
  unfold go_S
  rw [h]
  rfl
theorem go_d24 {c : Nat} (hc : c < 2 ^ 31) : nI c >>> ((24 : Int32) &&& 31) = nI (c / 2 ^ 24) := pk_shrN hc _ 24 (by decide)
theorem go_d255 {c : Nat} (hc : c < 2 ^ 31) : (nI c >>> ((24 : Int32) &&& 31)) &&& 255 = nI (c / 2 ^ 24) := by
  rw [go_d24 hc, pk_andN (by omega) 8 (by decide), Nat.mod_eq_of_lt (by omega)]
theorem go_d20 {c : Nat} (hc : c < 2 ^ 31) : (nI c >>> ((20 : Int32) &&& 31)) &&& 15 = nI (c / 2 ^ 20 % 2 ^ 4) := by
  rw [pk_shrN hc _ 20 (by decide), pk_andN (by omega) 4 (by decide)]
theorem go_d16 {c : Nat} (hc : c < 2 ^ 31) : (nI c >>> ((16 : Int32) &&& 31)) &&& 15 = nI (c / 2 ^ 16 % 2 ^ 4) := by
  rw [pk_shrN hc _ 16 (by decide), pk_andN (by omega) 4 (by decide)]
theorem go_d4 {c : Nat} (hc : c < 2 ^ 31) : (nI c >>> ((4 : Int32) &&& 31)) &&& 15 = nI (c / 2 ^ 4 % 2 ^ 4) := by
  rw [pk_shrN hc _ 4 (by decide), pk_andN (by omega) 4 (by decide)]
theorem go_d0 {c : Nat} (hc : c < 2 ^ 31) : nI c &&& 65535 = nI (c % 2 ^ 16) := pk_andN (by omega) 16 (by decide)
theorem go_dw {c : Nat} (hc : c < 2 ^ 31) : nI c &&& 15 = nI (c % 2 ^ 4) := pk_andN (by omega) 4 (by decide)
theorem go_0f : (0 : Int32) = nI 0 := rfl
theorem go_mz {e : Int32} (b : Nat → Bool) (c p : Nat) (hp : p < 16) (h : b (c * 16 + p) = false) (he : e = nI c := by rfl) (hc : c < 2 ^ 31 := by omega) : (go_M b e.toNatClampNeg &&& ((1 : Int32) <<< (nI p &&& 31))) = 0 := by
  rw [go_rM b c he hc]
  exact (go_Mt b c p hp).mpr h
theorem go_mn {e : Int32} (b : Nat → Bool) (c p : Nat) (hp : p < 16) (h : b (c * 16 + p) = true) (he : e = nI c := by rfl) (hc : c < 2 ^ 31 := by omega) : ¬ (go_M b e.toNatClampNeg &&& ((1 : Int32) <<< (nI p &&& 31))) = 0 := by
  rw [go_rM b c he hc, go_Mt b c p hp, h]
  decide
theorem go_ix4 (x i : Nat) : nI x * 4 + nI i = nI (x * 4 + i) := go_ix x 4 i
theorem go_ix8 (x i : Nat) : nI x * 8 + nI i = nI (x * 8 + i) := go_ix x 8 i
theorem go_ix16 (x i : Nat) : nI x * 16 + nI i = nI (x * 16 + i) := go_ix x 16 i
