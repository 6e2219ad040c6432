/-! theirs: wears, wear -/
def meN (X : Nat → Nat) : Nat → Nat
  | 0 => 0
  | j + 1 => if meN X j < X (36 + j) then X (36 + j) else meN X j
def feN (X : Nat → Nat) : Nat := X (36 + (leN X 9 (X 0) - 1))
def wcS (p : (Nat → Nat) × Nat) : (Nat → Nat) × Nat := (ux p.1 (36 + p.2) (p.1 (36 + p.2) + 1), leN p.1 p.2 (p.1 0) - 1)
def wcN (X : Nat → Nat) (u : Nat) : Nat → (Nat → Nat) × Nat
  | 0 => (X, u)
  | k + 1 => wcS (wcN X u k)
noncomputable def wsB (X : Nat → Nat) (x1 x2 : Int32) : Int32 := itp (X 2 = 1 ∧ tn x1 ≤ 1000 ∧ tn x2 ≤ 2) (if x2 = 2 then nI (wcN X (X 3) (tn x1)).2 else if x2 = 0 then nI (meN (wcN X (X 3) (tn x1)).1 (X 0)) else nI (feN (wcN X (X 3) (tn x1)).1)) (-1)
section CO
variable {σ : Rg} {μ : Ar} {σb : Rg} {μb : Ar} {X : Nat → Nat} {N k : Nat}
theorem meN_le (hB : XB N X) : ∀ j, j ≤ 6 → meN X j ≤ N
  | 0, _ => Nat.zero_le _
  | j + 1, h => by
    have h1 := meN_le hB j (by omega)
    have h2 := hB.2.2.2.2.2.2.2.2.2 (36 + j) (by omega) (by omega)
    unfold meN
    split
    · exact h2
    · exact h1
theorem sc_mostErases (hS : RCs σ X) (hb : RCb μ X) (hB : XB N X) (hN : N < 2 ^ 30) {Q : Int32 → Rg → Ar → Prop} (hQ : Q (nI (meN X (X 0))) σ μ) : wp_X1_mostErases σ μ Q := by
  have b6 := hB.2.1
  have key : ∀ d j, j + d = X 0 → wl_X1_mostErases_4 Q (d + 1) σ μ (nI (meN X j)) (nI j) := by
    intro d
    induction d with
    | zero =>
      intro j hj
      have e : j = X 0 := by omega
      subst e
      exact pk_le (X 0) (X 0) (fun _ => hQ) (fun z => absurd z (by omega)) hS.1 rfl
    | succ d ih =>
      intro j hj
      have n1 := meN_le hB j (by omega)
      have n2 := hB.2.2.2.2.2.2.2.2.2 (36 + j) (by omega) (by omega)
      refine pk_le (X 0) j (fun z => absurd z (by omega)) (fun _ => ⟨pk_in j 6 (by omega) rfl, fun y ey y2 ey2 => ?_⟩) hS.1 rfl
      rw [nI_clamp (by omega), hb.2 j (by omega)] at ey
      have eq : y = nI (meN X (j + 1)) := by
        rw [ey]
        show _ = nI (if meN X j < X (36 + j) then X (36 + j) else meN X j)
        by_cases g : meN X j < X (36 + j)
        · rw [if_pos g, if_pos (nI_lt g (by omega))]
        · rw [if_neg g, if_neg (fun c => g ((nI_ltI (by omega) (by omega)).mp c))]
      rw [eq, ey2, i_p1]
      exact ih (j + 1) (by omega)
  exact ⟨X 0 + 1, key (X 0) 0 (by omega)⟩
theorem sc_fewestErases (hS : RCs σ X) (hb : RCb μ X) (hB : XB N X) (hN : N < 2 ^ 30) {Q : Int32 → Rg → Ar → Prop} (hQ : Q (nI (feN X)) σ μ) : wp_X1_fewestErases σ μ Q := by
  have b0 := hB.1
  have hle := leN_le X 9 (X 0)
  refine sc_leastErased hS hb hB hN (u := 9) (fun j hj => ⟨fun z => absurd (by rw [z]; decide) (nI_pos (n := j) (by omega)), fun z => absurd z (by omega)⟩) ?_
  exact sc_erasesOf hS hb hB (s := leN X 9 (X 0) - 1) (by omega) hQ rfl
theorem sc_allErases (hS : RCs σ X) (hb : RCb μ X) (hB : XB N X) {Q : Int32 → Rg → Ar → Prop} (hQ : Q (nI (eaN X (X 0))) σ μ) : wp_X1_allErases σ μ Q := by
  have b6 := hB.2.1
  have key : ∀ d j, j + d = X 0 → wl_X1_allErases_4 Q (d + 1) σ μ (nI (eaN X j)) (nI j) := by
    intro d
    induction d with
    | zero =>
      intro j hj
      have e : j = X 0 := by omega
      subst e
      exact pk_le (X 0) (X 0) (fun _ => hQ) (fun z => absurd z (by omega)) hS.1 rfl
    | succ d ih =>
      intro j hj
      refine pk_le (X 0) j (fun z => absurd z (by omega)) (fun _ => ⟨pk_in j 6 (by omega) rfl, fun y ey y2 ey2 => ?_⟩) hS.1 rfl
      rw [nI_clamp (by omega), hb.2 j (by omega), nI_add] at ey
      rw [ey, ey2, i_p1]
      exact ih (j + 1) (by omega)
  exact ⟨X 0 + 1, key (X 0) 0 (by omega)⟩
theorem wcN_I (hB : XB N X) {u : Nat} (hu : u < X 0) : ∀ k, XB (N + k) (wcN X u k).1 ∧ (wcN X u k).2 < X 0 ∧ (wcN X u k).2 < 6 ∧ ∀ q, q < 36 ∨ 42 ≤ q → (wcN X u k).1 q = X q
  | 0 => ⟨hB, hu, by have := hB.2.1; show u < 6; omega, fun _ _ => rfl⟩
  | k + 1 => by
    obtain ⟨h1, h2, h3, h4⟩ := wcN_I hB hu k
    have b0 := hB.1
    have b6 := hB.2.1
    have e0 : (wcN X u k).1 0 = X 0 := h4 0 (by omega)
    have hle := leN_le (wcN X u k).1 (wcN X u k).2 ((wcN X u k).1 0)
    have hN := h1.2.2.2.2.2.2.2.2.2 (36 + (wcN X u k).2) (by omega) (by omega)
    refine ⟨?_, ?_, ?_, fun q hq => ?_⟩
    · exact xe_XB h1 (by omega) h3
    · show leN _ _ _ - 1 < X 0; omega
    · show leN _ _ _ - 1 < 6; omega
    · show ux _ _ _ q = _
      rw [ux_n (by omega)]; exact h4 q hq
theorem sc_wearOut (hS : RCs σ X) (hb : RCb μ X) (h0 : σ 0 = nI (X 3)) (hI : IX N X) (hN : N < 2 ^ 28) {n : Nat} (hn : n ≤ 1000) {Q : Rg → Ar → Prop} (hQ : ∀ σ' μ', RCs σ' (wcN X (X 3) n).1 → RCb μ' (wcN X (X 3) n).1 → σ' 0 = nI (wcN X (X 3) n).2 → Q σ' μ') {x : Int32} (hx : x = nI n) : wp_X4_wearOut σ μ x Q := by
  subst hx
  have hB := hI.1
  have b6 := hB.2.1
  have h3 := hI.2.1
  have key : ∀ d j, j + d = n → ∀ σ1 μ1, RCs σ1 (wcN X (X 3) j).1 → RCb μ1 (wcN X (X 3) j).1 → σ1 0 = nI (wcN X (X 3) j).2 → wl_X4_wearOut_2 Q (d + 1) σ1 μ1 (nI n) (nI j) := by
    intro d
    induction d with
    | zero =>
      intro j hj σ1 μ1 S1 B1 c0
      have e : j = n := by omega
      subst e
      exact pk_le j j (fun _ => hQ σ1 μ1 S1 B1 c0) (fun z => absurd z (by omega)) rfl rfl
    | succ d ih =>
      intro j hj σ1 μ1 S1 B1 c0
      obtain ⟨w1, w2, w3, w4⟩ := wcN_I hB h3 j
      have e0 : (wcN X (X 3) j).1 0 = X 0 := w4 0 (by omega)
      have b0 := hB.1
      have hle := leN_le (wcN X (X 3) j).1 (wcN X (X 3) j).2 ((wcN X (X 3) j).1 0)
      have st := ih (j + 1) (by omega)
      rw [show wcN X (X 3) (j + 1) = wcS (wcN X (X 3) j) from rfl] at st
      unfold wcS at st
      refine pk_le n j (fun z => absurd z (by omega)) (fun _ => ?_) rfl rfl
      generalize (wcN X (X 3) j).1 = Y at *
      generalize (wcN X (X 3) j).2 = u at *
      refine sc_leastErased S1 B1 w1 (by omega) (u := u) (fun i hi => by rw [c0]; exact nI_eq (by omega) (by omega)) ?_
      refine sc_hasSector S1.1 (by omega) (fun _ => ⟨fun z => absurd z (by decide), fun _ => ?_⟩) (fun g => absurd (by rw [c0, tn_nI (by omega), e0]; exact w2) g)
      refine sc_hasSector S1.1 (by omega) (fun _ => ⟨fun z => absurd z (by decide), fun _ => ?_⟩) (fun g => absurd (by rw [tn_nI (by omega)]; omega) g)
      have vin : vp_in (σ1 0) 6 := pk_in u 6 w3 c0
      refine ⟨vin, vin, fun μ2 e2 σ2 e3 y ey => ?_⟩
      rw [c0, nI_clamp (by omega), B1.2 u (by omega), i_p1] at e2
      rw [ey, i_p1]
      refine st σ2 μ2 ?_ ⟨fun s p q1 q2 => ?_, fun s q1 => ?_⟩ (by rw [e3, up_s])
      · dsimp only
        exact (S1.fs (fun q hq => by rw [e3, up_n (by omega)])).xs (fun q hq => ux_n (by omega))
      · dsimp only at q1 q2 ⊢
        rw [ux_n (by omega)] at q1 q2 ⊢
        rw [e2, ua_n (by omega), B1.1 s p q1 q2]
        unfold bt
        rw [ux_n (by omega)]
      · dsimp only at q1 ⊢
        rw [ux_n (by omega)] at q1
        rw [e2, ua_s]
        by_cases g : s = u
        · rw [g, up_s, ux_s]
        · rw [up_n g, ux_n (by omega)]; exact B1.2 s q1
  exact ⟨n + 1, key n 0 (by omega) σ μ hS hb h0⟩
theorem cf_wears (hC : RCn σ μ X) (hI : IX N X) (hN : N < 2 ^ 28) {x1 x2 : Int32} {Q : Int32 → Rg → Ar → Rg → Ar → Prop} (hQ : ∀ σ' μ' σb' μb', RCn σ' μ' X → Q (wsB X x1 x2) σ' μ' σb' μb') : wp_X5_wears σ μ σb μb x1 x2 Q := by
  have hB := hI.1
  have h3 := hI.2.1
  unfold wsB at hQ
  refine sc_isOn hC hI (fun e => ⟨fun z => absurd z (by decide), fun _ => ?_⟩) (fun e => ⟨fun _ => ?_, fun z => absurd rfl z⟩)
  rotate_left
  · rw [itp_neg (fun c => absurd (c.1.symm.trans e) (by decide))] at hQ; exact hQ σ μ σb μb hC
  refine sc_win (lo := 0) (hi := 1000) (by omega) (by omega) rfl rfl (fun _ a1 => ⟨fun z => absurd z (by decide), fun _ => ?_⟩) (fun g => ⟨fun _ => ?_, fun z => absurd rfl z⟩)
  rotate_left
  · rw [itp_neg (fun c => g ⟨Nat.zero_le _, c.2.1⟩)] at hQ; exact hQ σ μ σb μb hC
  refine sc_win (lo := 0) (hi := 2) (by omega) (by omega) rfl rfl (fun _ a2 => ⟨fun _ => ?_, fun z => absurd z (by decide)⟩) (fun g => ⟨fun z => absurd rfl z, fun _ => ?_⟩)
  rotate_left
  · rw [itp_neg (fun c => g ⟨Nat.zero_le _, c.2.2⟩)] at hQ; exact hQ σ μ σb μb hC
  rw [itp_pos ⟨e, a1, a2⟩] at hQ
  refine sc_copyAll hC hI (fun σ1 μ1 S1 B1 c0 c1 c7 c15 => ?_)
  refine sc_wearOut S1 B1 (by rw [c0]; exact (hC.2.2.1 e).1) hI hN a1 (fun σ2 μ2 S2 B2 d0 => ?_) (tn_e x1)
  obtain ⟨w1, w2, w3, w4⟩ := wcN_I hB h3 (tn x1)
  have e0 : (wcN X (X 3) (tn x1)).1 0 = X 0 := w4 0 (by omega)
  refine ⟨fun z2 => ?_, fun z2 => ?_⟩
  · rw [if_neg z2] at hQ
    refine ⟨fun z0 => ?_, fun z0 => ?_⟩
    · rw [if_neg z0] at hQ
      exact sc_fewestErases S2 B2 w1 (by omega) (hQ σ μ σ2 μ2 hC)
    · rw [if_pos z0] at hQ
      refine sc_mostErases S2 B2 w1 (by omega) ?_
      rw [e0]; exact hQ σ μ σ2 μ2 hC
  · rw [if_pos z2] at hQ
    rw [d0]; exact hQ σ μ σ2 μ2 hC
theorem sc_bitsOf {x : UInt32} (hx : NN x) {Q : Int32 → Prop} (hQ : ∀ r, Q r) : wp_X5_bitsOf x Q := by
  have c59 : ∀ v w, NN v → wb_X5_bitsOf_59 Q v w := fun v w hv => by
    have g1 := sub_gd hv FN_1
    exact ⟨g1, mul_gd (NN_of g1) FN_23, hQ _⟩
  have l34 : ∀ d j v w, j + d = 126 → NN v → wl_X5_bitsOf_34 Q (d + 1) v w (nI j) := by
    intro d
    induction d with
    | zero =>
      intro j v w hj hv
      have e : j = 126 := by omega
      subst e
      exact pk_le 126 126 (fun _ => c59 v w hv) (fun z => absurd z (by omega)) rfl rfl
    | succ d ih =>
      intro j v w hj hv
      refine pk_le 126 j (fun z => absurd z (by omega)) (fun _ => ⟨fun _ => c59 v w hv, fun _ => ⟨mul_gd hv FN_2, fun y ey y2 ey2 y3 ey3 => ?_⟩⟩) rfl rfl
      rw [ey3, i_p1]
      exact ih (j + 1) y y2 (by omega) (by rw [ey]; exact NN_of (mul_gd hv FN_2))
  have c32 : ∀ v w, NN v → wb_X5_bitsOf_32 Q v w := fun v w hv => ⟨127, l34 126 0 v w (by omega) hv⟩
  have l7 : ∀ d j v w, j + d = 126 → NN v → wl_X5_bitsOf_7 Q (d + 1) v w (nI j) := by
    intro d
    induction d with
    | zero =>
      intro j v w hj hv
      have e : j = 126 := by omega
      subst e
      exact pk_le 126 126 (fun _ => c32 v w hv) (fun z => absurd z (by omega)) rfl rfl
    | succ d ih =>
      intro j v w hj hv
      refine pk_le 126 j (fun z => absurd z (by omega)) (fun _ => ⟨fun _ => c32 v w hv, fun _ => ⟨div2_gd hv FN_2, fun y ey y2 ey2 y3 ey3 => ?_⟩⟩) rfl rfl
      rw [ey3, i_p1]
      exact ih (j + 1) y y2 (by omega) (by rw [ey]; exact NN_of (div2_gd hv FN_2))
  exact ⟨127, l7 126 0 x 127 (by omega) hx⟩
theorem me_pos (X : Nat → Nat) : ∀ j, eaN X j ≠ 0 → meN X j ≠ 0
  | 0, h => absurd rfl h
  | j + 1, h => by
    change eaN X j + X (36 + j) ≠ 0 at h
    unfold meN
    split
    · omega
    · rename_i g
      by_cases h0 : eaN X j = 0
      · omega
      · exact me_pos X j h0
/-- wear, what it answers but for the float -/
noncomputable def weB (X : Nat → Nat) (x : Int32) : Int32 := if x = 0 then nI (meN X (X 0)) else if x = 1 then nI (feN X) else if x = 2 then nI (eaN X (X 0)) else if x = 3 then nI (X 9) else -1
theorem cf_wear (hC : RCn σ μ X) (hI : IX N X) (hN : N < 2 ^ 20) {x : Int32} {Q : Int32 → Rg → Ar → Rg → Ar → Prop} (hQ : ∀ r σ' μ', RCn σ' μ' X → (x ≠ 4 → r = weB X x) → Q r σ' μ' σb μb) : wp_X5_wear σ μ σb μb x Q := by
  have hB := hI.1
  have b0 := hB.1
  have b6 := hB.2.1
  have S := hC.1.1
  have B := hC.1.2
  refine ⟨fun z => hQ _ σ μ hC (fun _ => ?_), fun z => ?_, fun z => ?_, fun z => ?_, fun z => ?_, fun z => ?_⟩
  · unfold weB
    rw [if_neg (fun c => by subst c; revert z; decide), if_neg (fun c => by subst c; revert z; decide), if_neg (fun c => by subst c; revert z; decide), if_neg (fun c => by subst c; revert z; decide)]
  · exact sc_mostErases S B hB (by omega) (hQ _ σ μ hC (fun _ => by rw [z]; rfl))
  · exact sc_fewestErases S B hB (by omega) (hQ _ σ μ hC (fun _ => by rw [z]; rfl))
  · exact sc_allErases S B hB (hQ _ σ μ hC (fun _ => by rw [z]; rfl))
  · exact hQ _ σ μ hC (fun _ => by rw [z, S.2.2.1]; rfl)
  · have any : ∀ r, Q r σ μ σb μb := fun r => hQ r σ μ hC (fun c => absurd z c)
    have hle := eaN_le hB (X 0) b6
    have hle6 : N * X 0 ≤ N * 6 := Nat.mul_le_mul_left _ b6
    have hme := meN_le hB (X 0) b6
    refine sc_allErases S B hB (pk_le (eaN X (X 0)) 0 (fun _ => any _) (fun g => ?_) rfl rfl)
    rw [S.1]
    refine ⟨fun _ => ?_, fun c => absurd (nI_lt (a := 0) (b := X 0) (by omega) (by omega)) c⟩
    have f1 : FN (FP.i2f (nI (eaN X (X 0)))) := i2f_FN (by omega) (by omega)
    have f2 : FN (FP.i2f (nI (X 0))) := i2f_FN (by omega) (by omega)
    have hp := me_pos X (X 0) (by omega)
    have f3 : FN (FP.i2f (nI (meN X (X 0)))) := i2f_FN (by omega) (by omega)
    have g1 := div_gd f1 f2.nn
    refine ⟨g1, fun y ey => sc_mostErases S B hB (by omega) ?_⟩
    rw [ey]
    have g2 := div_gd f3 (NN_of g1)
    exact ⟨g2, sc_bitsOf (NN_of g2) any⟩
end CO
