/-! the reference: history, tags, extreme, wears, wear -/
section MU
variable {σ : Rg} {μ : Ar} {X : Nat → Nat} {N : Nat}
theorem sm_isOf {s k : Nat} (hR : RM μ X) (hB : XB N X) (hs : s < 6) (hD : RD X s σ μ) (hk : k < nE X s) {x : Int32} {Q : Int32 → Rg → Ar → Prop} (hx : tn x ≤ 47) (h1 : isof X s k (tn x) → Q 1 σ μ) (h0 : ¬ isof X s k (tn x) → Q 0 σ μ) : wp_X6_isOf σ μ (nI s) (nI k) x Q := by
  have b1 := hB.2.2.2.1
  have hE := nE_le (X := X) (s := s) b1
  obtain ⟨p2, p3, p4⟩ := hD.1.2 k hk
  have p5 := hD.2.2.2.2 k hk
  have hen := ent hB hk
  have hge := sz_ge X s (ps X s k)
  have vin : vp_in (nI k) 64 := pk_in k 64 (by omega) rfl
  refine ⟨vin, ?_⟩
  have ek : (nI k).toNatClampNeg = k := nI_clamp (by omega)
  rw [ek, p2]
  have hb := hB.b (s := s) (p := ps X s k) hs (by omega)
  have st2le : st2 X s k < 2 ^ 31 := by
    unfold st2 itp
    split
    · omega
    · have := st1_le X s (nE X s) k; omega
  refine sm_byteAt hR hs (by omega) (And.comm.mp (pk_eq (bt X s (ps X s k)) (tn x) (fun zt => ⟨vin, ?_⟩) (fun zt => ⟨bz0, h0 (fun c => zt c.1)⟩) rfl (tn_e x)))
  rw [p3]
  refine pk_eq (kd X s (ps X s k)) 3 (fun z3 => ⟨bz0, h0 (fun c => c.2.1 z3)⟩) (fun z3 => ⟨vin, ?_⟩) rfl rfl (by have := kd_le X s (ps X s k); omega)
  rw [p5]
  exact pk_le 2 (st2 X s k) (fun z => ⟨bz0, h0 (fun c => absurd c.2.2 (by omega))⟩) (fun z => ⟨bz1, h1 ⟨zt, z3, z⟩⟩) rfl rfl
theorem sm_history (hR : RM μ X) (hI : IX N X) {x1 x2 : Int32} {Q : Int64 → Rg → Ar → Prop} (hQ : ∀ σ' μ', RM μ' X → σ' 0 = 0 → Q (hsA X x1 x2) σ' μ') : wp_X6_history σ μ x1 x2 Q := by
  intro σ2 e2
  have K2 := K0 e2
  have hB := hI.1
  have b6 := hB.2.1
  have b1 := hB.2.2.2.1
  have h3 := hI.2.1
  unfold hsA at hQ
  refine sm_isOn hR hB.2.2.2.2.1 (fun e => ⟨fun z => absurd z (by decide), fun _ => ?_⟩) (fun e => ⟨fun _ => ?_, fun z => absurd rfl z⟩)
  rotate_left
  · rw [itp_neg (fun c => absurd (c.1.symm.trans e) (by decide))] at hQ; exact hQ σ2 μ hR K2
  refine sm_isTag (fun a => ⟨fun z => absurd z (by decide), fun _ => ?_⟩) (fun a => ⟨fun _ => ?_, fun z => absurd rfl z⟩)
  rotate_left
  · rw [itp_neg (fun c => a c.2.1)] at hQ; exact hQ σ2 μ hR K2
  refine ⟨fun z2 y ey => ?_, fun z2 => ?_⟩
  rotate_left
  · rw [itp_neg (fun c => z2 c.2.2)] at hQ; exact hQ σ2 μ hR K2
  rw [itp_pos ⟨e, a, z2⟩] at hQ
  rw [ey, hR 3 (by omega)]
  refine sm_reads hR hB (by omega) (fun σ3 μ3 F3 G3' D3 y2 ey2 => ⟨nE X (X 3) + 1, ?_⟩)
  have R3 := F3.RM hR
  have k3 : σ3 0 = 0 := (G3' 0 (by omega) (by omega) (by omega)).trans K2
  have hq := hQ σ3 μ3 R3 k3
  have hE := nE_le (X := X) (s := X 3) b1
  have key : ∀ k, k ≤ nE X (X 3) → ∀ met, met + k ≤ nE X (X 3) → Q (hsF X (X 3) (tn x1) x2 k met) σ3 μ3 → wl_X6_history_52 Q (k + 1) σ3 μ3 x1 x2 (nI (X 3)) (nI met) (nI k - 1) := by
    intro k
    induction k with
    | zero =>
      intro hk met hm hh
      refine ⟨fun _ => ⟨fun z => ?_, fun z => ?_⟩, fun z => absurd (show nI 0 - 1 < 0 by decide) z⟩
      · have : hsF X (X 3) (tn x1) x2 0 met = -5 := if_neg z
        rw [this] at hh; exact hh
      · have : hsF X (X 3) (tn x1) x2 0 met = (nI met).toInt64 := if_pos z
        rw [this] at hh; exact hh
    | succ k ih =>
      intro hk met hm hh
      rw [nI_pred]
      refine ⟨fun z => absurd z (nI_pos (by omega)), fun _ => ?_⟩
      have e1 : nI k + (-1 : Int32) = nI k - 1 := (Int32.sub_eq_add_neg (nI k) 1).symm
      refine sm_isOf R3 hB (by omega) D3 (by omega) a (fun c => ⟨fun _ => ?_, fun z => absurd z (by decide)⟩) (fun c => ⟨fun z => absurd rfl z, fun _ => ?_⟩)
      · have eh : hsF X (X 3) (tn x1) x2 (k + 1) met = if nI met = x2 then vlL X (X 3) k else hsF X (X 3) (tn x1) x2 k (met + 1) := by show itp _ _ _ = _; rw [itp_pos c]
        rw [eh] at hh
        refine ⟨fun z y3 ey3 => ?_, fun z => ?_⟩
        · rw [if_neg z] at hh
          rw [ey3, i_p1]
          intro y4 ey4
          rw [ey4, e1]
          exact ih (by omega) (met + 1) (by omega) hh
        · rw [if_pos z] at hh
          exact sm_valueOf (R3.rt (s := X 3) (by omega)) hB (by omega) D3.1 (by omega) c.2.1 hh
      · have eh : hsF X (X 3) (tn x1) x2 (k + 1) met = hsF X (X 3) (tn x1) x2 k met := by show itp _ _ _ = _; rw [itp_neg c]
        rw [eh] at hh
        intro y4 ey4
        rw [ey4, e1]
        exact ih (by omega) met (by omega) hh
  rw [ey2, D3.1.1]
  exact key (nE X (X 3)) (Nat.le_refl _) 0 (by omega) hq
theorem sm_tags (hR : RM μ X) (hI : IX N X) {Q : Int64 → Rg → Ar → Prop} (hQ : ∀ σ' μ', RM μ' X → σ' 0 = 0 → Q (tgA X) σ' μ') : wp_X6_tags σ μ Q := by
  intro σ2 e2
  have K2 := K0 e2
  have hB := hI.1
  have b6 := hB.2.1
  have h3 := hI.2.1
  unfold tgA at hQ
  refine sm_isOn hR hB.2.2.2.2.1 (fun e => ⟨fun _ => ?_, fun z => absurd z (by decide)⟩) (fun e => ⟨fun z => absurd rfl z, fun _ => ?_⟩)
  rotate_left
  · rw [if_neg (by omega)] at hQ; exact hQ σ2 μ hR K2
  rw [if_pos e] at hQ
  rw [hR 3 (by omega)]
  refine sm_reads hR hB (by omega) (fun σ3 μ3 F3 G3' D3 => ⟨49, ?_⟩)
  have R3 := F3.RM hR
  have hq := hQ σ3 μ3 R3 ((G3' 0 (by omega) (by omega) (by omega)).trans K2)
  have key : ∀ d t, t + d = 48 → wl_X6_tags_30 Q (d + 1) σ3 μ3 (tgN X (X 3) t) (nI t) := by
    intro d
    induction d with
    | zero =>
      intro t ht
      have e : t = 48 := by omega
      subst e
      exact pk_le 48 48 (fun _ => hq) (fun z => absurd z (by omega)) rfl rfl
    | succ d ih =>
      intro t ht
      refine pk_le 48 t (fun z => absurd z (by omega)) (fun _ => ?_) rfl rfl
      rw [R3 3 (by omega)]
      have st : wb_X6_tags_56 Q (wl_X6_tags_30 Q (d + 1)) σ3 μ3 (tgN X (X 3) (t + 1)) (nI t) := fun y ey => by
        rw [ey, i_p1]; exact ih (t + 1) (by omega)
      refine sm_hasValue (R3.rt (s := X 3) (by omega)) hB (by omega) (by omega) D3 (fun g => ⟨fun z => absurd z (by decide), fun _ y ey => ?_⟩) (fun g => ⟨fun _ => ?_, fun z => absurd rfl z⟩)
      · rw [ey]
        rw [show tgN X (X 3) (t + 1) = (tgN X (X 3) t ||| ((1 : Int64) <<< ((nI t).toInt64 &&& 63))) from by show itp _ _ _ = _; rw [itp_pos g]] at st
        exact st
      · rw [show tgN X (X 3) (t + 1) = tgN X (X 3) t from by show itp _ _ _ = _; rw [itp_neg g]] at st
        exact st
  exact key 48 0 (by omega)
theorem exB_le (X : Nat → Nat) (m : Int32) : ∀ d, exB X m d ≤ d
  | 0 => Nat.le_refl _
  | d + 1 => by
    have := exB_le X m d
    unfold exB
    (repeat' split) <;> omega
theorem sm_extreme (hR : RM μ X) (hB : XB N X) (hN : N < 2 ^ 30) {m : Int32} {Q : Int32 → Rg → Ar → Prop} (hQ : Q (nI (exV X m)) σ μ) : wp_X6_extreme σ μ m Q := by
  have b0 := hB.1
  have b6 := hB.2.1
  have hk := hB.2.2.2.2.2.2.2.2.2
  have key : ∀ d j, j + d + 1 = X 0 → wl_X6_extreme_4 Q (d + 1) σ μ m (nI (exB X m j)) (nI (j + 1)) := by
    intro d
    induction d with
    | zero =>
      intro j hj
      have hle := exB_le X m j
      refine pk_le (X 0) (j + 1) (fun _ => ⟨pk_in _ 810 (by omega) (i_36 _), ?_⟩) (fun z => absurd z (by omega)) (hR 0 (by omega)) rfl
      rw [i_36, nI_clamp (by omega), hR _ (by omega)]
      have : X (36 + exB X m j) = exV X m := by unfold exV; rw [show X 0 - 1 = j by omega]
      rw [this]; exact hQ
    | succ d ih =>
      intro j hj
      have hle := exB_le X m j
      have n1 := hk (36 + exB X m j) (by omega) (by omega)
      have n2 := hk (36 + (j + 1)) (by omega) (by omega)
      refine pk_le (X 0) (j + 1) (fun z => absurd z (by omega)) (fun _ => ?_) (hR 0 (by omega)) rfl
      have st := ih (j + 1) (by omega)
      rw [i_36, i_36, nI_clamp (by omega), nI_clamp (by omega), hR _ (by omega), hR _ (by omega)]
      have go : ∀ b, exB X m (j + 1) = b → wb_X6_extreme_65 Q (wl_X6_extreme_4 Q (d + 1)) σ μ m (nI b) (nI (j + 1)) := fun b eb y ey => by
        rw [ey, i_p1, ← eb]; exact st
      refine ⟨fun z => ⟨pk_in _ 810 (by omega) rfl, pk_in _ 810 (by omega) rfl, ?_⟩, fun z => ⟨pk_in _ 810 (by omega) rfl, pk_in _ 810 (by omega) rfl, ?_⟩⟩
      · refine pk_le (X (36 + exB X m j)) (X (36 + (j + 1))) (fun g => go _ ?_) (fun g => go _ ?_) rfl rfl
        · show (if m = 0 then _ else _) = _
          rw [if_pos z, if_pos g]
        · show (if m = 0 then _ else _) = _
          rw [if_pos z, if_neg (by omega)]
      · refine pk_le (X (36 + (j + 1))) (X (36 + exB X m j)) (fun g => go _ ?_) (fun g => go _ ?_) rfl rfl
        · show (if m = 0 then _ else _) = _
          rw [if_neg z, if_pos g]
        · show (if m = 0 then _ else _) = _
          rw [if_neg z, if_neg (by omega)]
  exact ⟨X 0 - 1 + 1, key (X 0 - 1) 0 (by omega)⟩
theorem eaN_le (hB : XB N X) : ∀ j, j ≤ 6 → eaN X j ≤ N * j
  | 0, _ => Nat.le_refl _
  | j + 1, h => by
    have := eaN_le hB j (by omega)
    have h2 := hB.2.2.2.2.2.2.2.2.2 (36 + j) (by omega) (by omega)
    show eaN X j + X (36 + j) ≤ _
    rw [Nat.mul_succ]; omega
theorem sm_erasesOfAll (hR : RM μ X) (hB : XB N X) {Q : Int32 → Rg → Ar → Prop} (hQ : Q (nI (eaN X (X 0))) σ μ) : wp_X6_erasesOfAll σ μ Q := by
  have b6 := hB.2.1
  have key : ∀ d j, j + d = X 0 → wl_X6_erasesOfAll_4 Q (d + 1) σ μ (nI (eaN X j)) (nI j) := by
    intro d
    induction d with
    | zero =>
      intro j hj
      have e : j = X 0 := by omega
      subst e
      exact pk_le (X 0) (X 0) (fun _ => hQ) (fun z => absurd z (by omega)) (hR 0 (by omega)) rfl
    | succ d ih =>
      intro j hj
      refine pk_le (X 0) j (fun z => absurd z (by omega)) (fun _ => ⟨pk_in _ 810 (by omega) (i_36 _), fun y ey y2 ey2 => ?_⟩) (hR 0 (by omega)) rfl
      rw [i_36, nI_clamp (by omega), hR _ (by omega), nI_add] at ey
      rw [ey, ey2, i_p1]
      exact ih (j + 1) (by omega)
  exact ⟨X 0 + 1, key (X 0) 0 (by omega)⟩
theorem ea_ex (X : Nat → Nat) : ∀ d, eaN X (d + 1) ≠ 0 → X (36 + exB X 1 d) ≠ 0
  | 0, h => by
    change 0 + X (36 + 0) ≠ 0 at h
    show X (36 + 0) ≠ 0; omega
  | d + 1, h => by
    change eaN X (d + 1) + X (36 + (d + 1)) ≠ 0 at h
    show X (36 + (if (1 : Int32) = 0 then _ else _)) ≠ 0
    rw [if_neg (by decide)]
    split
    · rename_i g
      by_cases h0 : eaN X (d + 1) = 0
      · omega
      · exact ea_ex X d h0
    · omega
theorem fcmp_s {x : UInt32} (h : NN x) : Op.cmpValue (FP.fcmp x x) CmpOp.l = 0 := by
  have : FP.fcmp x x = some .eq := by
    show FP.Core.order (FP.Core.decode FP.Core.b32 x.toNat) (FP.Core.decode FP.Core.b32 x.toNat) = _
    unfold NN at h
    cases hd : FP.Core.decode FP.Core.b32 x.toNat with
    | nan => exact absurd hd h
    | inf s => cases s <;> rfl
    | fin s c q =>
      show some (compare _ _) = _
      rw [show compare (FP.Core.signed s (FP.Core.inUnits c q (min q q))) (FP.Core.signed s (FP.Core.inUnits c q (min q q))) = .eq from by simp]
  rw [this]; rfl
theorem sm_floatBits {x : UInt32} (h : NN x) {Q : Int32 → Prop} (hQ : Q (x).toInt32) : wp_Jxf58ca_floatToIntBits_5c35a x Q := by
  refine ⟨fun _ => ⟨bz0, fun z => absurd rfl z, fun _ => hQ⟩, fun z => absurd (fcmp_s h) z⟩
theorem exV_le (hB : XB N X) (m : Int32) : exV X m ≤ N := by
  have := exB_le X m (X 0 - 1)
  have b0 := hB.1
  have b6 := hB.2.1
  exact hB.2.2.2.2.2.2.2.2.2 _ (by omega) (by omega)
theorem sm_wear (hR : RM μ X) (hB : XB N X) (hN : N < 2 ^ 20) {x : Int32} {Q : Int32 → Rg → Ar → Prop} (hQ : ∀ σ' μ', RM μ' X → σ' 0 = 0 → Q (weA X x) σ' μ') : wp_X6_wear σ μ x Q := by
  intro σ2 e2
  have b0 := hB.1
  have b6 := hB.2.1
  have hq := hQ σ2 μ hR (K0 e2)
  unfold weA at hq
  refine ⟨fun z => ?_, fun z => ?_, fun z => ?_, fun z => ?_, fun z => ?_, fun z => ?_⟩
  · rw [if_neg (fun c => by subst c; revert z; decide), if_neg (fun c => by subst c; revert z; decide), if_neg (fun c => by subst c; revert z; decide), if_neg (fun c => by subst c; revert z; decide), if_neg (fun c => by subst c; revert z; decide)] at hq
    exact hq
  · subst z
    exact ⟨fun z => absurd rfl z, fun _ => sm_extreme hR hB (by omega) hq⟩
  · subst z
    exact ⟨fun _ => sm_extreme hR hB (by omega) hq, fun z => absurd z (by decide)⟩
  · subst z; exact sm_erasesOfAll hR hB hq
  · subst z; rw [hR 9 (by omega)]; exact hq
  · subst z
    rw [if_neg (by decide), if_neg (by decide), if_neg (by decide), if_neg (by decide), if_pos rfl] at hq
    have hle := eaN_le hB (X 0) b6
    have hle6 : N * X 0 ≤ N * 6 := Nat.mul_le_mul_left _ b6
    refine sm_erasesOfAll hR hB (And.comm.mp (pk_eq (eaN X (X 0)) 0 (fun z => ?_) (fun z => ?_) rfl rfl))
    · rw [if_pos z] at hq; exact hq
    · rw [if_neg z] at hq
      refine sm_extreme hR hB (by omega) (sm_erasesOfAll hR hB ?_)
      rw [hR 0 (by omega)]
      have f1 : FN (FP.i2f (nI (eaN X (X 0)))) := i2f_FN (by omega) (by omega)
      have f2 : FN (FP.i2f (nI (X 0))) := i2f_FN (by omega) (by omega)
      have hex := ea_ex X (X 0 - 1) (by rw [show X 0 - 1 + 1 = X 0 by omega]; exact z)
      have hexl := exV_le hB 1
      have f3 : FN (FP.i2f (nI (exV X 1))) := i2f_FN (by unfold exV; omega) (by omega)
      have g1 := div_gd f1 f2.nn
      have g2 := div_gd f3 (NN_of g1)
      exact ⟨g1, g2, sm_floatBits (NN_of g2) hq⟩
end MU
