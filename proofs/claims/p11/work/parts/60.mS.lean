/-! the reference: costs, torn -/
noncomputable def wcA (X : Nat → Nat) (n : Nat) : Int32 := ssA (ux X 4 0) 0 n 0
noncomputable def ctA (X : Nat → Nat) (x : Int32) : Int32 := itp (X 2 = 1 ∧ X 10 = 0 ∧ 1 ≤ tn x ∧ tn x ≤ 4) (wcA X (tn x)) (-1)
def tnG (X : Nat → Nat) (x1 x3 x4 x5 x6 : Int32) : Prop := stok X x1 x3 ∧ X 10 ≠ 1 ∧ tn x5 ≤ 255 ∧ tn x6 ≤ 3 ∧ ¬ x4 < 1 ∧ x4 ≤ wcA X (tn x3)
def tnX (X : Nat → Nat) (n m : Nat) : Nat → Nat := ux (ux X 4 n) 5 m
noncomputable def tnZ (X : Nat → Nat) (x1 x2 x3 x4 x5 : Int32) : Zt := swZ (ux (ssX (tnX X (tn x4) (tn x5)) (tn x1) (tn x3) x2) 8 0, false)
noncomputable def tnB (Z : Zt) (t : Nat) (x6 : Int32) : Int64 := if x6 = 0 then vnA Z.1 t else if x6 = 1 then (nI (Z.1 1 - frE Z.1 (Z.1 3))).toInt64 else if x6 = 3 then (nI (vdN Z.1 (Z.1 3) 48)).toInt64 else (nI (Z.1 8)).toInt64
noncomputable def tnA (X : Nat → Nat) (x1 x2 x3 x4 x5 x6 : Int32) : Int64 := itp (tnG X x1 x3 x4 x5 x6) (tnB (tnZ X x1 x2 x3 x4 x5) (tn x1) x6) (-1)
section MS
variable {σ : Rg} {μ : Ar} {X : Nat → Nat} {N : Nat}
theorem d8_go : goX X 8 = X 8 + 1 := by
  unfold goX
  split
  · rw [ux_s]
  · split
    · rw [ux_n (by omega), ux_n (by omega), ux_n (by omega), ux_n (by omega), ux_s]
    · rw [ux_n (by omega), ux_s]
theorem d8_wr {s p v : Nat} {Z : Zt} : (wr s p v Z).1 8 ≤ Z.1 8 + 1 := by
  unfold wr
  split
  · omega
  · show ux (goX (ux Z.1 9 (Z.1 9 + 1))) (42 + 128 * s + p) _ 8 ≤ _
    rw [ux_n (by omega), d8_go, ux_n (by omega)]; omega
theorem d8_er {s : Nat} {Z : Zt} : (er s Z).1 8 ≤ Z.1 8 + 1 := by
  unfold er
  split
  · omega
  · show (if 42 + 128 * s ≤ 8 ∧ 8 < 42 + 128 * s + erm Z.1 then 255 else goX (ux Z.1 (36 + s) (Z.1 (36 + s) + 1)) 8) ≤ _
    rw [if_neg (by omega), d8_go, ux_n (by omega)]; omega
theorem d8_lay {s : Nat} : ∀ (l : List Nat) (p : Nat) {Z : Zt}, (lay s p l Z).1 8 ≤ Z.1 8 + l.length
  | [], _, _ => Nat.le_refl _
  | v :: l, p, Z => by
    have h1 := d8_wr (s := s) (p := p) (v := v) (Z := Z)
    have h2 := d8_lay (s := s) l (p + 1) (Z := wr s p v Z)
    show (lay s (p + 1) l (wr s p v Z)).1 8 ≤ _
    rw [List.length_cons]; omega
theorem d8_mkr {s n : Nat} {Z : Zt} : (mkr s n Z).1 8 ≤ Z.1 8 + 4 := by
  unfold mkr
  have h1 := d8_wr (s := s) (p := 1) (v := n / 256) (Z := Z)
  have h2 := d8_wr (s := s) (p := 2) (v := n % 256) (Z := wr s 1 (n / 256) Z)
  have h3 := d8_wr (s := s) (p := 3) (v := (n / 256 + n % 256 + 85) % 251) (Z := wr s 2 (n % 256) (wr s 1 (n / 256) Z))
  have h4 := d8_wr (s := s) (p := 0) (v := 127) (Z := wr s 3 ((n / 256 + n % 256 + 85) % 251) (wr s 2 (n % 256) (wr s 1 (n / 256) Z)))
  omega
theorem eB_18 (X : Nat → Nat) (s t i : Nat) : (eB X s t i).length ≤ 18 := by
  have := eB_len X s t i
  by_cases g : kd X s (ps X s i) = 1
  · rw [if_pos g] at this; omega
  · rw [if_neg g] at this
    have h : ln X s i ≤ 15 := by unfold ln; rw [if_neg g]; omega
    omega
theorem d8_hoN {s n : Nat} {Z : Zt} : ∀ t, (hoN X s n t Z).1 8 ≤ Z.1 8 + 18 * t
  | 0 => Nat.le_refl _
  | t + 1 => by
    have ih := d8_hoN (s := s) (n := n) (Z := Z) t
    by_cases g : hv X s t
    · rw [hoN_hv g]
      have h1 := d8_lay (s := n) (eB X s t (nwt X s t - 1)) (szN X s t) (Z := hoN X s n t Z)
      have h2 := eB_18 X s t (nwt X s t - 1)
      omega
    · rw [hoN_no g]; omega
theorem d8_ho1 {Z : Zt} : (ho1 Z).1 8 ≤ Z.1 8 + 1 := by
  unfold ho1 itp
  split
  · omega
  · exact d8_er
theorem d8_hoZ {Z : Zt} : (hoZ Z).1 8 ≤ Z.1 8 + 900 := by
  have h4 : (ho4 Z).1 8 ≤ Z.1 8 + 900 := by
    have h1 := d8_ho1 (Z := Z)
    have h2 := d8_mkr (s := hon Z) (n := (nb Z.1 (Z.1 3) + 1) % 65536) (Z := ho1 Z)
    have h3 := d8_hoN (X := Z.1) (s := Z.1 3) (n := hon Z) (Z := ho2 Z) 48
    have h5 := d8_wr (s := hon Z) (p := 0) (v := 63) (Z := ho3 Z)
    have h6 := d8_er (s := Z.1 3) (Z := wr (hon Z) 0 63 (ho3 Z))
    unfold ho4
    change (ho2 Z).1 8 ≤ _ at h2
    change (ho3 Z).1 8 ≤ _ at h3
    omega
  unfold hoZ
  split
  · exact h4
  · show ux (ux (ho4 Z).1 3 (hon Z)) 7 ((ho4 Z).1 7 + 1) 8 ≤ _
    rw [ux_n (by omega), ux_n (by omega)]; exact h4
theorem d8_stZ {t n W : Nat} (hn : n ≤ 4) : (stZ X t n W).1 8 ≤ 1000 := by
  have h0 : (ux X 8 0) 8 = 0 := ux_s
  unfold stZ itp
  split
  · have h2 : (mrZ (3 + n) (ux X 8 0, false)).1 8 ≤ 900 := by
      unfold mrZ itp
      split
      · show (ux X 8 0) 8 ≤ _; omega
      · have := d8_hoZ (Z := (ux X 8 0, false)); change _ ≤ (ux X 8 0) 8 + 900 at this; omega
    unfold lyZ
    have := d8_lay (s := (mrZ (3 + n) (ux X 8 0, false)).1 3) (sB 16 t n W) (frE (mrZ (3 + n) (ux X 8 0, false)).1 ((mrZ (3 + n) (ux X 8 0, false)).1 3)) (Z := mrZ (3 + n) (ux X 8 0, false))
    rw [sB_len] at this
    omega
  · show (ux X 8 0) 8 ≤ _; omega
theorem x4_I {v : Nat} (hI : IX N X) (hv : v ≤ 9999) : IX N (ux X 4 v) := by
  have hB := hI.1
  obtain ⟨a, b, c, d, e, f, g, i, j, k⟩ := hI.1
  have u : ∀ q, q ≠ 4 → ux X 4 v q = X q := fun q h1 => ux_n h1
  refine ⟨hB.lo (u _ (by omega)) (u _ (by omega)) (by rw [u _ (by omega)]; exact e) (by rw [ux_s]; exact hv) (by rw [u _ (by omega)]; exact g) (by rw [u _ (by omega)]; exact i) (fun q q1 q2 => by rw [u _ (by omega)]; exact j q q1 q2) (fun q q1 q2 => u _ (by omega)), ?_, dn_C hI.2.2 hB (dn_ux (by omega))⟩
  rw [u _ (by omega), u _ (by omega)]; exact hI.2.1
theorem x5_I {v : Nat} (hI : IX N X) (hv : v ≤ 255) : IX N (ux X 5 v) := by
  have hB := hI.1
  obtain ⟨a, b, c, d, e, f, g, i, j, k⟩ := hI.1
  have u : ∀ q, q ≠ 5 → ux X 5 v q = X q := fun q h1 => ux_n h1
  refine ⟨hB.lo (u _ (by omega)) (u _ (by omega)) (by rw [u _ (by omega)]; exact e) (by rw [u _ (by omega)]; exact f) (by rw [ux_s]; exact hv) (by rw [u _ (by omega)]; exact i) (fun q q1 q2 => by rw [u _ (by omega)]; exact j q q1 q2) (fun q q1 q2 => u _ (by omega)), ?_, dn_C hI.2.2 hB (dn_ux (by omega))⟩
  rw [u _ (by omega), u _ (by omega)]; exact hI.2.1
theorem sm_wouldCost (hR : RM μ X) (hI : IX N X) (hN : N < 2 ^ 28) {n : Nat} (hn : n ≤ 4) {Q : Int32 → Rg → Ar → Prop} (hQ : ∀ σ' μ', RM μ' X → σ' 0 = σ 0 → Q (wcA X n) σ' μ') {x : Int32} (hx : x = nI n) : wp_X6_wouldCost σ μ x Q := by
  subst hx
  refine sm_putsAside hR (fun μ1 R1 K1 F1 μ2 e2 => ?_)
  have R2 : RM μ2 (ux X 4 0) := by rw [e2]; exact R1.set rfl
  refine sm_sets (t := 0) (v := 0) R2 (x4_I hI (by omega)) hN (by omega) hn (fun σ3 μ3 R3 F3 => ?_)
  have K3 : RK μ3 X := fun k hk => by rw [F3.2, e2, ua_n (by omega)]; exact K1 k hk
  exact sm_putsBack R3 K3 (fun μ4 R4 F4 => hQ σ3 μ4 R4 F3.1)
theorem sm_costs (hR : RM μ X) (hI : IX N X) (hN : N < 2 ^ 28) {x : Int32} {Q : Int32 → Rg → Ar → Prop} (hQ : ∀ σ' μ', RM μ' X → σ' 0 = 0 → Q (ctA X x) σ' μ') : wp_X6_costs σ μ x Q := by
  intro σ2 e2
  have K2 := K0 e2
  have hB := hI.1
  unfold ctA at hQ
  refine sm_isOn hR hB.2.2.2.2.1 (fun e => ⟨fun z => absurd z (by decide), fun _ => ?_⟩) (fun e => ⟨fun _ => ?_, fun z => absurd rfl z⟩)
  · rw [hR 10 (by omega)]
    refine And.comm.mp (pk_eq (X 10) 0 (fun z => ?_) (fun z => ?_) rfl rfl (by have := hB.2.2.2.2.2.2.2.1; omega))
    · refine sm_win (lo := 1) (hi := 4) (by omega) (by omega) rfl rfl (fun a b => ⟨fun z => absurd z (by decide), fun _ => ?_⟩) (fun g => ⟨fun _ => ?_, fun z => absurd rfl z⟩)
      · rw [itp_pos ⟨e, z, a, b⟩] at hQ
        exact sm_wouldCost hR hI hN b (fun σ3 μ3 R3 k3 => hQ σ3 μ3 R3 (k3.trans K2)) (tn_e x)
      · rw [itp_neg (fun c => g c.2.2)] at hQ; exact hQ σ2 μ hR K2
    · rw [itp_neg (fun c => z c.2.1)] at hQ; exact hQ σ2 μ hR K2
  · rw [itp_neg (fun c => absurd (c.1.symm.trans e) (by decide))] at hQ; exact hQ σ2 μ hR K2
theorem wc_le {n : Nat} (hn : n ≤ 4) {x : Int32} (h1 : ¬ x < 1) (h2 : x ≤ wcA X n) (h10 : X 10 ≠ 1) : tn x ≤ 1000 := by
  have hx : ¬ x < 0 := fun g => h1 (Int32.lt_trans g (by decide))
  obtain ⟨t, ht, et⟩ := nI_of hx
  subst et
  rw [tn_nI ht]
  have h0 : (1 : Int32) ≤ nI t := Int32.not_lt.mp h1
  have no : ∀ k : Int32, k < 1 → nI t ≤ k → False := fun k hk hl => Int32.lt_irrefl (Int32.lt_of_lt_of_le (Int32.lt_of_le_of_lt hl hk) h0)
  unfold wcA ssA at h2
  rw [if_neg (by rw [ux_n (by omega)]; exact h10)] at h2
  unfold stA itp tdI at h2
  split at h2
  · split at h2
    · exact absurd h2 (fun c => no _ (by decide) c)
    · have hb := d8_stZ (X := ux X 4 0) (t := 0) (n := n) (W := (0 : Int32).toInt64.toBitVec.toNat) hn
      exact Nat.le_trans (Nat.not_lt.mp (fun g => absurd (nI_lt g ht) (Int32.not_lt.mpr h2))) hb
  · exact absurd h2 (fun c => no _ (by decide) c)
theorem sm_torn (hR : RM μ X) (hI : IX N X) (hN : N + 2 < 2 ^ 28) {x1 x2 x3 x4 x5 x6 : Int32} {Q : Int64 → Rg → Ar → Prop} (hQ : ∀ σ' μ', RM μ' X → σ' 0 = 0 → Q (tnA X x1 x2 x3 x4 x5 x6) σ' μ') : wp_X6_torn σ μ x1 x2 x3 x4 x5 x6 Q := by
  intro σ2 e2
  have K2 := K0 e2
  have hB := hI.1
  have no : ¬ tnG X x1 x3 x4 x5 x6 → ∀ σ' μ', RM μ' X → σ' 0 = 0 → Q (-1) σ' μ' := fun g σ' μ' R' k' => by
    have := hQ σ' μ' R' k'
    unfold tnA at this; rw [itp_neg g] at this; exact this
  refine sm_isSetting hR hB (fun c => ⟨fun z => absurd z (by decide), fun _ => ?_⟩) (fun c => ⟨fun _ => no (fun g => c g.1) σ2 μ hR K2, fun z => absurd rfl z⟩)
  have c' := c
  obtain ⟨c1, ⟨t, ht, et⟩, n, hn0, hn, en⟩ := c'
  have tt : tn x1 = t := by rw [et]; exact tn_nI (by omega)
  have tn3 : tn x3 = n := by rw [en]; exact tn_nI (by omega)
  rw [hR 10 (by omega)]
  refine pk_eq (X 10) 1 (fun z => no (fun g => g.2.1 z) σ2 μ hR K2) (fun z10 => ?_) rfl rfl (by have := hB.2.2.2.2.2.2.2.1; omega)
  refine sm_win (lo := 0) (hi := 255) (by omega) (by omega) rfl rfl (fun _ a5 => ⟨fun z => absurd z (by decide), fun _ => ?_⟩) (fun g => ⟨fun _ => no (fun c => g ⟨Nat.zero_le _, c.2.2.1⟩) σ2 μ hR K2, fun z => absurd rfl z⟩)
  refine sm_win (lo := 0) (hi := 3) (by omega) (by omega) rfl rfl (fun _ a6 => ⟨fun _ => ?_, fun z => absurd z (by decide)⟩) (fun g => ⟨fun z => absurd rfl z, fun _ => no (fun c => g ⟨Nat.zero_le _, c.2.2.2.1⟩) σ2 μ hR K2⟩)
  refine ⟨fun z => no (fun c => c.2.2.2.2.1 z) σ2 μ hR K2, fun z4 => ?_⟩
  refine sm_wouldCost hR hI (by omega) hn (fun σ3 μ3 R3 k3 => ⟨fun hle => ?_, fun hnl => no (fun c => hnl (by rw [← tn3]; exact c.2.2.2.2.2)) σ3 μ3 R3 (k3.trans K2)⟩) en
  have g : tnG X x1 x3 x4 x5 x6 := ⟨c, z10, a5, a6, z4, by rw [tn3]; exact hle⟩
  have h4 := wc_le hn z4 hle z10
  refine sm_putsAside R3 (fun μ4 R4 Kk F4 μ5 e5 μ6 e6 => ?_)
  have R6 : RM μ6 (tnX X (tn x4) (tn x5)) := by rw [e6, e5]; exact (R4.set (tn_e x4)).set (tn_e x5)
  have K6 : RK μ6 X := fun k hk => by rw [e6, ua_n (by omega), e5, ua_n (by omega)]; exact Kk k hk
  have hI6 : IX N (tnX X (tn x4) (tn x5)) := x5_I (x4_I hI (by omega)) a5
  rw [et, en]
  refine sm_sets R6 hI6 (by omega) ht hn (fun σ7 μ7 R7 F7 => ?_)
  have hI7 := ssX_I (t := t) (n := n) (v := x2) hI6 ht hn
  refine sm_begins R7 (fun σ8 μ8 W8 S8 A8 => sm_switchesOn W8 (x8_XB hI7.1) (by omega) (fun σ9 μ9 W9 S9 A9 y ey => ?_))
  have ez : swZ (ux (ssX (tnX X (tn x4) (tn x5)) t n x2) 8 0, false) = tnZ X x1 x2 x3 x4 x5 := by unfold tnZ; rw [tt, tn3]
  have hZB := swZ_XB (Z := (ux (ssX (tnX X (tn x4) (tn x5)) t n x2) 8 0, false)) (x8_XB hI7.1)
  have hZ3 := swZ_3 (Z := (ux (ssX (tnX X (tn x4) (tn x5)) t n x2) 8 0, false)) (x8_XB hI7.1) (x8_3 hI7.2.1)
  rw [ez] at W9 hZB hZ3
  have b6 := hZB.2.1
  have K9 : RK μ9 X := fun k hk => by rw [A9 1 (by omega), A8 1 (by omega), F7.2]; exact K6 k hk
  have k9 : σ9 0 = 0 := by rw [S9 0 (by omega), S8 0 (by omega), F7.1, k3]; exact K2
  have hq : ∀ σ' μ', RM μ' X → σ' 0 = 0 → Q (tnB (tnZ X x1 x2 x3 x4 x5) t x6) σ' μ' := fun σ' μ' R' k' => by
    have := hQ σ' μ' R' k'
    unfold tnA at this; rw [itp_pos g, tt] at this; exact this
  have c178 : ∀ v σ' μ', RM μ' (tnZ X x1 x2 x3 x4 x5).1 → RK μ' X → σ' 0 = 0 → v = tnB (tnZ X x1 x2 x3 x4 x5) t x6 → wb_X6_torn_178 Q σ' μ' v := fun v σ' μ' R' Kp k' ev => by
    rw [ev]
    exact sm_putsBack R' Kp (fun μ'' R'' _ => hq σ' μ'' R'' k')
  have c147 : ∀ v σ' μ', RM μ' (tnZ X x1 x2 x3 x4 x5).1 → RK μ' X → σ' 0 = 0 → (x6 ≠ 3 → v = tnB (tnZ X x1 x2 x3 x4 x5) t x6) → wb_X6_torn_147 Q σ' μ' x6 v := fun v σ' μ' R' Kp k' ev => by
    refine ⟨fun z => c178 v σ' μ' R' Kp k' (ev z), fun z => ?_⟩
    rw [R' 3 (by omega)]
    refine sm_reads R' hZB (by omega) (fun σ10 μ10 F10 G10 D10 => ?_)
    have R10 := F10.RM R'
    rw [R10 3 (by omega)]
    refine sm_valued (R10.rt (by omega)) hZB (by omega) D10 (fun y2 ey2 => ?_)
    refine c178 y2 σ10 μ10 R10 (fun k hk => by rw [F10.2]; exact Kp k hk) ((G10 0 (by omega) (by omega) (by omega)).trans k') ?_
    rw [ey2, z]; rfl
  refine ⟨fun z0 => ⟨fun z1 => c147 _ σ9 μ9 W9.1 K9 k9 (fun z3 => ?_), fun z1 => ?_⟩, fun z0 => ?_⟩
  · rw [ey, W9.1 8 (by omega)]
    unfold tnB; rw [if_neg z0, if_neg z1, if_neg z3]
  · refine sq_freeNow W9.1 hZB hZ3 (fun σ10 μ10 F10 G10 => ?_)
    refine c147 _ σ10 μ10 (F10.RM W9.1) (fun k hk => by rw [F10.2]; exact K9 k hk) ((G10 0 (by omega) (by omega) (by omega)).trans k9) (fun z3 => ?_)
    unfold tnB; rw [if_neg z0, if_pos z1]
  · refine sm_valueNow W9.1 hZB hZ3 (t := t) (by omega) (fun σ10 μ10 F10 G10 => ?_) rfl
    refine c147 _ σ10 μ10 (F10.RM W9.1) (fun k hk => by rw [F10.2]; exact K9 k hk) ((G10 0 (by omega) (by omega) (by omega)).trans k9) (fun z3 => ?_)
    unfold tnB; rw [if_pos z0]
end MS
