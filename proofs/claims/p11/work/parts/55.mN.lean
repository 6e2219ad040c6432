/-! the reference: a new chip, on, putting aside -/
def mk0 (n : Nat) (X : Nat → Nat) : Nat → Nat := fun q => if q < n then 0 else X q
def mk1 (n : Nat) (X : Nat → Nat) : Nat → Nat := fun q => if 42 ≤ q ∧ q < n then 255 else X q
/-- what is kept is Y -/
def RK (μ : Ar) (Y : Nat → Nat) : Prop := ∀ k, k < 810 → μ 1 k = nI (Y k)
section MN
variable {σ : Rg} {μ : Ar} {X : Nat → Nat} {N : Nat}
theorem RM.ex {Y : Nat → Nat} (h : RM μ X) (he : ∀ q, q < 810 → Y q = X q) : RM μ Y := fun k hk => by rw [he k hk]; exact h k hk
theorem sm_makes (hR : RM μ X) {s b : Nat} {Q : Rg → Ar → Prop} (hQ : ∀ μ', RM μ' (nwX s b) → Q σ μ') : wp_X6_makes σ μ (nI s) (nI b) Q := by
  have k2 : ∀ d j, j + d = 810 → 42 ≤ j → ∀ μ1, RM μ1 (mk1 j (ux (ux (mk0 810 X) 0 s) 1 b)) → wl_X6_makes_39 Q (d + 1) σ μ1 (nI j) := by
    intro d
    induction d with
    | zero =>
      intro j hj h42 μ1 R1
      have e : j = 810 := by omega
      subst e
      refine pk_le 810 810 (fun _ => hQ μ1 (R1.ex (fun q hq => ?_))) (fun z => absurd z (by omega)) rfl rfl
      unfold nwX mk1
      by_cases g : 42 ≤ q
      · rw [if_pos g, if_pos ⟨g, hq⟩]
      · rw [if_neg g, if_neg (show ¬ (42 ≤ q ∧ q < 810) by omega)]
        by_cases g1 : q = 1
        · rw [if_pos g1, g1, ux_s]
        · rw [if_neg g1, ux_n g1]
          by_cases g0 : q = 0
          · rw [if_pos g0, g0, ux_s]
          · rw [if_neg g0, ux_n g0]; unfold mk0; rw [if_pos hq]
    | succ d ih =>
      intro j hj h42 μ1 R1
      refine pk_le 810 j (fun z => absurd z (by omega)) (fun _ => ⟨pk_in _ 810 (by omega) rfl, fun μ2 e2 y ey => ?_⟩) rfl rfl
      rw [ey, i_p1]
      refine ih (j + 1) (by omega) (by omega) μ2 ?_
      rw [nI_clamp (by omega)] at e2
      rw [e2]
      refine (R1.set (k := j) (a := 255) rfl).ex (fun q hq => ?_)
      by_cases g : q = j
      · subst g; rw [ux_s]; unfold mk1; rw [if_pos ⟨h42, by omega⟩]
      · rw [ux_n g]; unfold mk1
        by_cases g2 : 42 ≤ q ∧ q < j
        · rw [if_pos g2, if_pos ⟨g2.1, by omega⟩]
        · rw [if_neg g2, if_neg (by omega)]
  have k1 : ∀ d j, j + d = 810 → ∀ μ1, RM μ1 (mk0 j X) → wl_X6_makes_2 Q (d + 1) σ μ1 (nI s) (nI b) (nI j) := by
    intro d
    induction d with
    | zero =>
      intro j hj μ1 R1
      have e : j = 810 := by omega
      subst e
      refine pk_le 810 810 (fun _ μ2 e2 μ3 e3 => ⟨769, k2 768 42 (by omega) (by omega) μ3 ?_⟩) (fun z => absurd z (by omega)) rfl rfl
      rw [e3, e2]
      refine ((R1.set (k := 0) (a := s) rfl).set (k := 1) (a := b) rfl).ex (fun q hq => ?_)
      unfold mk1; rw [if_neg (by omega)]
    | succ d ih =>
      intro j hj μ1 R1
      refine pk_le 810 j (fun z => absurd z (by omega)) (fun _ => ⟨pk_in _ 810 (by omega) rfl, fun μ2 e2 y ey => ?_⟩) rfl rfl
      rw [ey, i_p1]
      refine ih (j + 1) (by omega) μ2 ?_
      rw [nI_clamp (by omega)] at e2
      rw [e2]
      refine (R1.set (k := j) (a := 0) rfl).ex (fun q hq => ?_)
      by_cases g : q = j
      · subst g; rw [ux_s]; unfold mk0; rw [if_pos (by omega)]
      · rw [ux_n g]; unfold mk0
        by_cases g2 : q < j
        · rw [if_pos g2, if_pos (by omega)]
        · rw [if_neg g2, if_neg (by omega)]
  exact ⟨811, k1 810 0 (by omega) μ (hR.ex (fun q hq => if_neg (by omega)))⟩
theorem sm_chip (hR : RM μ X) {x1 x2 : Int32} {Q : Int32 → Rg → Ar → Prop} (hQ : ∀ σ' μ', RM μ' (chX X x1 x2) → σ' 0 = 0 → Q (chA x1 x2) σ' μ') : wp_X6_chip σ μ x1 x2 Q := by
  intro σ2 e2
  have K2 := K0 e2
  have no : ¬ chG x1 x2 → Q 0 σ2 μ := fun g => by
    have := hQ σ2 μ (by unfold chX; rw [itp_neg g]; exact hR) K2
    unfold chA at this; rw [itp_neg g] at this; exact this
  refine sm_win (lo := 2) (hi := 6) (by omega) (by omega) rfl rfl (fun a1 a2 => ⟨fun z => absurd z (by decide), fun _ => ?_⟩) (fun g => ⟨fun _ => no (fun c => g c.1), fun z => absurd rfl z⟩)
  refine sm_win (lo := 32) (hi := 128) (by omega) (by omega) rfl rfl (fun b1 b2 => ⟨fun _ => ?_, fun z => absurd z (by decide)⟩) (fun g => ⟨fun z => absurd rfl z, fun _ => no (fun c => g c.2)⟩)
  have g : chG x1 x2 := ⟨⟨a1, a2⟩, b1, b2⟩
  rw [tn_e x1, tn_e x2]
  refine sm_makes hR (fun μ3 R3 => ?_)
  have := hQ σ2 μ3 (by unfold chX; rw [itp_pos g]; exact R3) K2
  unfold chA at this; rw [itp_pos g] at this; exact this
theorem nwX_hi {s b q : Nat} (h : 42 ≤ q) : nwX s b q = 255 := by unfold nwX; rw [if_pos h]
theorem nwX_lo {s b q : Nat} (h : q < 42) (h0 : q ≠ 0) (h1 : q ≠ 1) : nwX s b q = 0 := by unfold nwX; rw [if_neg (by omega), if_neg h1, if_neg h0]
theorem nwX_0 {s b : Nat} : nwX s b 0 = s := rfl
theorem nwX_1 {s b : Nat} : nwX s b 1 = b := rfl
theorem nwX_I {s b : Nat} (h1 : 2 ≤ s) (h2 : s ≤ 6) (h3 : 32 ≤ b) (h4 : b ≤ 128) : IX N (nwX s b) := by
  refine ⟨⟨h1, h2, h3, h4, ?_, ?_, ?_, ?_, fun q q1 q2 => ?_, fun q q1 q2 => ?_⟩, ?_, fun c => ?_⟩
  · rw [nwX_lo (by omega) (by omega) (by omega)]; omega
  · rw [nwX_lo (by omega) (by omega) (by omega)]; omega
  · rw [nwX_lo (by omega) (by omega) (by omega)]; omega
  · rw [nwX_lo (by omega) (by omega) (by omega)]; omega
  · rw [nwX_hi q1]; omega
  · rw [nwX_lo (by omega) (by omega) (by omega)]; omega
  · rw [nwX_lo (by omega) (by omega) (by omega), nwX_0]; omega
  · rw [nwX_lo (by omega) (by omega) (by omega)] at c; omega
theorem chX_I {x1 x2 : Int32} (hI : IX N X) : IX N (chX X x1 x2) := by
  unfold chX itp
  split
  · rename_i g; exact nwX_I g.1.1 g.1.2 g.2.1 g.2.2
  · exact hI
theorem sm_putsAside (hR : RM μ X) {Q : Rg → Ar → Prop} (hQ : ∀ μ', RM μ' X → RK μ' X → (∀ k, k ≠ 1 → μ' k = μ k) → Q σ μ') : wp_X6_putsAside σ μ Q := by
  have k1 : ∀ d j, j + d = 810 → ∀ μ1, (∀ k, k < j → μ1 1 k = nI (X k)) → (∀ k, k ≠ 1 → μ1 k = μ k) → wl_X6_putsAside_2 Q (d + 1) σ μ1 (nI j) := by
    intro d
    induction d with
    | zero =>
      intro j hj μ1 R1 F1
      have e : j = 810 := by omega
      subst e
      exact pk_le 810 810 (fun _ => hQ μ1 (fun k hk => by rw [F1 0 (by omega)]; exact hR k hk) R1 F1) (fun z => absurd z (by omega)) rfl rfl
    | succ d ih =>
      intro j hj μ1 R1 F1
      refine pk_le 810 j (fun z => absurd z (by omega)) (fun _ => ⟨pk_in _ 810 (by omega) rfl, pk_in _ 810 (by omega) rfl, fun μ2 e2 y ey => ?_⟩) rfl rfl
      rw [ey, i_p1]
      rw [nI_clamp (by omega), F1 0 (by omega), hR j (by omega)] at e2
      refine ih (j + 1) (by omega) μ2 (fun k hk => ?_) (fun k hk => by rw [e2, ua_n hk]; exact F1 k hk)
      rw [e2, ua_s]
      by_cases g : k = j
      · rw [g, up_s]
      · rw [up_n g]; exact R1 k (by omega)
  exact ⟨811, k1 810 0 (by omega) μ (fun k hk => absurd hk (by omega)) (fun _ _ => rfl)⟩
theorem sm_putsBack {Y : Nat → Nat} (hR : RM μ X) (hK : RK μ Y) {Q : Rg → Ar → Prop} (hQ : ∀ μ', RM μ' Y → FA μ μ' → Q σ μ') : wp_X6_putsBack σ μ Q := by
  have k1 : ∀ d j, j + d = 810 → ∀ μ1, (∀ k, k < j → μ1 0 k = nI (Y k)) → FA μ μ1 → wl_X6_putsBack_2 Q (d + 1) σ μ1 (nI j) := by
    intro d
    induction d with
    | zero =>
      intro j hj μ1 R1 F1
      have e : j = 810 := by omega
      subst e
      exact pk_le 810 810 (fun _ => hQ μ1 R1 F1) (fun z => absurd z (by omega)) rfl rfl
    | succ d ih =>
      intro j hj μ1 R1 F1
      refine pk_le 810 j (fun z => absurd z (by omega)) (fun _ => ⟨pk_in _ 810 (by omega) rfl, pk_in _ 810 (by omega) rfl, fun μ2 e2 y ey => ?_⟩) rfl rfl
      rw [ey, i_p1]
      rw [nI_clamp (by omega), F1 1 (by omega), hK j (by omega)] at e2
      refine ih (j + 1) (by omega) μ2 (fun k hk => ?_) (F1.tr (by rw [e2]; exact FA.set))
      rw [e2, ua_s]
      by_cases g : k = j
      · rw [g, up_s]
      · rw [up_n g]; exact R1 k (by omega)
  exact ⟨811, k1 810 0 (by omega) μ (fun k hk => absurd hk (by omega)) FA.rf⟩
theorem onX_XB {s : Nat} {Z : Zt} (h : XB N Z.1) : XB N (onX s Z).1 := by
  unfold onX
  split
  · exact h
  · obtain ⟨a, b, c, d, e, f, g, i, j, k⟩ := h
    refine ⟨?_, ?_, ?_, ?_, ?_, ?_, ?_, ?_, fun q h1 h2 => ?_, fun q h1 h2 => ?_⟩
    · show _ ≤ ux (ux Z.1 2 1) 3 s 0; rw [ux_n (by omega), ux_n (by omega)]; exact a
    · show ux (ux Z.1 2 1) 3 s 0 ≤ _; rw [ux_n (by omega), ux_n (by omega)]; exact b
    · show _ ≤ ux (ux Z.1 2 1) 3 s 1; rw [ux_n (by omega), ux_n (by omega)]; exact c
    · show ux (ux Z.1 2 1) 3 s 1 ≤ _; rw [ux_n (by omega), ux_n (by omega)]; exact d
    · show ux (ux Z.1 2 1) 3 s 2 ≤ _; rw [ux_n (by omega), ux_s]; omega
    · show ux (ux Z.1 2 1) 3 s 4 ≤ _; rw [ux_n (by omega), ux_n (by omega)]; exact f
    · show ux (ux Z.1 2 1) 3 s 5 ≤ _; rw [ux_n (by omega), ux_n (by omega)]; exact g
    · show ux (ux Z.1 2 1) 3 s 10 ≤ _; rw [ux_n (by omega), ux_n (by omega)]; exact i
    · show ux (ux Z.1 2 1) 3 s q ≤ _; rw [ux_n (by omega), ux_n (by omega)]; exact j q h1 h2
    · show ux (ux Z.1 2 1) 3 s q ≤ _; rw [ux_n (by omega), ux_n (by omega)]; exact k q h1 h2
theorem onX_3 {s : Nat} {Z : Zt} (h : Z.1 3 < Z.1 0) (hs : s < Z.1 0) : (onX s Z).1 3 < (onX s Z).1 0 := by
  unfold onX
  split
  · exact h
  · show ux (ux Z.1 2 1) 3 s 3 < ux (ux Z.1 2 1) 3 s 0
    rw [ux_s, ux_n (by omega), ux_n (by omega)]; exact hs
theorem fq3 : fq 3 := by unfold fq; omega
theorem fq0 : fq 0 := by unfold fq; omega
theorem fq1 : fq 1 := by unfold fq; omega
theorem mkr_far {s n q : Nat} {Z : Zt} (h : fq q) : (mkr s n Z).1 q = Z.1 q := by unfold mkr; rw [wr_far h, wr_far h, wr_far h, wr_far h]
theorem swZ_XB {Z : Zt} (h : XB N Z.1) : XB (N + 6) (swZ Z).1 := by
  have b6 := h.2.1
  unfold swZ
  split
  · exact onX_XB (wr_XB (mkr_XB ((eoN_XB h (Z.1 0) b6).mono (by omega))))
  · exact onX_XB ((eoN_XB h (Z.1 0) b6).mono (by omega))
theorem swZ_3 {Z : Zt} (h : XB N Z.1) (h3 : Z.1 3 < Z.1 0) : (swZ Z).1 3 < (swZ Z).1 0 := by
  have b0 := h.1
  have hle := fdN_le Z.1 (Z.1 0)
  unfold swZ
  split
  · have l1 := leN_le (eoN 9 (Z.1 0) Z).1 9 (Z.1 0)
    refine onX_3 ?_ ?_
    · rw [wr_far fq3, wr_far fq0, mkr_far fq3, mkr_far fq0, eoN_far fq3, eoN_far fq0]; exact h3
    · rw [wr_far fq0, mkr_far fq0, eoN_far fq0]; omega
  · refine onX_3 ?_ ?_
    · rw [eoN_far fq3, eoN_far fq0]; exact h3
    · rw [eoN_far fq0]; omega
theorem onXX_I (hI : IX N X) : IX (N + 6) (onXX X) := by
  have h3 : (ux X 8 0) 3 < (ux X 8 0) 0 := by rw [ux_n (by omega), ux_n (by omega)]; exact hI.2.1
  unfold onXX
  split
  · unfold onZ
    exact ⟨swZ_XB (Z := (ux X 8 0, false)) (x8_XB hI.1), swZ_3 (Z := (ux X 8 0, false)) (x8_XB hI.1) h3, dn_C hI.2.2 hI.1 (dn_tr (dn_ux (by omega)) (dn_swZ (Z := (ux X 8 0, false))))⟩
  · exact hI.mono (by omega)
theorem sm_on (hR : RM μ X) (hI : IX N X) (hN : N < 2 ^ 28) {Q : Int32 → Rg → Ar → Prop} (hQ : ∀ σ' μ', RM μ' (onXX X) → σ' 0 = 0 → Q (onA X) σ' μ') : wp_X6_on σ μ Q := by
  intro σ2 e2
  have K2 := K0 e2
  have hB := hI.1
  refine sm_isOn hR hB.2.2.2.2.1 (fun e => ⟨fun z => absurd z (by decide), fun _ => ?_⟩) (fun e => ⟨fun _ => ?_, fun z => absurd rfl z⟩)
  · unfold onXX onA at hQ
    rw [if_neg (by omega), if_neg (by omega)] at hQ
    exact hQ σ2 μ hR K2
  · have hX : onXX X = (onZ X).1 := by unfold onXX; rw [if_pos e]
    have hI2 := onXX_I hI
    rw [hX] at hI2
    have b62 := hI2.1.2.1
    have h32 := hI2.2.1
    refine sm_begins hR (fun σ3 μ3 W3 S3 A3 => sm_switchesOn W3 (x8_XB hB) (by omega) (fun σ4 μ4 W4 S4 A4 => ?_))
    have k4 : σ4 0 = 0 := by rw [S4 0 (by omega), S3 0 (by omega)]; exact K2
    change RW σ4 μ4 (onZ X) at W4
    rw [hX] at hQ
    unfold onA at hQ
    rw [if_pos e] at hQ
    cases hz : (onZ X).2 with
    | true =>
      refine ⟨fun z => ?_, fun _ => ?_⟩
      · have := W4.2; rw [hz] at this; exact absurd (this.symm.trans z) (by decide)
      · rw [hz] at hQ; exact hQ σ4 μ4 W4.1 k4
    | false =>
      refine ⟨fun _ => ?_, fun z => ?_⟩
      · rw [hz] at hQ
        rw [W4.1 3 (by omega)]
        refine sm_reads W4.1 hI2.1 (by omega) (fun σ5 μ5 F5 G5 D5 => ?_)
        have R5 := F5.RM W4.1
        rw [R5 3 (by omega)]
        refine sm_valued (R5.rt (by omega)) hI2.1 (by omega) D5 ?_
        exact hQ σ5 μ5 R5 ((G5 0 (by omega) (by omega) (by omega)).trans k4)
      · have := W4.2; rw [hz] at this; exact absurd this z
end MN
