/-! theirs: its face, what changes it -/
def JX (X : Nat → Nat) : Prop := X 10 = 1 → X 2 = 1
section CL
variable {σ : Rg} {μ : Ar} {σb : Rg} {μb : Ar} {X : Nat → Nat} {N k : Nat}
theorem jx_gz {Z : Zt} (h : JX X) (G : GZ (ux X 8 0, false) Z) : JX Z.1 := fun c => by
  cases hz : Z.2 with
  | true => have := (G.1 hz nff).2; omega
  | false =>
    obtain ⟨_, g2, g10⟩ := G.2 hz
    have e2 : (ux X 8 0, false).1 2 = X 2 := show ux X 8 0 2 = X 2 from ux_n (by omega)
    have e10 : (ux X 8 0, false).1 10 = X 10 := show ux X 8 0 10 = X 10 from ux_n (by omega)
    rw [g2, e2]
    exact h (by rw [← e10, ← g10]; exact c)
theorem jx_ex {Y : Nat → Nat} (h : JX X) (e2 : Y 2 = X 2) (e10 : Y 10 = X 10) : JX Y := fun c => by rw [e2]; exact h (by rw [← e10]; exact c)
theorem jx_0 {Y : Nat → Nat} (e10 : Y 10 = 0) : JX Y := fun c => by omega
theorem gz_stZ {t n W : Nat} : GZ (ux X 8 0, false) (stZ X t n W) := by
  unfold stZ itp
  split
  · exact gz_tr gz_mrZ (gz_lay _ _)
  · exact gz_rf
theorem ssX_J {t n : Nat} {v : Int32} (h : JX X) (hI : IX N X) : JX (ssX X t n v) := by
  unfold ssX
  split
  · rename_i h10
    have c1 := (hI.2.2 h10).1
    have hle := icN_le X t (X 11)
    unfold tlX
    split
    · exact jx_ex h (tl3_far (by omega) (by omega)) (tl3_far (by omega) (by omega))
    · split
      · exact h
      · exact jx_ex h (by rw [tl3_far (by omega) (by omega), ux_n (by omega)]) (by rw [tl3_far (by omega) (by omega), ux_n (by omega)])
  · exact jx_gz h gz_stZ
theorem seX_J {x1 v x3 : Int32} (h : JX X) (hI : IX N X) : JX (seX X x1 v x3) := by
  unfold seX itp
  split
  · exact ssX_J h hI
  · exact h
theorem dpX_J {x : Int32} (h : JX X) (hI : IX N X) : JX (dpX X x) := by
  unfold dpX itp
  split
  · exact ssX_J h hI
  · exact h
theorem chX_J {x1 x2 : Int32} (h : JX X) : JX (chX X x1 x2) := by
  unfold chX itp
  split
  · exact jx_0 (nwX_lo (by omega) (by omega) (by omega))
  · exact h
theorem gz_on0 {s : Nat} {Z : Zt} (h : JX X) (G : GZ (ux X 8 0, false) Z) : JX (onX s Z).1 := by
  unfold onX
  split
  · exact jx_gz h G
  · intro _
    dsimp only; rw [ux_n (by omega), ux_s]
theorem onXX_J (h : JX X) : JX (onXX X) := by
  unfold onXX
  split
  · unfold onZ swZ
    split
    · exact gz_on0 h (gz_tr (gz_eoN _) (gz_tr gz_mkr gz_wr))
    · exact gz_on0 h (gz_eoN _)
  · exact h
theorem ofX_J (h : JX X) : JX (ofX X) := by
  unfold ofX
  split
  · exact jx_0 ux_s
  · exact h
theorem abX_J (h : JX X) : JX (abX X) := by
  unfold abX
  split
  · exact h
  · exact jx_0 ux_s
theorem bgX_J (h : JX X) : JX (bgX X) := by
  unfold bgX
  split
  · rename_i g
    intro _
    rw [ux_n (by omega), ux_n (by omega)]; exact g.1
  · exact h
theorem pwX_J {x1 x2 : Int32} (h : JX X) : JX (pwX X x1 x2) := by
  unfold pwX itp
  split
  · exact jx_ex h (by rw [ux_n (by omega), ux_n (by omega)]) (by rw [ux_n (by omega), ux_n (by omega)])
  · exact h
theorem rtX_J {x1 x2 x3 : Int32} (h : JX X) : JX (rtX X x1 x2 x3) := by
  unfold rtX itp
  split
  · exact jx_ex h (ux_n (by omega)) (ux_n (by omega))
  · exact h
theorem hnX_J (h : JX X) : JX (hnX X) := by
  unfold hnX
  split
  · exact jx_gz h gz_hoZ
  · exact h
theorem bmX_J {x : Int32} (h : JX X) : JX (bmX X x) := by
  unfold bmX
  unfold itp
  split
  · refine jx_gz h ?_
    unfold bmZ itp
    split
    · exact gz_wr
    · split
      · exact gz_tr gz_mrZ (gz_lay _ _)
      · exact gz_rf
  · exact h
theorem cmX_J (h : JX X) : JX (cmX X) := by
  unfold cmX
  split
  · exact h
  · split
    · exact jx_0 ux_s
    · unfold itp
      split
      · exact jx_0 ux_s
      · exact jx_ex h (ux_n (by omega)) (ux_n (by omega))
theorem RCn.fc {σ' : Rg} {μ' : Ar} (h : RCn σ μ X) (f : FCs σ σ') (g : FCm μ μ') : RCn σ' μ' X := by
  obtain ⟨⟨hS, hb⟩, h1, on, off, hch⟩ := h
  have fe : ∀ q, q < 11 → σ' q = σ q := fun q hq => f q (by omega) (by omega) (by omega) (by omega)
  exact ⟨⟨hS.fs (fun q hq => fe q (by omega)), ⟨fun s p w1 w2 => by rw [g 0 (by omega)]; exact hb.1 s p w1 w2, fun s w1 => by rw [g 1 (by omega)]; exact hb.2 s w1⟩⟩, by rw [fe _ (by omega)]; exact h1, fun c => by rw [fe _ (by omega), fe _ (by omega)]; exact on c, fun c => by rw [fe _ (by omega), fe _ (by omega)]; exact off c, hch.fx (FX.fc f g)⟩
theorem sc_isOn (hC : RCn σ μ X) (hI : IX N X) {Q : Int32 → Rg → Ar → Prop} (h1 : X 2 = 1 → Q 1 σ μ) (h0 : X 2 = 0 → Q 0 σ μ) : wp_X4_isOn σ μ Q := by
  have b2 := hI.1.2.2.2.2.1
  have b6 := hI.1.2.1
  have h3 := hI.2.1
  by_cases g : X 2 = 1
  · have := (hC.2.2.1 g).1
    refine ⟨fun z => ?_, fun _ => ⟨bz1, h1 g⟩⟩
    rw [this] at z
    exact absurd (by rw [z]; decide) (nI_pos (n := X 3) (by omega))
  · have g0 : X 2 = 0 := by omega
    have := (hC.2.2.2.1 g0).1
    exact ⟨fun _ => ⟨bz0, h0 g0⟩, fun z => absurd this z⟩
theorem cf_chip (hC : RCn σ μ X) {x1 x2 : Int32} {Q : Int32 → Rg → Ar → Rg → Ar → Prop} (hQ : ∀ σ' μ', RCn σ' μ' (chX X x1 x2) → Q (chA x1 x2) σ' μ' σb μb) : wp_X5_chip σ μ σb μb x1 x2 Q := by
  have no : ¬ chG x1 x2 → Q 0 σ μ σb μb := fun g => by
    have := hQ σ μ (by unfold chX; rw [itp_neg g]; exact hC)
    unfold chA at this; rw [itp_neg g] at this; exact this
  refine sc_win (lo := 2) (hi := 6) (by omega) (by omega) rfl rfl (fun a1 a2 => ⟨fun z => absurd z (by decide), fun _ => ?_⟩) (fun g => ⟨fun _ => no (fun c => g c.1), fun z => absurd rfl z⟩)
  refine sc_win (lo := 32) (hi := 128) (by omega) (by omega) rfl rfl (fun b1 b2 => ⟨fun _ => ?_, fun z => absurd z (by decide)⟩) (fun g => ⟨fun z => absurd rfl z, fun _ => no (fun c => g c.2)⟩)
  have g : chG x1 x2 := ⟨⟨a1, a2⟩, b1, b2⟩
  refine sc_renew1 a2 b2 (fun σ1 μ1 S1 B1 h7 f1 σ2 e2 => sc_switchOff (fun σ3 c0 c7 c15 cf => ?_)) (tn_e x1) (tn_e x2)
  have := hQ σ3 μ1 (by
    unfold chX; rw [itp_pos g]
    refine nw_RCn (S1.fs (fun q hq => by rw [cf q (by omega) (by omega) (by omega) (by omega), e2, up_n (by omega)])) B1 ?_ c0 c7 c15
    rw [cf 1 (by omega) (by omega) (by omega) (by omega), e2, up_s])
  unfold chA at this; rw [itp_pos g] at this; exact this
theorem cf_on (hC : RCn σ μ X) (hI : IX N X) (hN : N < 2 ^ 28) {Q : Int32 → Rg → Ar → Rg → Ar → Prop} (hQ : ∀ σ' μ', RCn σ' μ' (onXX X) → Q (onB X) σ' μ' σb μb) : wp_X5_on σ μ σb μb Q := by
  unfold onXX onB at hQ
  refine sc_isOn hC hI (fun e => ⟨fun z => absurd z (by decide), fun _ => ?_⟩) (fun e => ⟨fun _ => ?_, fun z => absurd rfl z⟩)
  · have n : ¬ X 2 = 0 := by omega
    rw [if_neg n, if_neg n] at hQ
    exact hQ σ μ hC
  · rw [if_pos e, if_pos e] at hQ
    exact sc_switchOn hC.1.1 hC.1.2 hC.2.1 hC.2.2.2.2 hI hN (fun σ' μ' C' _ => hQ σ' μ' C')
theorem cf_off (hC : RCn σ μ X) (hI : IX N X) {Q : Int32 → Rg → Ar → Rg → Ar → Prop} (hQ : ∀ σ' μ', RCn σ' μ' (ofX X) → Q (ofA X) σ' μ' σb μb) : wp_X5_off σ μ σb μb Q := by
  unfold ofX ofA at hQ
  refine sc_isOn hC hI (fun e => ⟨fun _ => ?_, fun z => absurd z (by decide)⟩) (fun e => ⟨fun z => absurd rfl z, fun _ => ?_⟩)
  · rw [if_pos e, if_pos e] at hQ
    obtain ⟨⟨hS, hb⟩, h1, on, off, hch⟩ := hC
    refine sc_switchOff (fun σ3 c0 c7 c15 cf => hQ σ3 μ ⟨⟨?_, ?_⟩, ?_, fun c => ?_, fun _ => ⟨c0, c7⟩, fun c => ?_, fun _ => c15⟩)
    · exact (hS.fs (fun q hq => cf q (by omega) (by omega) (by omega) (by omega))).xs (fun q hq => by rw [ux_n (by omega), ux_n (by omega)])
    · exact hb.ex (by rw [ux_n (by omega), ux_n (by omega)]) (by rw [ux_n (by omega), ux_n (by omega)]) (fun q hq => by rw [ux_n (by omega), ux_n (by omega)])
    · rw [cf 1 (by omega) (by omega) (by omega) (by omega), ux_n (by omega), ux_n (by omega)]; exact h1
    · rw [ux_n (by omega), ux_s] at c; exact absurd c (by decide)
    · rw [ux_s] at c; exact absurd c (by decide)
  · have n : ¬ X 2 = 1 := by omega
    rw [if_neg n, if_neg n] at hQ
    exact hQ σ μ hC
theorem cf_power (hC : RCn σ μ X) {x1 x2 : Int32} {Q : Int32 → Rg → Ar → Rg → Ar → Prop} (hQ : ∀ σ' μ', RCn σ' μ' (pwX X x1 x2) → Q (pwA x1 x2) σ' μ' σb μb) : wp_X5_power σ μ σb μb x1 x2 Q := by
  have no : ¬ pwG x1 x2 → Q 0 σ μ σb μb := fun g => by
    have := hQ σ μ (by unfold pwX; rw [itp_neg g]; exact hC)
    unfold pwA at this; rw [itp_neg g] at this; exact this
  refine sc_win (lo := 0) (hi := 9999) (by omega) (by omega) rfl rfl (fun _ a => ⟨fun z => absurd z (by decide), fun _ => ?_⟩) (fun g => ⟨fun _ => no (fun c => g ⟨Nat.zero_le _, c.1⟩), fun z => absurd rfl z⟩)
  refine sc_win (lo := 0) (hi := 255) (by omega) (by omega) rfl rfl (fun _ b => ⟨fun _ σ1 e1 σ2 e2 => ?_, fun z => absurd z (by decide)⟩) (fun g => ⟨fun z => absurd rfl z, fun _ => no (fun c => g ⟨Nat.zero_le _, c.2⟩)⟩)
  have g : pwG x1 x2 := ⟨a, b⟩
  obtain ⟨⟨⟨a3, a4, a5, a8, a9, a10⟩, hb⟩, h1, on, off, hch⟩ := hC
  have fs : ∀ q, q ≠ 8 → q ≠ 9 → σ2 q = σ q := fun q q8 q9 => by rw [e2, up_n q9, e1, up_n q8]
  have u : ∀ q, q ≠ 4 → q ≠ 5 → ux (ux X 4 (tn x1)) 5 (tn x2) q = X q := fun q h4 h5 => by rw [ux_n h5, ux_n h4]
  have := hQ σ2 μ (by
    unfold pwX; rw [itp_pos g]
    refine ⟨⟨⟨?_, ?_, ?_, ?_, ?_, ?_⟩, hb.ex (u 0 (by omega) (by omega)) (u 1 (by omega) (by omega)) (fun q hq => u q (by omega) (by omega))⟩, ?_, fun c => ?_, fun c => ?_, ?_⟩
    · rw [fs _ (by omega) (by omega), u _ (by omega) (by omega)]; exact a3
    · rw [fs _ (by omega) (by omega), u _ (by omega) (by omega)]; exact a4
    · rw [fs _ (by omega) (by omega), u _ (by omega) (by omega)]; exact a5
    · rw [e2, up_n (by omega), e1, up_s, ux_n (by omega), ux_s]; exact tn_e x1
    · rw [e2, up_s, ux_s]; exact tn_e x2
    · rw [fs _ (by omega) (by omega), u _ (by omega) (by omega)]; exact a10
    · rw [fs _ (by omega) (by omega), u _ (by omega) (by omega)]; exact h1
    · rw [u _ (by omega) (by omega)] at c
      rw [fs _ (by omega) (by omega), fs _ (by omega) (by omega), u _ (by omega) (by omega)]; exact on c
    · rw [u _ (by omega) (by omega)] at c
      rw [fs _ (by omega) (by omega), fs _ (by omega) (by omega)]; exact off c
    · refine ⟨fun c => ?_, fun c => ?_⟩
      · rw [u _ (by omega) (by omega)] at c
        obtain ⟨h15, h16, hj⟩ := hch.1 c
        refine ⟨by rw [fs _ (by omega) (by omega)]; exact h15, by rw [fs _ (by omega) (by omega), u _ (by omega) (by omega)]; exact h16, fun j hlt => ?_⟩
        rw [u _ (by omega) (by omega)] at hlt
        rw [u _ (by omega) (by omega), u _ (by omega) (by omega), u _ (by omega) (by omega)]; exact hj j hlt
      · rw [u _ (by omega) (by omega)] at c
        rw [fs _ (by omega) (by omega)]; exact hch.2 c)
  unfold pwA at this; rw [itp_pos g] at this; exact this
theorem cf_rot (hC : RCn σ μ X) (hI : IX N X) {x1 x2 x3 : Int32} {Q : Int32 → Rg → Ar → Rg → Ar → Prop} (hQ : ∀ σ' μ', RCn σ' μ' (rtX X x1 x2 x3) → Q (rtA X x1 x2 x3) σ' μ' σb μb) : wp_X5_rot σ μ σb μb x1 x2 x3 Q := by
  have hB := hI.1
  have b6 := hB.2.1
  have b1 := hB.2.2.2.1
  have no : ¬ rtG X x1 x2 x3 → Q (-1) σ μ σb μb := fun g => by
    have := hQ σ μ (by unfold rtX; rw [itp_neg g]; exact hC)
    unfold rtA at this; rw [itp_neg g] at this; exact this
  refine sc_isOn hC hI (fun e => ⟨fun _ => no (fun c => absurd (c.1.symm.trans e) (by decide)), fun z => absurd z (by decide)⟩) (fun e => ⟨fun z => absurd rfl z, fun _ => ?_⟩)
  refine sc_holds hC.1.1.1 hC.1.1.2.1 b6 b1 (fun s1 s2 => ⟨fun z => absurd z (by decide), fun _ => ?_⟩) (fun g => ⟨fun _ => no (fun c => g ⟨c.2.1, c.2.2.1⟩), fun z => absurd rfl z⟩)
  refine sc_win (lo := 0) (hi := 255) (by omega) (by omega) rfl rfl (fun _ s3 => ⟨fun _ => ?_, fun z => absurd z (by decide)⟩) (fun g => ⟨fun z => absurd rfl z, fun _ => no (fun c => g ⟨Nat.zero_le _, c.2.2.2⟩)⟩)
  have g : rtG X x1 x2 x3 := ⟨e, s1, s2, s3⟩
  obtain ⟨⟨hS, hb⟩, h1, on, off, hch⟩ := hC
  have hl := ad_lt s1 s2 b6 b1
  have ea : (x1 * σ 4) + x2 = nI (tn x1 * X 1 + tn x2) := by
    have := adI (s := tn x1) (p := tn x2) hS.2.1
    rw [← tn_e x1, ← tn_e x2] at this; exact this
  have vin : vp_in ((x1 * σ 4) + x2) 768 := pk_in _ 768 hl ea
  refine sc_holds hS.1 hS.2.1 b6 b1 (fun _ _ => ⟨fun _ => ⟨vin, vin, fun μ3 e3 => ⟨vin, ?_⟩⟩, fun z => absurd z (by decide)⟩) (fun c => absurd ⟨s1, s2⟩ c)
  rw [ea, nI_clamp (by omega), hb.1 _ _ s1 s2] at e3
  rw [ea, nI_clamp (by omega)]
  have ev : nI (bt X (tn x1) (tn x2)) &&& x3 = nI (bt X (tn x1) (tn x2) &&& tn x3) := by
    have := i_and (bt X (tn x1) (tn x2)) (tn x3)
    rw [← tn_e x3] at this; exact this
  rw [ev] at e3
  have eq : μ3 0 (tn x1 * X 1 + tn x2) = nI (bt X (tn x1) (tn x2) &&& tn x3) := by rw [e3, ua_s, up_s]
  rw [eq]
  have u : ∀ q, q < 42 → ux X (42 + 128 * tn x1 + tn x2) (bt X (tn x1) (tn x2) &&& tn x3) q = X q := fun q hq => ux_n (by omega)
  have := hQ σ μ3 (by
    unfold rtX; rw [itp_pos g]
    refine ⟨⟨hS.xs (fun q hq => u q (by omega)), ⟨fun s p q1 q2 => ?_, fun s q1 => ?_⟩⟩, by rw [u _ (by omega)]; exact h1, fun c => ?_, fun c => ?_, ?_⟩
    · rw [u _ (by omega)] at q1
      rw [u _ (by omega)] at q2 ⊢
      rw [e3, ua_s]
      by_cases gq : s = tn x1 ∧ p = tn x2
      · obtain ⟨ga, gb⟩ := gq
        subst ga gb
        rw [up_s]
        unfold bt
        rw [ux_s]
      · rw [up_n (fun c => gq (ad_inj q2 s2 c)), hb.1 s p q1 q2]
        unfold bt
        rw [ux_n (by omega)]
    · rw [u _ (by omega)] at q1
      rw [e3, ua_n (by omega), u _ (by omega)]; exact hb.2 s q1
    · rw [u _ (by omega)] at c
      rw [u _ (by omega)]; exact on c
    · rw [u _ (by omega)] at c; exact off c
    · have h := hch.fx (σ' := σ) (μ' := μ3) ⟨rfl, rfl, fun q _ _ => by rw [e3, ua_n (by omega)]⟩
      exact h.ch (u _ (by omega)) (fun q _ _ => u q (by omega)) (h11_of hI))
  unfold rtA at this; rw [itp_pos g] at this; exact this
theorem cf_sets (hC : RCn σ μ X) (hI : IX N X) (hN : N < 2 ^ 28) (h2 : X 2 = 1) {t n : Nat} {v x y : Int32} (ht : t ≤ 31) (hn : n ≤ 4) {Q : Int32 → Rg → Ar → Prop} (hQ : ∀ σ' μ', RCn σ' μ' (ssX X t n v) → Q (ssA X t n v) σ' μ') (hx : x = nI t) (hy : y = nI n) : (((σ 15) = 0 → wp_X4_keep σ μ x v y Q) ∧ (¬ (σ 15) = 0 → wp_X0_tell σ μ x v y Q)) := by
  have b10 := hI.1.2.2.2.2.2.2.2.1
  unfold ssX ssA at hQ
  by_cases h10 : X 10 = 1
  · rw [if_pos h10, if_pos h10] at hQ
    have := (hC.2.2.2.2.1 h10).1
    exact ⟨fun z => absurd (this.symm.trans z) (by decide), fun _ => sc_tell hC hI h10 ht hQ hx hy⟩
  · rw [if_neg h10, if_neg h10] at hQ
    have := hC.2.2.2.2.2 (by omega)
    exact ⟨fun _ => sc_keep hC hI hN h2 ht hn hQ hx hy, fun z => absurd this z⟩
theorem sc_isSetting {x1 x2 : Int32} {Q : Int32 → Prop} (h1 : tn x1 ≤ 31 → 1 ≤ tn x2 → tn x2 ≤ 4 → Q 1) (h0 : ¬ (tn x1 ≤ 31 ∧ 1 ≤ tn x2 ∧ tn x2 ≤ 4) → Q 0) : wp_X5_isSetting x1 x2 Q := by
  refine sc_win (lo := 0) (hi := 31) (by omega) (by omega) rfl rfl (fun _ a => ⟨fun z => absurd z (by decide), fun _ => ?_⟩) (fun g => ⟨fun _ => ⟨bz0, h0 (fun c => g ⟨Nat.zero_le _, c.1⟩)⟩, fun z => absurd rfl z⟩)
  exact sc_win (lo := 1) (hi := 4) (by omega) (by omega) rfl rfl (fun b c => ⟨fun z => absurd z (by decide), fun _ => ⟨bz1, h1 a b c⟩⟩) (fun g => ⟨fun _ => ⟨bz0, h0 (fun c => g c.2)⟩, fun z => absurd rfl z⟩)
theorem cf_set (hC : RCn σ μ X) (hI : IX N X) (hN : N < 2 ^ 28) {x1 v x3 : Int32} {Q : Int32 → Rg → Ar → Rg → Ar → Prop} (hQ : ∀ σ' μ', RCn σ' μ' (seX X x1 v x3) → Q (seA X x1 v x3) σ' μ' σb μb) : wp_X5_set σ μ σb μb x1 v x3 Q := by
  have no : ¬ seG X x1 x3 → Q (-1) σ μ σb μb := fun g => by
    have := hQ σ μ (by unfold seX; rw [itp_neg g]; exact hC)
    unfold seA at this; rw [itp_neg g] at this; exact this
  refine sc_isOn hC hI (fun e => ⟨fun z => absurd z (by decide), fun _ => ?_⟩) (fun e => ⟨fun _ => no (fun c => absurd (c.1.symm.trans e) (by decide)), fun z => absurd rfl z⟩)
  refine sc_isSetting (fun a b c => ⟨fun _ => ?_, fun z => absurd z (by decide)⟩) (fun g => ⟨fun z => absurd rfl z, fun _ => no (fun c => g c.2)⟩)
  have g : seG X x1 x3 := ⟨e, a, b, c⟩
  refine cf_sets hC hI hN e a c (fun σ' μ' C' => ?_) (tn_e x1) (tn_e x3)
  have := hQ σ' μ' (by unfold seX; rw [itp_pos g]; exact C')
  unfold seA at this; rw [itp_pos g] at this; exact this
theorem cf_drop (hC : RCn σ μ X) (hI : IX N X) (hN : N < 2 ^ 28) {x : Int32} {Q : Int32 → Rg → Ar → Rg → Ar → Prop} (hQ : ∀ σ' μ', RCn σ' μ' (dpX X x) → Q (dpA X x) σ' μ' σb μb) : wp_X5_drop σ μ σb μb x Q := by
  have hB := hI.1
  have b10 := hB.2.2.2.2.2.2.2.1
  have h3 := hI.2.1
  have no : ¬ dpG X x → ∀ σ' μ', RCn σ' μ' X → Q (-1) σ' μ' σb μb := fun g σ' μ' C' => by
    have := hQ σ' μ' (by unfold dpX; rw [itp_neg g]; exact C')
    unfold dpA at this; rw [itp_neg g] at this; exact this
  refine sc_isOn hC hI (fun e => ⟨fun z => absurd z (by decide), fun _ => ?_⟩) (fun e => ⟨fun _ => no (fun c => absurd (c.1.symm.trans e) (by decide)) σ μ hC, fun z => absurd rfl z⟩)
  refine sc_win (lo := 0) (hi := 31) (by omega) (by omega) rfl rfl (fun _ b => ⟨fun z => absurd z (by decide), fun _ => ?_⟩) (fun g => ⟨fun _ => no (fun c => g ⟨Nat.zero_le _, c.2.1⟩) σ μ hC, fun z => absurd rfl z⟩)
  have yes : dpk X (tn x) → ∀ σ1 μ1, RCn σ1 μ1 X → (((σ1 15) = 0 → wp_X4_keep σ1 μ1 x 0 0 (fun r67 σa67 μa67 => Q r67 σa67 μa67 σb μb)) ∧ (¬ (σ1 15) = 0 → wp_X0_tell σ1 μ1 x 0 0 (fun r56 σa56 μa56 => Q r56 σa56 μa56 σb μb))) := fun c σ1 μ1 C1 => by
    have g : dpG X x := ⟨e, b, c⟩
    refine cf_sets (n := 0) (v := 0) C1 hI hN e b (by omega) (fun σ' μ' C' => ?_) (tn_e x) rfl
    have := hQ σ' μ' (by unfold dpX; rw [itp_pos g]; exact C')
    unfold dpA at this; rw [itp_pos g] at this; exact this
  -- the answer of wouldHave
  have w1 : dpk X (tn x) → ∀ σ1 μ1, RCn σ1 μ1 X → (fun (r25 : Int32) (σa25 : Rg) (μa25 : Ar) => ((¬ r25 = 0 → (((σa25 15) = 0 → wp_X4_keep σa25 μa25 x 0 0 (fun r67 σa67 μa67 => Q r67 σa67 μa67 σb μb)) ∧ (¬ (σa25 15) = 0 → wp_X0_tell σa25 μa25 x 0 0 (fun r56 σa56 μa56 => Q r56 σa56 μa56 σb μb)))) ∧ (r25 = 0 → wb_X5_drop_31 Q σa25 μa25 σb μb))) 1 σ1 μ1 := fun c σ1 μ1 C1 => ⟨fun _ => yes c σ1 μ1 C1, fun z => absurd z (by decide)⟩
  have w0 : ¬ dpk X (tn x) → ∀ σ1 μ1, RCn σ1 μ1 X → (fun (r25 : Int32) (σa25 : Rg) (μa25 : Ar) => ((¬ r25 = 0 → (((σa25 15) = 0 → wp_X4_keep σa25 μa25 x 0 0 (fun r67 σa67 μa67 => Q r67 σa67 μa67 σb μb)) ∧ (¬ (σa25 15) = 0 → wp_X0_tell σa25 μa25 x 0 0 (fun r56 σa56 μa56 => Q r56 σa56 μa56 σb μb)))) ∧ (r25 = 0 → wb_X5_drop_31 Q σa25 μa25 σb μb))) 0 σ1 μ1 := fun c σ1 μ1 C1 => ⟨fun z => absurd rfl z, fun _ => no (fun d => c d.2.2) σ1 μ1 C1⟩
  have c22 : ¬ (X 10 = 1 ∧ icN X (tn x) (X 11) ≠ 0) → wb_X4_wouldHave_22 (fun (r25 : Int32) (σa25 : Rg) (μa25 : Ar) => ((¬ r25 = 0 → (((σa25 15) = 0 → wp_X4_keep σa25 μa25 x 0 0 (fun r67 σa67 μa67 => Q r67 σa67 μa67 σb μb)) ∧ (¬ (σa25 15) = 0 → wp_X0_tell σa25 μa25 x 0 0 (fun r56 σa56 μa56 => Q r56 σa56 μa56 σb μb)))) ∧ (r25 = 0 → wb_X5_drop_31 Q σa25 μa25 σb μb))) σ μ x (-1) := fun nc => by
    have ed : dpk X (tn x) = hv X (X 3) (tn x) := by unfold dpk; rw [if_neg nc]
    rw [ed] at w1 w0
    refine ⟨fun _ => ?_, fun z => absurd rfl z⟩
    refine sc_scan hC.1.1 hC.1.2 hB h3 (fun σ1 μ1 f1 g1 D1 => ?_) (hC.2.2.1 e).1
    have C1 := hC.fc f1 g1
    exact sc_hasValue hB D1 (by omega) (fun g => ⟨bz1, w1 g σ1 μ1 C1⟩) (fun g => ⟨bz0, w0 g σ1 μ1 C1⟩) (tn_e x)
  by_cases h10 : X 10 = 1
  · obtain ⟨c1, c2⟩ := hI.2.2 h10
    obtain ⟨h15, hG⟩ := hC.2.2.2.2.1 h10
    refine ⟨fun z => absurd (h15.symm.trans z) (by decide), fun _ => ?_⟩
    refine sc_find hG c1 (fun k hk => (c2 k hk).1) b ?_ (tn_e x)
    by_cases h0 : icN X (tn x) (X 11) = 0
    · rw [h0]; exact c22 (fun c => c.2 h0)
    · have hle := icN_le X (tn x) (X 11)
      have h28 := (c2 (icN X (tn x) (X 11) - 1) (by omega)).2
      have ed : dpk X (tn x) = (0 < X (28 + (icN X (tn x) (X 11) - 1))) := by unfold dpk; rw [if_pos ⟨h10, h0⟩]
      rw [ed] at w1 w0
      rw [nwI_some h0]
      refine ⟨fun z => absurd (by rw [z]; decide) (nI_pos (n := icN X (tn x) (X 11) - 1) (by omega)), fun _ => ⟨pk_in _ 8 (by omega) rfl, ?_⟩⟩
      rw [nI_clamp (by omega), (hG.2 (icN X (tn x) (X 11) - 1) (by omega)).2.2]
      exact pk_le (X (28 + (icN X (tn x) (X 11) - 1))) 0 (fun z => ⟨bz0, w0 (by omega) σ μ hC⟩) (fun z => ⟨bz1, w1 z σ μ hC⟩) rfl rfl
  · have h15 := hC.2.2.2.2.2 (by omega)
    exact ⟨fun _ => c22 (fun c => h10 c.1), fun z => absurd h15 z⟩
theorem cf_bump (hC : RCn σ μ X) (hI : IX N X) (hN : N < 2 ^ 28) {x : Int32} {Q : Int32 → Rg → Ar → Rg → Ar → Prop} (hQ : ∀ σ' μ', RCn σ' μ' (bmX X x) → Q (bmA X x) σ' μ' σb μb) : wp_X5_bump σ μ σb μb x Q := by
  have b10 := hI.1.2.2.2.2.2.2.2.1
  have no : ¬ bmG X x → Q (-1) σ μ σb μb := fun g => by
    have := hQ σ μ (by unfold bmX; rw [itp_neg g]; exact hC)
    unfold bmA at this; rw [itp_neg g] at this; exact this
  refine sc_isOn hC hI (fun e => ⟨fun z => absurd z (by decide), fun _ => ?_⟩) (fun e => ⟨fun _ => no (fun c => absurd (c.1.symm.trans e) (by decide)), fun z => absurd rfl z⟩)
  by_cases h10 : X 10 = 1
  · have h15 := (hC.2.2.2.2.1 h10).1
    exact ⟨fun _ => no (fun c => c.2.1 h10), fun z => absurd (h15.symm.trans z) (by decide)⟩
  · have h15 := hC.2.2.2.2.2 (by omega)
    refine ⟨fun z => absurd h15 z, fun _ => ?_⟩
    exact sc_win (lo := 32) (hi := 47) (by omega) (by omega) rfl rfl (fun a b => ⟨fun _ => sc_countUp hC hI hN e h10 a b hQ, fun z => absurd z (by decide)⟩) (fun g => ⟨fun z => absurd rfl z, fun _ => no (fun c => g c.2.2.1)⟩)
theorem cf_begin (hC : RCn σ μ X) (hI : IX N X) {Q : Int32 → Rg → Ar → Rg → Ar → Prop} (hQ : ∀ σ' μ', RCn σ' μ' (bgX X) → Q (bgA X) σ' μ' σb μb) : wp_X5_begin σ μ σb μb Q := by
  have b10 := hI.1.2.2.2.2.2.2.2.1
  unfold bgX bgA at hQ
  refine sc_isOn hC hI (fun e => ⟨fun z => absurd z (by decide), fun _ => ?_⟩) (fun e => ⟨fun _ => ?_, fun z => absurd rfl z⟩)
  rotate_left
  · have n : ¬ (X 2 = 1 ∧ X 10 ≠ 1) := by omega
    rw [if_neg n, if_neg n] at hQ
    exact hQ σ μ hC
  by_cases h10 : X 10 = 1
  · have h15 := (hC.2.2.2.2.1 h10).1
    have n : ¬ (X 2 = 1 ∧ X 10 ≠ 1) := by omega
    rw [if_neg n, if_neg n] at hQ
    exact ⟨fun z => absurd (h15.symm.trans z) (by decide), fun _ => hQ σ μ hC⟩
  · have h15 := hC.2.2.2.2.2 (by omega)
    rw [if_pos ⟨e, h10⟩, if_pos ⟨e, h10⟩] at hQ
    obtain ⟨⟨hS, hb⟩, h1, on, off, hch⟩ := hC
    refine ⟨fun _ σ1 e1 σ2 e2 => ?_, fun z => absurd h15 z⟩
    have fs : ∀ q, q ≠ 15 → q ≠ 16 → σ2 q = σ q := fun q q15 q16 => by rw [e2, up_n q16, e1, up_n q15]
    have u : ∀ q, q ≠ 10 → q ≠ 11 → ux (ux X 10 1) 11 0 q = X q := fun q a b => by rw [ux_n b, ux_n a]
    refine hQ σ2 μ ⟨⟨(hS.fs (fun q hq => fs q (by omega) (by omega))).xs (fun q hq => u q (by omega) (by omega)), hb.ex (u 0 (by omega) (by omega)) (u 1 (by omega) (by omega)) (fun q hq => u q (by omega) (by omega))⟩, ?_, fun c => ?_, fun c => ?_, fun _ => ⟨?_, ?_, fun j hj => ?_⟩, fun c => ?_⟩
    · rw [fs _ (by omega) (by omega), u _ (by omega) (by omega)]; exact h1
    · rw [fs _ (by omega) (by omega), fs _ (by omega) (by omega), u _ (by omega) (by omega)]; exact on e
    · rw [u _ (by omega) (by omega)] at c; omega
    · rw [e2, up_n (by omega), e1, up_s]
    · rw [e2, up_s, ux_s]; rfl
    · rw [ux_s] at hj; omega
    · rw [ux_n (by omega), ux_s] at c; exact absurd c (by decide)
theorem sc_forget {Q : Rg → Ar → Prop} (hQ : ∀ σ', σ' 15 = 0 → (∀ q, q ≠ 15 → q ≠ 16 → σ' q = σ q) → Q σ' μ) : wp_X0_forget σ μ Q := by
  intro σ1 e1 σ2 e2
  exact hQ σ2 (by rw [e2, up_n (by omega), e1, up_s]) (fun q q15 q16 => by rw [e2, up_n q16, e1, up_n q15])
theorem RCn.x10 {σ' : Rg} (hC : RCn σ μ X) (h15 : σ' 15 = 0) (fs : ∀ q, q ≠ 15 → q ≠ 16 → σ' q = σ q) : RCn σ' μ (ux X 10 0) := by
  obtain ⟨⟨hS, hb⟩, h1, on, off, hch⟩ := hC
  refine ⟨⟨(hS.fs (fun q hq => fs q (by omega) (by omega))).xs (fun q hq => ux_n (by omega)), hb.ex (ux_n (by omega)) (ux_n (by omega)) (fun q hq => ux_n (by omega))⟩, ?_, fun c => ?_, fun c => ?_, fun c => ?_, fun _ => h15⟩
  · rw [fs _ (by omega) (by omega), ux_n (by omega)]; exact h1
  · rw [ux_n (by omega)] at c
    rw [fs _ (by omega) (by omega), fs _ (by omega) (by omega), ux_n (by omega)]; exact on c
  · rw [ux_n (by omega)] at c
    rw [fs _ (by omega) (by omega), fs _ (by omega) (by omega)]; exact off c
  · rw [ux_s] at c; exact absurd c (by decide)
theorem cf_abort (hC : RCn σ μ X) (hI : IX N X) {Q : Int32 → Rg → Ar → Rg → Ar → Prop} (hQ : ∀ σ' μ', RCn σ' μ' (abX X) → Q (abA X) σ' μ' σb μb) : wp_X5_abort σ μ σb μb Q := by
  have b10 := hI.1.2.2.2.2.2.2.2.1
  unfold abX abA at hQ
  by_cases h10 : X 10 = 1
  · obtain ⟨h15, hG⟩ := hC.2.2.2.2.1 h10
    have n : ¬ X 10 = 0 := by omega
    rw [if_neg n, if_neg n] at hQ
    refine ⟨fun _ y ey => ?_, fun z => absurd (h15.symm.trans z) (by decide)⟩
    rw [ey, hG.1]
    exact sc_forget (fun σ' c15 fs => hQ σ' μ (hC.x10 c15 fs))
  · have h0 : X 10 = 0 := by omega
    have h15 := hC.2.2.2.2.2 h0
    rw [if_pos h0, if_pos h0] at hQ
    exact ⟨fun z => absurd h15 z, fun _ => hQ σ μ hC⟩
theorem cf_commit (hC : RCn σ μ X) (hI : IX N X) (hJ : JX X) (hN : N < 2 ^ 28) {Q : Int32 → Rg → Ar → Rg → Ar → Prop} (hQ : ∀ σ' μ', RCn σ' μ' (cmX X) → Q (cmA X) σ' μ' σb μb) : wp_X5_commit σ μ σb μb Q := by
  have b10 := hI.1.2.2.2.2.2.2.2.1
  by_cases h10 : X 10 = 1
  · obtain ⟨h15, hG⟩ := hC.2.2.2.2.1 h10
    have c1 := (hI.2.2 h10).1
    refine ⟨fun _ => And.comm.mp (pk_eq (X 11) 0 (fun z => ?_) (fun z => sc_writeChange hC hI hN (hJ h10) h10 z hQ) hG.1 rfl), fun z => absurd (h15.symm.trans z) (by decide)⟩
    have n : ¬ X 10 = 0 := by omega
    unfold cmX cmA at hQ
    rw [if_neg n, if_neg n, if_pos z, if_pos z] at hQ
    exact sc_forget (fun σ' c15 fs => hQ σ' μ (hC.x10 c15 fs))
  · have h0 : X 10 = 0 := by omega
    have h15 := hC.2.2.2.2.2 h0
    unfold cmX cmA at hQ
    rw [if_pos h0, if_pos h0] at hQ
    exact ⟨fun z => absurd h15 z, fun _ => hQ σ μ hC⟩
theorem cf_hand (hC : RCn σ μ X) (hI : IX N X) (hN : N < 2 ^ 28) {Q : Int32 → Rg → Ar → Rg → Ar → Prop} (hQ : ∀ σ' μ', RCn σ' μ' (hnX X) → Q (hnA X) σ' μ' σb μb) : wp_X5_hand σ μ σb μb Q := by
  refine sc_isOn hC hI (fun e => ⟨fun z => absurd z (by decide), fun _ => sc_handByHand hC hI hN e hQ⟩) (fun e => ⟨fun _ => ?_, fun z => absurd rfl z⟩)
  have n : ¬ X 2 = 1 := by omega
  unfold hnX hnA at hQ
  rw [if_neg n, if_neg n] at hQ
  exact hQ σ μ hC
end CL
