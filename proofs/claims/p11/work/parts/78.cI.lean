/-! theirs: by hand, counting up, telling, a change written -/
section CI
variable {σ : Rg} {μ : Ar} {X : Nat → Nat} {N k : Nat}
theorem nff {P : Prop} (c : false = true) : P := absurd c (by decide)
theorem sc_handByHand (hC : RCn σ μ X) (hI : IX N X) (hN : N < 2 ^ 28) (h2 : X 2 = 1) {Q : Int32 → Rg → Ar → Prop} (hQ : ∀ σ' μ', RCn σ' μ' (hnX X) → Q (hnA X) σ' μ') : wp_X4_handOverByHand σ μ Q := by
  have hB := hI.1
  have h3 := hI.2.1
  intro σ1 e1
  obtain ⟨Z1, a0, a1, x1⟩ := hC.z0 h2 e1
  have hch : RCh X σ μ := hC.2.2.2.2
  have hZB : XB N (ux X 8 0) := x8_XB hB
  have h30 := x8_3 h3
  have u3 : (ux X 8 0) 3 = X 3 := ux_n (by omega)
  have u7 : (ux X 8 0) 7 = X 7 := ux_n (by omega)
  unfold hnX hnA at hQ
  rw [if_pos h2, if_pos h2] at hQ
  refine sc_scan Z1.1.1 Z1.1.2 hZB h30 (fun σ2 μ2 f2 g2 D2 => ?_) (by rw [u3]; exact a0)
  refine sc_handOver (Z := (ux X 8 0, false)) (Z1.fc f2 g2) hZB (by omega) h30 (by rw [f2 0 (by omega) (by omega) (by omega) (by omega)]; dsimp only; rw [u3]; exact a0) (by rw [f2 1 (by omega) (by omega) (by omega) (by omega)]; dsimp only; rw [u7]; exact a1) D2 (fun σ3 μ3 Z3 c0 c1 fs fm => ?_)
  have G : GZ (ux X 8 0, false) (hoZ (ux X 8 0, false)) := gz_hoZ
  have dn : DN X (hoZ (ux X 8 0, false)).1 := dn_tr (dn_ux (by omega)) (dn_hoZ (Z := (ux X 8 0, false)))
  have x3 : FX σ μ σ3 μ3 := x1.tr ((FX.fc f2 g2).tr (FX.fh fs fm))
  refine sc_out Z3 c0 c1 (fun g => G.1 g nff) (fun g => ?_) (fun σ5 μ5 C5 => ?_)
  · obtain ⟨_, g2, g10⟩ := G.2 g
    exact ⟨by rw [g2]; dsimp only; rw [ux_n (by omega)]; exact h2, (hch.fx x3).ch (by rw [g10]; dsimp only; rw [ux_n (by omega)]) dn.1 (h11_of hI)⟩
  · have := hQ σ5 μ5 C5
    unfold tdI at this
    rw [Z3.2.1, Nat.zero_add]
    exact this
/-! the highest bit, by hand -/
theorem hbz : ∀ j, j < 8 → ∀ b, b < 256 → b < 2 ^ (j + 1) → ((nI b &&& nI (2 ^ j) = 0) ↔ b < 2 ^ j) := by decide +kernel
theorem hbj : ∀ j, j < 8 → ∀ b, b < 256 → 2 ^ j ≤ b → b < 2 ^ (j + 1) → hb8 b = 2 ^ j := by decide +kernel
theorem hbd : ∀ j, j < 7 → nI (2 ^ (j + 1)) / (2 : Int32) = nI (2 ^ j) := by decide +kernel
theorem hbx : ∀ b, b < 256 → nI b ^^^ nI (hb8 b) = nI (b - hb8 b) := by decide +kernel
theorem hbp : ∀ j, j < 8 → ¬ nI (2 ^ j) ≤ 0 := by decide +kernel
theorem sc_highestBit {b : Nat} (hb : b < 256) (h0 : 0 < b) {Q : Int32 → Prop} (hQ : Q (nI (hb8 b))) : wp_X4_highestBit (nI b) Q := by
  have key : ∀ j, j < 8 → b < 2 ^ (j + 1) → wl_X4_highestBit_4 Q (j + 1) (nI b) (nI (2 ^ j)) := by
    intro j
    induction j with
    | zero =>
      intro _ hl
      refine ⟨fun z => absurd z (hbp 0 (by omega)), fun _ => ⟨fun z => ?_, fun _ => ?_⟩⟩
      · have := (hbz 0 (by omega) b hb hl).mp z
        change b < 1 at this
        omega
      · rw [← hbj 0 (by omega) b hb (by show 1 ≤ b; omega) hl]; exact hQ
    | succ j ih =>
      intro hj hl
      refine ⟨fun z => absurd z (hbp (j + 1) hj), fun _ => ⟨fun z y ey => ?_, fun z => ?_⟩⟩
      · have := (hbz (j + 1) hj b hb hl).mp z
        rw [ey, hbd j (by omega)]
        exact ih (by omega) this
      · have : ¬ b < 2 ^ (j + 1) := fun c => z ((hbz (j + 1) hj b hb hl).mpr c)
        rw [← hbj (j + 1) hj b hb (by omega) hl]; exact hQ
  exact ⟨8, key 7 (by omega) hb⟩
theorem fz8 (X : Nat → Nat) (s p v : Nat) : ∀ j, fzN (ux X 8 v) s p j = fzN X s p j
  | 0 => rfl
  | j + 1 => by
    show (if fzN (ux X 8 v) s p j ≠ 0 then fzN (ux X 8 v) s p j else if bt (ux X 8 v) s (p + j) ≠ 0 then j + 1 else 0) = _
    rw [fz8 X s p v j, bt_ux (by omega)]; rfl
theorem fz_bt (X : Nat → Nat) (s p : Nat) : ∀ j, fzN X s p j ≠ 0 → bt X s (p + (fzN X s p j - 1)) ≠ 0
  | 0, h => absurd rfl h
  | j + 1, h => by
    by_cases g : fzN X s p j ≠ 0
    · rw [show fzN X s p (j + 1) = fzN X s p j from if_pos g]; exact fz_bt X s p j g
    · have e : fzN X s p (j + 1) = if bt X s (p + j) ≠ 0 then j + 1 else 0 := if_neg g
      by_cases g2 : bt X s (p + j) ≠ 0
      · rw [if_pos g2] at e; rw [e]; exact g2
      · rw [if_neg g2] at e; exact absurd e h
theorem RCn.z1 (h : RCn σ μ X) (h2 : X 2 = 1) : RZ (tn (σ 6)) σ μ (ux X 8 0, false) ∧ σ 0 = nI (X 3) ∧ σ 1 = nI (X 7) := by
  obtain ⟨⟨⟨a3, a4, a5, a8, a9, a10⟩, hb⟩, h1, on, _, _⟩ := h
  have hon := on h2
  refine ⟨⟨⟨⟨?_, ?_, ?_, ?_, ?_, ?_⟩, ⟨fun s p q1 q2 => ?_, fun s q1 => ?_⟩⟩, ?_, ?_⟩, hon.1, h1⟩
  · dsimp only; rw [ux_n (by omega)]; exact a3
  · dsimp only; rw [ux_n (by omega)]; exact a4
  · dsimp only; rw [ux_n (by omega)]; exact a5
  · dsimp only; rw [ux_n (by omega)]; exact a8
  · dsimp only; rw [ux_n (by omega)]; exact a9
  · dsimp only; rw [ux_n (by omega)]; exact a10
  · dsimp only at q1 q2 ⊢; rw [ux_n (by omega)] at q1 q2 ⊢; rw [bt_ux (by omega)]; exact hb.1 s p q1 q2
  · dsimp only at q1 ⊢; rw [ux_n (by omega)] at q1 ⊢; exact hb.2 s q1
  · dsimp only; rw [ux_s, Nat.add_zero]; exact tn_e _
  · exact hon.2
theorem sc_countUp (hC : RCn σ μ X) (hI : IX N X) (hN : N < 2 ^ 28) (h2 : X 2 = 1) (h10 : X 10 ≠ 1) {x : Int32} (ha : 32 ≤ tn x) (hb : tn x ≤ 47) {Q : Int32 → Rg → Ar → Prop} (hQ : ∀ σ' μ', RCn σ' μ' (bmX X x) → Q (bmA X x) σ' μ') : wp_X4_countUp σ μ x Q := by
  have hB := hI.1
  have b6 := hB.2.1
  have b128 := hB.2.2.2.1
  have h3 := hI.2.1
  have hch : RCh X σ μ := hC.2.2.2.2
  have hZB : XB N (ux X 8 0) := x8_XB hB
  have h30 := x8_3 h3
  have u3 : (ux X 8 0) 3 = X 3 := ux_n (by omega)
  have u7 : (ux X 8 0) 7 = X 7 := ux_n (by omega)
  have hon := hC.2.2.1 h2
  have yes : bmG X x → ∀ σ' μ', RCn σ' μ' (bmZ X (tn x)).1 → Q (bmB X (tn x)) σ' μ' := fun g σ' μ' C' => by
    have := hQ σ' μ' (by unfold bmX; rw [itp_pos g]; exact C')
    unfold bmA at this; rw [itp_pos g] at this; exact this
  have vlt : bmV X (tn x) < 2 ^ 31 := by
    unfold bmV
    split
    · omega
    · rename_i hne
      exact (vlN_lt hB (by omega) (nwt_i hB hne).1 (nwt_i hB hne).2.1).2 (kd_ct hB hne ha)
  have G : GZ (ux X 8 0, false) (bmZ X (tn x)) := by
    unfold bmZ itp
    split
    · exact gz_wr
    · split
      · exact gz_tr gz_mrZ (gz_lay _ _)
      · exact gz_rf
  have dn : DN X (bmZ X (tn x)).1 := by
    refine dn_tr (dn_ux (k := 8) (v := 0) (by omega)) ?_
    unfold bmZ itp
    split
    · exact dn_wr (Z := (ux X 8 0, false))
    · split
      · exact dn_tr (dn_mrZ (Z := (ux X 8 0, false))) (dn_lay _ _)
      · exact dn_rf
  refine sc_scan hC.1.1 hC.1.2 hB h3 (fun σ1 μ1 f1 g1 D1 => ?_) hon.1
  have hx1 := FX.fc f1 g1
  obtain ⟨Z0, a0, a1⟩ := hC.z1 h2
  have Z1 := Z0.fc f1 g1
  have c0 : σ1 0 = nI (X 3) := by rw [f1 0 (by omega) (by omega) (by omega) (by omega)]; exact a0
  have c1 : σ1 1 = nI (X 7) := by rw [f1 1 (by omega) (by omega) (by omega) (by omega)]; exact a1
  -- the end
  have o : bmG X x → (bmU X (tn x) ∨ fits 14 (ux X 8 0, false)) → ∀ σ4 μ4, RZ (tn (σ 6)) σ4 μ4 (bmZ X (tn x)) → σ4 0 = nI ((bmZ X (tn x)).1 3) → σ4 1 = nI ((bmZ X (tn x)).1 7) → FX σ μ σ4 μ4 → wp_X4_outcome σ4 μ4 (nI (bmV X (tn x)) + 1) (fun r60 σ60 μ60 => Q r60 σ60 μ60) := by
    intro g hf σ4 μ4 Z4 d0 d1 x4
    refine sc_out Z4 d0 d1 (fun g => G.1 g nff) (fun g => ?_) (fun σ5 μ5 C5 => ?_)
    · obtain ⟨_, g2, g10⟩ := G.2 g
      exact ⟨by rw [g2]; dsimp only; rw [ux_n (by omega)]; exact h2, (hch.fx x4).ch (by rw [g10]; dsimp only; rw [ux_n (by omega)]) dn.1 (h11_of hI)⟩
    · have := yes g σ5 μ5 C5
      unfold bmB at this
      rw [itp_pos hf] at this
      rw [i_p1]; exact this
  have c39 : wb_X4_countUp_39 Q σ1 μ1 x (nI (bmV X (tn x))) := by
    refine pk_lt (bmV X (tn x)) 16777215 (fun hv => ?_) (fun hv => ?_) rfl rfl
    rotate_left
    · have ng : ¬ bmG X x := fun c => by have := c.2.2.2; omega
      have := hQ σ1 μ1 (by
        unfold bmX; rw [itp_neg ng]
        obtain ⟨⟨⟨q3, q4, q5, q8, q9, q10⟩, qb⟩, q1, on, off, qc⟩ := hC
        have fe : ∀ q, q < 11 → σ1 q = σ q := fun q hq => f1 q (by omega) (by omega) (by omega) (by omega)
        exact ⟨⟨⟨by rw [fe _ (by omega)]; exact q3, by rw [fe _ (by omega)]; exact q4, by rw [fe _ (by omega)]; exact q5, by rw [fe _ (by omega)]; exact q8, by rw [fe _ (by omega)]; exact q9, by rw [fe _ (by omega)]; exact q10⟩, ⟨fun s p w1 w2 => by rw [g1 0 (by omega)]; exact qb.1 s p w1 w2, fun s w1 => by rw [g1 1 (by omega)]; exact qb.2 s w1⟩⟩, by rw [fe _ (by omega)]; exact q1, fun c => by rw [fe _ (by omega), fe _ (by omega)]; exact on c, fun c => by rw [fe _ (by omega), fe _ (by omega)]; exact off c, qc.fx hx1⟩)
      unfold bmA at this; rw [itp_neg ng] at this; exact this
    have g : bmG X x := ⟨h2, h10, ⟨ha, hb⟩, hv⟩
    refine sc_unspentPlace hB (by omega) D1 (by omega) ?_ (tn_e x)
    by_cases hu : bmU X (tn x)
    · have kd1 := kd_ct hB hu.1 ha
      have hf := hu.2
      rw [fz8] at hf
      have hen := ent hB (nwt_i hB hu.1).1
      have h14 := hen.2.2.1 kd1
      have hfl := fzN_le X (X 3) (bmP X (tn x)) 8
      have eu : usN X (X 3) (tn x) = bmP X (tn x) + (fzN X (X 3) (bmP X (tn x)) 8 - 1) + 1 := by unfold usN; rw [itp_pos ⟨hu.1, kd1, hf⟩]; rfl
      have hbp' : bmP X (tn x) + 8 ≤ X 1 := by unfold bmP; omega
      have hlt : bmP X (tn x) + (fzN X (X 3) (bmP X (tn x)) 8 - 1) < X 1 := by omega
      have hnz := fz_bt X (X 3) (bmP X (tn x)) 8 hf
      have hbb := hB.b (s := X 3) (p := bmP X (tn x) + (fzN X (X 3) (bmP X (tn x)) 8 - 1)) (by omega) (by omega)
      rw [eu, nwI_some (by omega), Nat.add_sub_cancel]
      refine ⟨fun z => absurd (by rw [z]; decide) (nI_pos (n := bmP X (tn x) + (fzN X (X 3) (bmP X (tn x)) 8 - 1)) (by omega)), fun _ => ?_⟩
      have S1 : RCs σ1 X := by
        obtain ⟨q3, q4, q5, q8, q9, q10⟩ := hC.1.1
        have fe : ∀ q, q < 11 → σ1 q = σ q := fun q hq => f1 q (by omega) (by omega) (by omega) (by omega)
        exact ⟨by rw [fe _ (by omega)]; exact q3, by rw [fe _ (by omega)]; exact q4, by rw [fe _ (by omega)]; exact q5, by rw [fe _ (by omega)]; exact q8, by rw [fe _ (by omega)]; exact q9, by rw [fe _ (by omega)]; exact q10⟩
      have B1 : RCb μ1 X := ⟨fun s p w1 w2 => by rw [g1 0 (by omega)]; exact hC.1.2.1 s p w1 w2, fun s w1 => by rw [g1 1 (by omega)]; exact hC.1.2.2 s w1⟩
      refine sc_peek S1 B1 b6 b128 (s := X 3) h3 hlt (sc_highestBit (by omega) (by omega) ?_) c0 rfl
      rw [hbx _ (by omega)]
      have ez : bmZ X (tn x) = guZ (ux X 8 0) (X 3) (bmP X (tn x)) (ux X 8 0, false) := by unfold bmZ; rw [itp_pos hu]
      have ez2 : bmZ X (tn x) = wr (X 3) (bmP X (tn x) + (fzN X (X 3) (bmP X (tn x)) 8 - 1)) (bt X (X 3) (bmP X (tn x) + (fzN X (X 3) (bmP X (tn x)) 8 - 1)) - hb8 (bt X (X 3) (bmP X (tn x) + (fzN X (X 3) (bmP X (tn x)) 8 - 1)))) (ux X 8 0, false) := by
        rw [ez]; unfold guZ; rw [fz8, bt_ux (by omega)]
      refine sc_write Z1 hZB (s := X 3) (p := bmP X (tn x) + (fzN X (X 3) (bmP X (tn x)) 8 - 1)) (by dsimp only; rw [ux_n (by omega)]; exact h3) (by dsimp only; rw [ux_n (by omega)]; exact hlt) (fun σ4 μ4 Z4 F4 => ?_) c0 rfl rfl
      refine o g (Or.inl hu) σ4 μ4 (by rw [ez2]; exact Z4) ?_ ?_ (hx1.tr (FX.fd F4))
      · rw [F4.1 0 (by omega) (by omega) (by omega) (by omega) (by omega), c0, ez2, wr_far fq3]; dsimp only; rw [u3]
      · rw [F4.1 1 (by omega) (by omega) (by omega) (by omega) (by omega), c1, ez2, wr_far (by unfold fq; omega)]; dsimp only; rw [u7]
    · have eu : usN X (X 3) (tn x) = 0 := by
        unfold usN
        rw [itp_neg (fun c => hu ⟨c.1, by rw [fz8]; exact c.2.2⟩)]
      rw [eu]
      refine ⟨fun _ => ?_, fun z => absurd rfl z⟩
      refine sc_makeRoom (m := 14) Z1 hZB hN h30 (by dsimp only; rw [u3]; exact c0) (by dsimp only; rw [u7]; exact c1) (by omega) (fun hf σ2 μ2 Z2 d0 d1 d2 x2 => ⟨fun _ => ?_, fun z => absurd z (by decide)⟩) (fun hf σ2 μ2 Z2 d0 d1 x2 => ⟨fun z => absurd rfl z, fun _ => ?_⟩) rfl
      · have es : bmZ X (tn x) = lyZ (cB (tn x) (bmV X (tn x) + 1)) (mrZ 14 (ux X 8 0, false)) := by unfold bmZ; rw [itp_neg hu, itp_pos hf]
        have l3 : (bmZ X (tn x)).1 3 = (mrZ 14 (ux X 8 0, false)).1 3 := by rw [es]; unfold lyZ; rw [lay_far fq3]
        have l7 : (bmZ X (tn x)).1 7 = (mrZ 14 (ux X 8 0, false)).1 7 := by rw [es]; unfold lyZ; rw [lay_far (by unfold fq; omega)]
        refine sc_fillCounter (w := bmV X (tn x) + 1) (by omega) (by omega) (fun σ3 μ3 D3 F3 => ?_) (tn_e x) (by rw [i_p1])
        have Z3 := Z2.fr F3
        cases hz : (mrZ 14 (ux X 8 0, false)).2 with
        | false =>
          have hfr := mrZ_fr hZB h30 hf hz (by omega)
          have e1X : (ux X 8 0, false).1 1 = X 1 := show ux X 8 0 1 = X 1 from ux_n (by omega)
          rw [e1X] at hfr
          have m1 : (mrZ 14 (ux X 8 0, false)).1 1 = X 1 := by rw [mrZ_far fq1 (by omega) (by omega)]; exact e1X
          refine sc_writeDraft D3 Z3 (mrZ_XB hZB h30) (s := (mrZ 14 (ux X 8 0, false)).1 3) (p := frE (mrZ 14 (ux X 8 0, false)).1 ((mrZ 14 (ux X 8 0, false)).1 3)) (mrZ_3 hZB h30) (by rw [cB_len, m1]; omega) (fun σ4 μ4 Z4 F4 => ?_) (by rw [F3.1 0 (by omega) (by omega)]; exact d0) (by rw [F3.1 2 (by omega) (by omega)]; exact d2)
          refine o g (Or.inr hf) σ4 μ4 (by rw [es]; exact Z4) ?_ ?_ (hx1.tr (x2.tr ((FX.fr F3).tr (FX.fd F4))))
          · rw [F4.1 0 (by omega) (by omega) (by omega) (by omega) (by omega), F3.1 0 (by omega) (by omega), l3]; exact d0
          · rw [F4.1 1 (by omega) (by omega) (by omega) (by omega) (by omega), F3.1 1 (by omega) (by omega), l7]; exact d1
        | true =>
          have h7 : σ3 7 = 0 := by rw [Z3.2.2, hz]; rfl
          have es2 : bmZ X (tn x) = mrZ 14 (ux X 8 0, false) := by rw [es]; unfold lyZ; rw [lay_g _ _ hz]
          refine sc_writeDraft_g D3 h7 (o g (Or.inr hf) σ3 μ3 (by rw [es2]; exact Z3) ?_ ?_ (hx1.tr (x2.tr (FX.fr F3))))
          · rw [F3.1 0 (by omega) (by omega), l3]; exact d0
          · rw [F3.1 1 (by omega) (by omega), l7]; exact d1
      · have es : bmZ X (tn x) = (ux X 8 0, false) := by unfold bmZ; rw [itp_neg hu, itp_neg hf]
        have := yes g σ2 μ2 (by
          rw [es]
          refine ⟨Z2.1, ?_, fun _ => ⟨?_, Z2.2.2⟩, fun c => ?_, ?_⟩
          · dsimp only; rw [d1, u7]; exact c1
          · dsimp only; rw [d0, u3]; exact c0
          · dsimp only at c; rw [ux_n (by omega)] at c; omega
          · exact (hch.fx (hx1.tr x2)).ch (show ux X 8 0 10 = X 10 from ux_n (by omega)) (fun q _ _ => show ux X 8 0 q = X q from ux_n (by omega)) (h11_of hI))
        unfold bmB at this
        rw [itp_neg (fun c => c.elim hu hf)] at this
        exact this
  refine sc_hasValue hB D1 (by omega) (fun g => ⟨fun z => absurd z (by decide), fun _ => ?_⟩) (fun g => ⟨fun _ => ?_, fun z => absurd rfl z⟩) (tn_e x)
  · refine sc_newestValue hB (by omega) D1 (by omega) ?_ (tn_e x)
    rw [if_neg g.1]
    have kd1 := kd_ct hB g.1 ha
    have el : ln X (X 3) (nwt X (X 3) (tn x) - 1) = 3 := by unfold ln; rw [if_pos kd1]
    have ev : bmV X (tn x) = vlN X (X 3) (nwt X (X 3) (tn x) - 1) := by unfold bmV; rw [if_neg g.1]
    unfold vlL
    rw [if_neg (by omega), ← ev, l2i _ vlt]
    exact c39
  · have h0 : nwt X (X 3) (tn x) = 0 := Classical.byContradiction (fun c => g ⟨c, by unfold ln; rw [if_pos (kd_ct hB c ha)]; omega⟩)
    have ev : bmV X (tn x) = 0 := by unfold bmV; rw [if_pos h0]
    rw [ev] at c39
    exact c39
end CI
