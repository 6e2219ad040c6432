/-! theirs: telling, a change written -/
section CJ
variable {σ : Rg} {μ : Ar} {X : Nat → Nat} {N k : Nat}
theorem sc_find (hG : CHg X σ μ) (h11 : X 11 ≤ 8) (hl : ∀ k, k < X 11 → X (12 + k) ≤ 31) {t : Nat} (ht : t ≤ 31) {Q : Int32 → Rg → Ar → Prop} (hQ : Q (nwI (icN X t (X 11))) σ μ) {x : Int32} (hx : x = nI t) : wp_X0_find σ μ x Q := by
  subst hx
  have key : ∀ d j, j + d = X 11 → icN X t j = 0 → wl_X0_find_2 Q (d + 1) σ μ (nI t) (nI j) := by
    intro d
    induction d with
    | zero =>
      intro j hj h0
      have e : j = X 11 := by omega
      refine pk_le (X 11) j (fun _ => ?_) (fun z => absurd z (by omega)) hG.1 rfl
      rw [e] at h0
      rw [h0] at hQ; exact hQ
    | succ d ih =>
      intro j hj h0
      refine pk_le (X 11) j (fun z => absurd z (by omega)) (fun _ => ?_) hG.1 rfl
      have hlj := hl j (by omega)
      have e1 : icN X t (j + 1) = if X (12 + j) = t then j + 1 else 0 := by
        show (if icN X t j ≠ 0 then _ else _) = _
        rw [if_neg (by omega)]
      refine ⟨pk_in j 8 (by omega) rfl, ?_⟩
      rw [nI_clamp (by omega), (hG.2 j (by omega)).1]
      refine And.comm.mp (pk_eq (X (12 + j)) t (fun z => ?_) (fun z y ey => ?_) rfl rfl)
      · rw [if_pos z] at e1
        have stay : ∀ e, icN X t (j + 1 + e) = j + 1 := by
          intro e
          induction e with
          | zero => exact e1
          | succ e ihe =>
            show (if icN X t (j + 1 + e) ≠ 0 then icN X t (j + 1 + e) else _) = _
            rw [ihe, if_pos (by omega)]
        have := stay d
        rw [show j + 1 + d = X 11 by omega] at this
        rw [this] at hQ; exact hQ
      · rw [ey, i_p1]
        exact ih (j + 1) (by omega) (by rw [e1, if_neg z])
  exact ⟨X 11 + 1, key (X 11) 0 (by omega) rfl⟩
theorem RCs.ex {Y : Nat → Nat} (h : RCs σ X) (he : ∀ q, q < 10 → Y q = X q) : RCs σ Y := by
  obtain ⟨a3, a4, a5, a8, a9, a10⟩ := h
  exact ⟨by rw [he _ (by omega)]; exact a3, by rw [he _ (by omega)]; exact a4, by rw [he _ (by omega)]; exact a5, by rw [he _ (by omega)]; exact a8, by rw [he _ (by omega)]; exact a9, by rw [he _ (by omega)]; exact a10⟩
theorem RCb.ex {Y : Nat → Nat} (h : RCb μ X) (h0 : Y 0 = X 0) (h1 : Y 1 = X 1) (he : ∀ q, 36 ≤ q → Y q = X q) : RCb μ Y := by
  refine ⟨fun s p q1 q2 => ?_, fun s q1 => ?_⟩
  · rw [h0] at q1
    rw [h1] at q2 ⊢
    unfold bt
    rw [he _ (by omega)]; exact h.1 s p q1 q2
  · rw [h0] at q1
    rw [he _ (by omega)]; exact h.2 s q1
theorem sc_tell (hC : RCn σ μ X) (hI : IX N X) (h10 : X 10 = 1) {t n : Nat} {v : Int32} (ht : t ≤ 31) {Q : Int32 → Rg → Ar → Prop} (hQ : ∀ σ' μ', RCn σ' μ' (tlX X t v.toBitVec.toNat n) → Q (tlA X t) σ' μ') {x y : Int32} (hx : x = nI t) (hy : y = nI n) : wp_X0_tell σ μ x v y Q := by
  subst hx hy
  obtain ⟨c1, c2⟩ := hI.2.2 h10
  obtain ⟨⟨hS, hb⟩, h1, on, off, hch⟩ := hC
  obtain ⟨h15, hG⟩ := hch.1 h10
  have hle := icN_le X t (X 11)
  have lay3 : ∀ (Y : Nat → Nat) (σ1 : Rg) (k : Nat), k < 8 → (∀ q, q ≠ 16 → σ1 q = σ q) → (∀ q, q ≠ 11 → Y q = X q) → σ1 16 = nI (Y 11) → k < Y 11 → Y 11 ≤ 8 → (∀ j, j < Y 11 → j ≠ k → j < X 11) → tlX X t v.toBitVec.toNat n = tl3 Y k t v.toBitVec.toNat n → tlA X t = 0 → wb_X0_tell_40 Q σ1 μ (nI t) v (nI n) (nI k) := by
    intro Y σ1 k hk fs fy s16 kY Y8 hj ex ea
    have vin : vp_in (nI k) 8 := pk_in k 8 hk rfl
    refine ⟨vin, fun μ2 e2 => ⟨vin, fun μ3 e3 => ⟨vin, fun μ4 e4 => ?_⟩⟩⟩
    rw [nI_clamp (by omega)] at e2 e3 e4
    have far : ∀ q, q < 11 ∨ 36 ≤ q → tl3 Y k t v.toBitVec.toNat n q = X q := fun q hq => by
      unfold tl3
      rw [ux_n (by omega), ux_n (by omega), ux_n (by omega)]
      exact fy q (by omega)
    have e11 : tl3 Y k t v.toBitVec.toNat n 11 = Y 11 := by
      unfold tl3
      rw [ux_n (by omega), ux_n (by omega), ux_n (by omega)]
    have := hQ σ1 μ4 (by
      rw [ex]
      refine ⟨⟨?_, ?_⟩, ?_, fun c => ?_, fun c => ?_, fun _ => ⟨?_, ?_, fun j hlt => ?_⟩, fun c => ?_⟩
      · obtain ⟨a3, a4, a5, a8, a9, a10⟩ := hS
        exact RCs.ex (X := X) ⟨by rw [fs _ (by omega)]; exact a3, by rw [fs _ (by omega)]; exact a4, by rw [fs _ (by omega)]; exact a5, by rw [fs _ (by omega)]; exact a8, by rw [fs _ (by omega)]; exact a9, by rw [fs _ (by omega)]; exact a10⟩ (fun q hq => far q (by omega))
      · have hb4 : RCb μ4 X := by
          refine ⟨fun s p q1 q2 => ?_, fun s q1 => ?_⟩
          · rw [e4, ua_n (by omega), e3, ua_n (by omega), e2, ua_n (by omega)]; exact hb.1 s p q1 q2
          · rw [e4, ua_n (by omega), e3, ua_n (by omega), e2, ua_n (by omega)]; exact hb.2 s q1
        exact hb4.ex (far 0 (by omega)) (far 1 (by omega)) (fun q hq => far q (by omega))
      · rw [fs _ (by omega), far 7 (by omega)]; exact h1
      · rw [far 2 (by omega)] at c
        rw [fs _ (by omega), fs _ (by omega), far 3 (by omega)]; exact on c
      · rw [far 2 (by omega)] at c
        rw [fs _ (by omega), fs _ (by omega)]; exact off c
      · rw [fs _ (by omega)]; exact h15
      · rw [e11]; exact s16
      · rw [e11] at hlt
        by_cases g : j = k
        · subst g
          refine ⟨?_, ?_, ?_⟩
          · rw [e4, ua_n (by omega), e3, ua_n (by omega), e2, ua_s, up_s]
            unfold tl3; rw [ux_n (by omega), ux_n (by omega), ux_s]
          · rw [e4, ua_n (by omega), e3, ua_s, up_s]
            unfold tl3; rw [ux_n (by omega), ux_s]; exact nI_bv v
          · rw [e4, ua_s, up_s]
            unfold tl3; rw [ux_s]
        · obtain ⟨q1, q2, q3⟩ := hG.2 j (hj j hlt g)
          refine ⟨?_, ?_, ?_⟩
          · rw [e4, ua_n (by omega), e3, ua_n (by omega), e2, ua_s, up_n g, q1]
            unfold tl3; rw [ux_n (by omega), ux_n (by omega), ux_n (by omega), fy _ (by omega)]
          · rw [e4, ua_n (by omega), e3, ua_s, up_n g, e2, ua_n (by omega), q2]
            unfold tl3; rw [ux_n (by omega), ux_n (by omega), ux_n (by omega), fy _ (by omega)]
          · rw [e4, ua_s, up_n g, e3, ua_n (by omega), e2, ua_n (by omega), q3]
            unfold tl3; rw [ux_n (by omega), ux_n (by omega), ux_n (by omega), fy _ (by omega)]
      · rw [far 10 (by omega)] at c; omega)
    rw [ea] at this
    exact this
  refine sc_find hG c1 (fun k hk => (c2 k hk).1) ht ?_ rfl
  by_cases h0 : icN X t (X 11) = 0
  · rw [h0]
    refine ⟨fun z => absurd rfl z, fun _ => ?_⟩
    refine pk_lt (X 11) 8 (fun g y ey σ1 e1 => ?_) (fun g => ?_) hG.1 rfl
    · rw [ey, hG.1]
      refine lay3 (ux X 11 (X 11 + 1)) σ1 (X 11) (by omega) (fun q hq => by rw [e1, up_n hq]) (fun q hq => ux_n hq) (by rw [e1, up_s, hG.1, i_p1, ux_s]) (by rw [ux_s]; omega) (by rw [ux_s]; omega) (fun j hj hne => by rw [ux_s] at hj; omega) ?_ ?_
      · unfold tlX; rw [if_neg (by omega), if_neg (by omega)]
      · unfold tlA; rw [if_neg (by omega), if_neg (by omega)]
    · have e8 : X 11 = 8 := by omega
      have ex : tlX X t v.toBitVec.toNat n = X := by unfold tlX; rw [if_neg (by omega), if_pos e8]
      have ea : tlA X t = -1 := by unfold tlA; rw [if_neg (by omega), if_pos e8]
      have := hQ σ μ (by rw [ex]; exact ⟨⟨hS, hb⟩, h1, on, off, hch⟩)
      rw [ea] at this; exact this
  · rw [nwI_some h0]
    refine ⟨fun _ => ?_, fun z => absurd (by rw [z]; decide) (nI_pos (n := icN X t (X 11) - 1) (by omega))⟩
    refine lay3 X σ _ (by omega) (fun _ _ => rfl) (fun _ _ => rfl) hG.1 (by omega) c1 (fun j hj _ => hj) ?_ ?_
    · unfold tlX; rw [if_pos h0]
    · unfold tlA; rw [if_pos h0]
theorem sc_bytesToWrite (hG : CHg X σ μ) (h11 : X 11 ≤ 8) {Q : Int32 → Rg → Ar → Prop} (hQ : Q (nI (cmS X (X 11))) σ μ) : wp_X0_bytesToWrite σ μ Q := by
  have key : ∀ d j, j + d = X 11 → wl_X0_bytesToWrite_4 Q (d + 1) σ μ (nI (cmS X j)) (nI j) := by
    intro d
    induction d with
    | zero =>
      intro j hj
      have e : j = X 11 := by omega
      subst e
      exact pk_le (X 11) (X 11) (fun _ => hQ) (fun z => absurd z (by omega)) hG.1 rfl
    | succ d ih =>
      intro j hj
      refine pk_le (X 11) j (fun z => absurd z (by omega)) (fun _ => ⟨pk_in j 8 (by omega) rfl, fun y ey y2 ey2 => ?_⟩) hG.1 rfl
      rw [nI_clamp (by omega), (hG.2 j (by omega)).2.2, show (3 : Int32) = nI 3 from rfl, nI_add, nI_add] at ey
      rw [ey, ey2, i_p1]
      exact ih (j + 1) (by omega)
  exact ⟨X 11 + 1, key (X 11) 0 (by omega)⟩
theorem CHg.fx {σ' : Rg} {μ' : Ar} (h : CHg X σ μ) (f : FX σ μ σ' μ') : CHg X σ' μ' := ⟨by rw [f.2.1]; exact h.1, fun j hj => by rw [f.2.2 9 (by omega) (by omega), f.2.2 10 (by omega) (by omega), f.2.2 11 (by omega) (by omega)]; exact h.2 j hj⟩
theorem sc_writeChange (hC : RCn σ μ X) (hI : IX N X) (hN : N < 2 ^ 28) (h2 : X 2 = 1) (h10 : X 10 = 1) (h0' : X 11 ≠ 0) {Q : Int32 → Rg → Ar → Prop} (hQ : ∀ σ' μ', RCn σ' μ' (cmX X) → Q (cmA X) σ' μ') : wp_X4_writeChange σ μ Q := by
  have hB := hI.1
  have b128 := hB.2.2.2.1
  have h3 := hI.2.1
  have hch : RCh X σ μ := hC.2.2.2.2
  obtain ⟨c1, c2⟩ := hI.2.2 h10
  obtain ⟨h15, hG⟩ := hch.1 h10
  have hZB : XB N (ux X 8 0) := x8_XB hB
  have h30 := x8_3 h3
  have u3 : (ux X 8 0) 3 = X 3 := ux_n (by omega)
  have u7 : (ux X 8 0) 7 = X 7 := ux_n (by omega)
  have sl := cmS_le (X := X) (fun k hk => (c2 k hk).2)
  have sm' := sl (X 11) (Nat.le_refl _)
  unfold cmX cmA at hQ
  have n10 : ¬ X 10 = 0 := by omega
  rw [if_neg n10, if_neg n10, if_neg h0', if_neg h0'] at hQ
  intro σ1 e1
  obtain ⟨Z1, a0, a1, x1⟩ := hC.z0 h2 e1
  refine sc_bytesToWrite (hG.fx x1) c1 ?_
  refine sc_makeRoom (m := cmS X (X 11)) Z1 hZB hN h30 (by dsimp only; rw [u3]; exact a0) (by dsimp only; rw [u7]; exact a1) (by omega) (fun hf σ2 μ2 Z2 d0 d1 d2 x2 => ⟨fun _ => ⟨X 11 + 1, ?_⟩, fun z => absurd z (by decide)⟩) (fun hf σ2 μ2 Z2 d0 d1 x2 => ⟨fun z => absurd rfl z, fun _ => ?_⟩) rfl
  rotate_left
  · rw [itp_neg hf, itp_neg hf] at hQ
    refine hQ σ2 μ2 ⟨Z2.1, ?_, fun _ => ⟨?_, Z2.2.2⟩, fun c => ?_, ?_⟩
    · rw [d1, u7]; exact a1
    · rw [d0, u3]; exact a0
    · rw [ux_n (by omega)] at c; omega
    · exact (hch.fx (x1.tr x2)).ch (ux_n (by omega)) (fun q _ _ => ux_n (by omega)) (h11_of hI)
  rw [itp_pos hf, itp_pos hf] at hQ
  have hB2 := mrZ_XB (m := cmS X (X 11)) (Z := (ux X 8 0, false)) hZB h30
  have h32 := mrZ_3 (m := cmS X (X 11)) (Z := (ux X 8 0, false)) hZB h30
  have G : GZ (ux X 8 0, false) (cmF X) := gz_tr gz_mrZ (gz_lay _ _)
  have l3 : (cmF X).1 3 = (mrZ (cmS X (X 11)) (ux X 8 0, false)).1 3 := by unfold cmF lyZ; rw [lay_far fq3]
  have l7 : (cmF X).1 7 = (mrZ (cmS X (X 11)) (ux X 8 0, false)).1 7 := by unfold cmF lyZ; rw [lay_far (by unfold fq; omega)]
  -- the end
  have o : ∀ σ4 μ4, RZ 0 σ4 μ4 (cmF X) → σ4 0 = nI ((cmF X).1 3) → σ4 1 = nI ((cmF X).1 7) → wp_X0_forget σ4 μ4 (fun σ152 μ152 => wp_X4_outcome σ152 μ152 (σ152 6) (fun r163 σ163 μ163 => Q r163 σ163 μ163)) := by
    intro σ4 μ4 Z4 c0 c1' σ5 e5 σ6 e6
    have s6 : ∀ q, q ≠ 15 → q ≠ 16 → σ6 q = σ4 q := fun q q15 q16 => by rw [e6, up_n q16, e5, up_n q15]
    have Z6 : RZ 0 σ6 μ4 (ux (cmF X).1 10 0, (cmF X).2) := by
      obtain ⟨⟨hS, hb⟩, k6, k7⟩ := Z4.f2 (σ' := σ6) (fun q q1 q2 => s6 q (by omega) (by omega))
      refine ⟨⟨hS.ex (fun q hq => show ux (cmF X).1 10 0 q = (cmF X).1 q from ux_n (by omega)), hb.ex (show ux (cmF X).1 10 0 0 = (cmF X).1 0 from ux_n (by omega)) (show ux (cmF X).1 10 0 1 = (cmF X).1 1 from ux_n (by omega)) (fun q hq => show ux (cmF X).1 10 0 q = (cmF X).1 q from ux_n (by omega))⟩, ?_, k7⟩
      dsimp only; rw [ux_n (by omega)]; exact k6
    refine sc_out Z6 (by rw [s6 0 (by omega) (by omega)]; dsimp only; rw [ux_n (by omega)]; exact c0) (by rw [s6 1 (by omega) (by omega)]; dsimp only; rw [ux_n (by omega)]; exact c1') (fun g => ?_) (fun g => ?_) (fun σ7 μ7 C7 => ?_)
    · dsimp only at g ⊢
      rw [ux_n (by omega), ux_s]
      exact ⟨(G.1 g nff).1, rfl⟩
    · dsimp only at g ⊢
      obtain ⟨_, g2, _⟩ := G.2 g
      rw [ux_n (by omega)]
      refine ⟨by rw [g2]; dsimp only; rw [ux_n (by omega)]; exact h2, fun c => ?_, fun _ => ?_⟩
      · rw [ux_s] at c; exact absurd c (by decide)
      · rw [e6, up_n (by omega), e5, up_s]
    · have := hQ σ7 μ7 C7
      unfold tdI at this
      rw [Z6.2.1]
      dsimp only at this ⊢
      rw [ux_n (by omega), Nat.zero_add]
      exact this
  cases hz : (mrZ (cmS X (X 11)) (ux X 8 0, false)).2 with
  | true =>
    have ez : cmF X = mrZ (cmS X (X 11)) (ux X 8 0, false) := by unfold cmF lyZ; rw [lay_g _ _ hz]
    have lg : ∀ d j, j + d = X 11 → ∀ σ3 μ3, RZ 0 σ3 μ3 (mrZ (cmS X (X 11)) (ux X 8 0, false)) → σ3 0 = nI ((mrZ (cmS X (X 11)) (ux X 8 0, false)).1 3) → σ3 1 = nI ((mrZ (cmS X (X 11)) (ux X 8 0, false)).1 7) → CHg X σ3 μ3 → wl_X4_writeChange_27 Q (d + 1) σ3 μ3 (nI j) := by
      intro d
      induction d with
      | zero =>
        intro j hj σ3 μ3 Z3 q0 q1 G3'
        have e : j = X 11 := by omega
        subst e
        refine pk_le (X 11) (X 11) (fun _ => ?_) (fun z => absurd z (by omega)) G3'.1 rfl
        refine sc_fillCommit c1 (fun σ4 μ4 D4 F4 => ?_) G3'.1
        have Z4 := Z3.fr F4
        have h7 : σ4 7 = 0 := by rw [Z4.2.2, hz]; rfl
        refine sc_writeDraft_g D4 h7 (o σ4 μ4 (by rw [ez]; exact Z4) ?_ ?_)
        · rw [F4.1 0 (by omega) (by omega), l3]; exact q0
        · rw [F4.1 1 (by omega) (by omega), l7]; exact q1
      | succ d ih =>
        intro j hj σ3 μ3 Z3 q0 q1 G3'
        have vin : vp_in (nI j) 8 := pk_in j 8 (by omega) rfl
        have cj := c2 j (by omega)
        obtain ⟨w1, w2, w3⟩ := G3'.2 j (by omega)
        refine pk_le (X 11) j (fun z => absurd z (by omega)) (fun _ => ⟨vin, vin, vin, ?_⟩) G3'.1 rfl
        rw [nI_clamp (by omega), w1, w2, w3]
        refine sc_fillSetting (a := 48) cj.2 (by omega) (fun σ4 μ4 D4 F4 => ?_) rfl rfl rfl
        have Z4 := Z3.fr F4
        have h7 : σ4 7 = 0 := by rw [Z4.2.2, hz]; rfl
        refine sc_writeDraft_g D4 h7 (fun σ5 e5 y ey => ?_)
        rw [ey, i_p1]
        refine ih (j + 1) (by omega) σ5 μ4 (Z4.f2 (fun q _ _ => by rw [e5, up_n (by omega)])) ?_ ?_ ?_
        · rw [e5, up_n (by omega), F4.1 0 (by omega) (by omega)]; exact q0
        · rw [e5, up_n (by omega), F4.1 1 (by omega) (by omega)]; exact q1
        · have := G3'.fx (FX.fr F4)
          exact ⟨by rw [e5, up_n (by omega)]; exact this.1, this.2⟩
    exact lg (X 11) 0 (by omega) σ2 μ2 Z2 d0 d1 (hG.fx (x1.tr x2))
  | false =>
    have hf2 := mrZ_fr hZB h30 hf hz (by have := cmS_ge X (X 11); omega)
    have e1X : (ux X 8 0, false).1 1 = X 1 := show ux X 8 0 1 = X 1 from ux_n (by omega)
    rw [e1X] at hf2
    have m1 : (mrZ (cmS X (X 11)) (ux X 8 0, false)).1 1 = X 1 := by rw [mrZ_far fq1 (by omega) (by omega)]; exact e1X
    have lp : ∀ d j, j + d = X 11 → ∀ σ3 μ3, RZ 0 σ3 μ3 (lyZ (cmP X j) (mrZ (cmS X (X 11)) (ux X 8 0, false))) → σ3 0 = nI ((mrZ (cmS X (X 11)) (ux X 8 0, false)).1 3) → σ3 1 = nI ((mrZ (cmS X (X 11)) (ux X 8 0, false)).1 7) → σ3 2 = nI (frE (mrZ (cmS X (X 11)) (ux X 8 0, false)).1 ((mrZ (cmS X (X 11)) (ux X 8 0, false)).1 3) + (cmS X j - 4)) → CHg X σ3 μ3 → wl_X4_writeChange_27 Q (d + 1) σ3 μ3 (nI j) := by
      intro d
      induction d with
      | zero =>
        intro j hj σ3 μ3 Z3 q0 q1 q2 G3'
        have e : j = X 11 := by omega
        subst e
        have hg := cmS_ge X (X 11)
        have f0 : (lyZ (cmP X (X 11)) (mrZ (cmS X (X 11)) (ux X 8 0, false))).1 0 = (mrZ (cmS X (X 11)) (ux X 8 0, false)).1 0 := by unfold lyZ; rw [lay_far fq0]
        have f1 : (lyZ (cmP X (X 11)) (mrZ (cmS X (X 11)) (ux X 8 0, false))).1 1 = X 1 := by unfold lyZ; rw [lay_far fq1, m1]
        refine pk_le (X 11) (X 11) (fun _ => ?_) (fun z => absurd z (by omega)) G3'.1 rfl
        refine sc_fillCommit c1 (fun σ4 μ4 D4 F4 => ?_) G3'.1
        refine sc_writeDraft D4 (Z3.fr F4) (lyZ_XB hB2) (s := (mrZ (cmS X (X 11)) (ux X 8 0, false)).1 3) (p := frE (mrZ (cmS X (X 11)) (ux X 8 0, false)).1 ((mrZ (cmS X (X 11)) (ux X 8 0, false)).1 3) + (cmS X (X 11) - 4)) (by rw [f0]; exact h32) (by rw [f1]; show _ + 4 ≤ _; omega) (fun σ5 μ5 Z5 F5 => ?_) (by rw [F4.1 0 (by omega) (by omega)]; exact q0) (by rw [F4.1 2 (by omega) (by omega)]; exact q2)
        have ez : cmF X = lay ((mrZ (cmS X (X 11)) (ux X 8 0, false)).1 3) (frE (mrZ (cmS X (X 11)) (ux X 8 0, false)).1 ((mrZ (cmS X (X 11)) (ux X 8 0, false)).1 3) + (cmS X (X 11) - 4)) (ckd [63, 65, X 11]) (lyZ (cmP X (X 11)) (mrZ (cmS X (X 11)) (ux X 8 0, false))) := by
          have hl := cmP_len X (X 11)
          unfold cmF cmL lyZ
          rw [lay_app, show cmS X (X 11) - 4 = (cmP X (X 11)).length by omega]
        refine o σ5 μ5 (by rw [ez]; exact Z5) ?_ ?_
        · rw [F5.1 0 (by omega) (by omega) (by omega) (by omega) (by omega), F4.1 0 (by omega) (by omega), l3]; exact q0
        · rw [F5.1 1 (by omega) (by omega) (by omega) (by omega) (by omega), F4.1 1 (by omega) (by omega), l7]; exact q1
      | succ d ih =>
        intro j hj σ3 μ3 Z3 q0 q1 q2 G3'
        have vin : vp_in (nI j) 8 := pk_in j 8 (by omega) rfl
        have cj := c2 j (by omega)
        obtain ⟨w1, w2, w3⟩ := G3'.2 j (by omega)
        have hsj : cmS X (j + 1) ≤ cmS X (X 11) := by
          have : ∀ e, cmS X (j + 1) ≤ cmS X (j + 1 + e) := by
            intro e
            induction e with
            | zero => exact Nat.le_refl _
            | succ e ihe => show _ ≤ cmS X (j + 1 + e) + _; omega
          have := this d
          rw [show j + 1 + d = X 11 by omega] at this; exact this
        have es : cmS X (j + 1) = cmS X j + (3 + X (28 + j)) := rfl
        have hg := cmS_ge X j
        have f0 : (lyZ (cmP X j) (mrZ (cmS X (X 11)) (ux X 8 0, false))).1 0 = (mrZ (cmS X (X 11)) (ux X 8 0, false)).1 0 := by unfold lyZ; rw [lay_far fq0]
        have f1 : (lyZ (cmP X j) (mrZ (cmS X (X 11)) (ux X 8 0, false))).1 1 = X 1 := by unfold lyZ; rw [lay_far fq1, m1]
        refine pk_le (X 11) j (fun z => absurd z (by omega)) (fun _ => ⟨vin, vin, vin, ?_⟩) G3'.1 rfl
        rw [nI_clamp (by omega), w1, w2, w3]
        refine sc_fillSetting (a := 48) cj.2 (by omega) (fun σ4 μ4 D4 F4 => ?_) rfl rfl rfl
        rw [← sB_w 48 _ _ cj.2] at D4
        change DR (sB 48 (X (12 + j)) (X (28 + j)) (cmW X j)) σ4 μ4 at D4
        refine sc_writeDraft D4 (Z3.fr F4) (lyZ_XB hB2) (s := (mrZ (cmS X (X 11)) (ux X 8 0, false)).1 3) (p := frE (mrZ (cmS X (X 11)) (ux X 8 0, false)).1 ((mrZ (cmS X (X 11)) (ux X 8 0, false)).1 3) + (cmS X j - 4)) (by rw [f0]; exact h32) (by rw [f1, sB_len]; omega) (fun σ5 μ5 Z5 F5 σ6 e6 y ey => ?_) (by rw [F4.1 0 (by omega) (by omega)]; exact q0) (by rw [F4.1 2 (by omega) (by omega)]; exact q2)
        rw [ey, i_p1]
        have ez : lyZ (cmP X (j + 1)) (mrZ (cmS X (X 11)) (ux X 8 0, false)) = lay ((mrZ (cmS X (X 11)) (ux X 8 0, false)).1 3) (frE (mrZ (cmS X (X 11)) (ux X 8 0, false)).1 ((mrZ (cmS X (X 11)) (ux X 8 0, false)).1 3) + (cmS X j - 4)) (sB 48 (X (12 + j)) (X (28 + j)) (cmW X j)) (lyZ (cmP X j) (mrZ (cmS X (X 11)) (ux X 8 0, false))) := by
          have hl := cmP_len X j
          unfold lyZ
          rw [show cmP X (j + 1) = cmP X j ++ sB 48 (X (12 + j)) (X (28 + j)) (cmW X j) from rfl, lay_app, show cmS X j - 4 = (cmP X j).length by omega]
        have g0 : ∀ q, q = 0 ∨ q = 1 ∨ q = 2 → σ5 q = σ3 q := fun q hq => by rw [F5.1 q (by omega) (by omega) (by omega) (by omega) (by omega), F4.1 q (by omega) (by omega)]
        refine ih (j + 1) (by omega) σ6 μ5 (by rw [ez]; exact Z5.f2 (fun q _ _ => by rw [e6, up_n (by omega)])) ?_ ?_ ?_ ?_
        · rw [e6, up_n (by omega), g0 0 (by omega)]; exact q0
        · rw [e6, up_n (by omega), g0 1 (by omega)]; exact q1
        · rw [e6, up_s, g0 2 (by omega), q2, (D4.fd F5).1, sB_len, nI_add, Nat.add_assoc, show cmS X j - 4 + (3 + X (28 + j)) = cmS X (j + 1) - 4 by omega]
        · have := G3'.fx ((FX.fr F4).tr (FX.fd F5))
          exact ⟨by rw [e6, up_n (by omega)]; exact this.1, this.2⟩
    refine lp (X 11) 0 (by omega) σ2 μ2 Z2 d0 d1 ?_ (hG.fx (x1.tr x2))
    rw [d2]; rfl
end CJ
